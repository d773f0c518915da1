theorem RX_back {d σ : St} {r v : Int} (h : RX d σ) : RX (su d 8 r v) (su σ 15 (r * 7 + 6) v) := by
  have S : sam d (su d 8 r v) := sam_k (by decide)
  obtain ⟨⟨a1, a2, a3, a4, a5, a6, a7, a8⟩, b1, b2, b3, b4, b5, b6, b7, b8, b9, c1, c2, c3⟩ := h
  unfold RX
  simp (disch := decide) only [sam_ft S, sam_fg S, sam_sm S, sam_sf S, sam_sl S, su_k]
  refine ⟨⟨a1, a2, a3, a4, a5, a6, a7, a8⟩, fun q h0 h1 => ?_, b2, b3, b4, b5, b6, b7, b8, b9, c1, c2, c3⟩
  obtain ⟨g0, g1, g2, g3, g4, g5, g6⟩ := b1 q h0 h1
  refine ⟨by rw [su_n _ _ _ _ _ (by omega)]; exact g0, by rw [su_n _ _ _ _ _ (by omega)]; exact g1, by rw [su_n _ _ _ _ _ (by omega)]; exact g2, by rw [su_n _ _ _ _ _ (by omega)]; exact g3, by rw [su_n _ _ _ _ _ (by omega)]; exact g4, by rw [su_n _ _ _ _ _ (by omega)]; exact g5, ?_⟩
  rw [su_r, su_r]
  by_cases c : q = r
  · rw [if_pos (by omega), if_pos c]
  · rw [if_neg (by omega), if_neg c]; exact g6
theorem sim_takeBack {N : Nat} {σx σm : St} (h : RR σx σm) : ∀ a : Int, i32 a → OKp RR (x_takeBack N a σx) (m_takeBack N a σm) := by
  obtain ⟨d, hx, hm, hd⟩ := h
  intro a ha
  have h1 := hd.day
  have h2 := hd.rows
  unfold x_takeBack m_takeBack
  rw [x_Rows_has_e N ha hx hd, m_isRow_e N ha hm hd]
  simp only [bd_k, b01_0, itn]
  by_cases c : 0 ≤ a ∧ a < d 0 1
  · have hr := hd.row a c.1 c.2
    have g : inb a 36 := by omega
    rw [if_pos c, if_pos c, xf_6 N hx hd c.1 c.2, bd_k, hm.1 8 rfl]
    simp only [gd_k g]
    simp (disch := omega) only [eq32_i]
    by_cases c2 : d 8 a = -1
    · rw [if_pos c2, if_pos c2]
      unfold x_Rows_takeAway
      rw [gd_k (by omega), bd_k, hx.day, hm.2.1 0 rfl]
      refine ⟨_, _, _, rfl, rfl, su d 8 a (d 0 0), RX_back hx, RM_uk (by decide) (by decide) (by decide) hm rfl, ?_⟩
      unfold DI at hd ⊢
      simp (disch := decide) only [su_k]
      refine ⟨hd.1, hd.2.1, hd.2.2.1, hd.2.2.2.1, hd.2.2.2.2.1, hd.2.2.2.2.2.1, fun q h0 h1 => ?_, hd.2.2.2.2.2.2.2⟩
      have := hd.2.2.2.2.2.2.1 q h0 h1
      refine ⟨this.1, this.2.1, this.2.2.1, this.2.2.2.1, this.2.2.2.2.1, this.2.2.2.2.2.1, ?_⟩
      rw [su_r]
      by_cases c3 : q = a
      · rw [if_pos c3]; omega
      · rw [if_neg c3]; exact this.2.2.2.2.2.2
    · rw [if_neg c2, if_neg c2]
      exact ⟨_, _, _, rfl, rfl, d, hx, hm, hd⟩
  · rw [if_neg c, if_neg c]
    exact ⟨_, _, _, rfl, rfl, d, hx, hm, hd⟩
/-- what about() tells -/
def ab (d : St) (r w : Int) : Int := if w = 0 then d 1 r else if w = 1 then d 4 r else if w = 2 then d 5 r else if w = 3 then d 6 r else if w = 4 then d 3 r else if w = 5 then d 7 r else if w = 6 then d 8 r else if w = 7 then kn d r else -2
theorem m_aboutOf_e (N : Nat) {r w : Int} {d σ : St} (hm : RM d σ) (hd : DI d) (h0 : 0 ≤ r) (h1 : r < d 0 1) (hw : i32 w) : m_aboutOf N r w σ = some (ab d r w, σ) := by
  have h2 := hd.rows
  have g : inb r 36 := by omega
  unfold m_aboutOf ab
  simp (disch := omega) only [s32_i, gd_k g, hm.1 1 rfl, hm.1 3 rfl, hm.1 4 rfl, hm.1 5 rfl, hm.1 6 rfl, hm.1 7 rfl, hm.1 8 rfl]
  rw [m_isKnown_e N hm hd h0 h1, bd_k]
  have hk := kn_r d r
  simp (disch := omega) only [eq32_i]
  by_cases c0 : w = 0
  · simp only [if_pos c0]
  by_cases c1 : w = 1
  · simp only [if_neg c0, if_pos c1]
  by_cases c2 : w = 2
  · simp only [if_neg c0, if_neg c1, if_pos c2]
  by_cases c3 : w = 3
  · simp only [if_neg c0, if_neg c1, if_neg c2, if_pos c3]
  by_cases c4 : w = 4
  · simp only [if_neg c0, if_neg c1, if_neg c2, if_neg c3, if_pos c4]
  by_cases c5 : w = 5
  · simp only [if_neg c0, if_neg c1, if_neg c2, if_neg c3, if_neg c4, if_pos c5]
  by_cases c6 : w = 6
  · simp only [if_neg c0, if_neg c1, if_neg c2, if_neg c3, if_neg c4, if_neg c5, if_pos c6]
  by_cases c7 : w = 7
  · simp only [if_neg c0, if_neg c1, if_neg c2, if_neg c3, if_neg c4, if_neg c5, if_neg c6, if_pos c7]
    by_cases z : kn d r = 0
    · rw [if_pos z, z]
    · rw [if_neg z, show kn d r = 1 by omega]
  · simp only [if_neg c0, if_neg c1, if_neg c2, if_neg c3, if_neg c4, if_neg c5, if_neg c6, if_neg c7]
theorem m_about_e (N : Nat) {r w : Int} {d σ : St} (hm : RM d σ) (hd : DI d) (hr : i32 r) (hw : i32 w) : m_about N r w σ = some (if (0 ≤ r ∧ r < d 0 1) then ab d r w else -2, σ) := by
  unfold m_about
  rw [m_isRow_e N hr hm hd, bd_k]
  simp only [b01_0, itn]
  by_cases c : 0 ≤ r ∧ r < d 0 1
  · rw [if_pos c, if_pos c, m_aboutOf_e N hm hd c.1 c.2 hw, bd_k]
  · rw [if_neg c, if_neg c]
theorem x_about_e (N : Nat) {r w : Int} {d σ : St} (hx : RX d σ) (hd : DI d) (hr : i32 r) (hw : i32 w) : x_about N r w σ = some (if (0 ≤ r ∧ r < d 0 1) then ab d r w else -2, σ) := by
  unfold x_about
  rw [x_Rows_has_e N hr hx hd, bd_k]
  simp only [b01_0, itn]
  by_cases c : 0 ≤ r ∧ r < d 0 1
  · rw [if_pos c, if_pos c, x_isWithin_e N σ (by omega) (by omega) (by omega) (by omega) (by omega) (by omega), bd_k]
    simp only [b01_0, itn]
    by_cases cw : 0 ≤ w ∧ w ≤ 7
    · rw [if_pos cw, x_Rows_isKnown_e N hx hd c.1 c.2, bd_k]
      have hk := kn_r d r
      unfold x_asInt ab
      simp (disch := omega) only [eq32_i]
      rcases (show w = 0 ∨ w = 1 ∨ w = 2 ∨ w = 3 ∨ w = 4 ∨ w = 5 ∨ w = 6 ∨ w = 7 by omega) with e | e | e | e | e | e | e | e
      · subst e; rw [if_neg (by omega), xf_0 N hx hd c.1 c.2, bd_k, if_pos rfl]
      · subst e; rw [if_neg (by omega), xf_1 N hx hd c.1 c.2, bd_k, if_neg (by omega), if_pos rfl]
      · subst e; rw [if_neg (by omega), xf_2 N hx hd c.1 c.2, bd_k, if_neg (by omega), if_neg (by omega), if_pos rfl]
      · subst e; rw [if_neg (by omega), xf_3 N hx hd c.1 c.2, bd_k, if_neg (by omega), if_neg (by omega), if_neg (by omega), if_pos rfl]
      · subst e; rw [if_neg (by omega), xf_4 N hx hd c.1 c.2, bd_k, if_neg (by omega), if_neg (by omega), if_neg (by omega), if_neg (by omega), if_pos rfl]
      · subst e; rw [if_neg (by omega), xf_5 N hx hd c.1 c.2, bd_k, if_neg (by omega), if_neg (by omega), if_neg (by omega), if_neg (by omega), if_neg (by omega), if_pos rfl]
      · subst e; rw [if_neg (by omega), xf_6 N hx hd c.1 c.2, bd_k, if_neg (by omega), if_neg (by omega), if_neg (by omega), if_neg (by omega), if_neg (by omega), if_neg (by omega), if_pos rfl]
      · subst e
        rw [if_pos rfl]
        show bd (if kn d r = 0 then some (0, σ) else some (1, σ)) _ = some (kn d r, σ)
        by_cases z : kn d r = 0
        · rw [if_pos z, bd_k, z]
        · rw [if_neg z, bd_k, show kn d r = 1 by omega]
    · rw [if_neg cw]
      unfold ab
      simp only [if_neg (show ¬ w = 0 by omega), if_neg (show ¬ w = 1 by omega), if_neg (show ¬ w = 2 by omega), if_neg (show ¬ w = 3 by omega), if_neg (show ¬ w = 4 by omega), if_neg (show ¬ w = 5 by omega), if_neg (show ¬ w = 6 by omega), if_neg (show ¬ w = 7 by omega)]
  · rw [if_neg c, if_neg c]
theorem sim_about {N : Nat} {σx σm : St} (h : RR σx σm) : ∀ a : Int, i32 a → ∀ b : Int, i32 b → OKp RR (x_about N a b σx) (m_about N a b σm) := by
  obtain ⟨d, hx, hm, hd⟩ := h
  intro a ha b hb
  exact ⟨_, _, _, x_about_e N hx hd ha hb, m_about_e N hm hd ha hb, d, hx, hm, hd⟩
theorem sim_letter {N : Nat} {σx σm : St} (h : RR σx σm) : ∀ a : Int, i32 a → ∀ b : Int, i32 b → OKp RR (x_letter N a b σx) (m_letter N a b σm) := by
  obtain ⟨d, hx, hm, hd⟩ := h
  intro a ha b hb
  have h2 := hd.rows
  unfold x_letter m_letter
  rw [x_Rows_has_e N ha hx hd, m_isRow_e N ha hm hd]
  simp only [bd_k, b01_0, itn]
  by_cases c : 0 ≤ a ∧ a < d 0 1
  · have hr := hd.row a c.1 c.2
    have g : inb a 36 := by omega
    rw [if_pos c, if_pos c]
    simp (disch := omega) only [le32_i]
    by_cases c2 : 0 ≤ b
    · rw [if_pos c2, if_pos c2, xf_4 N hx hd c.1 c.2, bd_k, gd_k g, hm.1 3 rfl, hm.1 2 rfl]
      simp (disch := omega) only [le32_i, lt32_i]
      by_cases c3 : b < d 3 a
      · unfold x_Rows_letterAt
        rw [if_pos c3, if_neg (by omega), gd_k (by omega), gd_k (by omega), bd_k, hx.let a b c.1 c.2 c2 c3]
        exact ⟨_, _, _, rfl, rfl, d, hx, hm, hd⟩
      · rw [if_neg c3, if_pos (by omega)]
        exact ⟨_, _, _, rfl, rfl, d, hx, hm, hd⟩
    · rw [if_neg c2, if_neg c2]
      exact ⟨_, _, _, rfl, rfl, d, hx, hm, hd⟩
  · rw [if_neg c, if_neg c]
    exact ⟨_, _, _, rfl, rfl, d, hx, hm, hd⟩
