theorem x_Sheets_isLost_e (N : Nat) {a : Int} {d σ : St} (h : 0 ≤ a ∧ a < 4) (hx : RX d σ) (hd : DI d) : x_Sheets_isLost N a σ = some (b01 (d 33 a = 0), σ) := by
  have g := hd.sh a h.1 h.2
  unfold x_Sheets_isLost
  rw [gd_k h, (hx.sh a h.1 h.2).1]
  rcases g.1 with e | e
  · rw [e, show (if (0 : Int) = 1 then d 34 a else -1) = -1 from rfl, if_pos (show eq32 (-1) (-1) from rfl), b01_t rfl]
  · rw [e, show (if (1 : Int) = 1 then d 34 a else -1) = d 34 a from rfl, if_neg (fun z => by rw [eq32_i (by omega) (by omega) (by omega) (by omega)] at z; omega), b01_f (by omega)]
theorem sim_lose {N : Nat} {σx σm : St} (h : RR σx σm) : ∀ a : Int, i32 a → OKp RR (x_lose N a σx) (m_lose N a σm) := by
  obtain ⟨d, hx, hm, hd⟩ := h
  intro a ha
  unfold x_lose m_lose x_Sheets_noteFinding m_meets x_Sheets_forget
  simp (disch := omega) only [x_Sheets_isSheet_e, m_isSheet_e, bd_k, b01_0, itn]
  by_cases c1 : 0 ≤ a ∧ a < 4
  · have g := hd.sh a c1.1 c1.2
    rw [if_pos c1, if_pos c1, x_Sheets_isLost_e N c1 hx hd, bd_k, hm.1 33 rfl]
    simp only [gd_k (show inb a 4 from c1), bd_k, b01_0]
    simp (disch := omega) only [eq32_i]
    by_cases c2 : d 33 a = 0
    · rw [if_neg (fun z => z c2), if_pos c2]
      exact ⟨_, _, _, rfl, rfl, RR_fnd hx hm hd⟩
    · rw [if_pos c2, if_neg c2, su_k _ _ _ (by decide), su_k _ _ _ (by decide), (hx.sh a c1.1 c1.2).2, hm.1 35 rfl]
      refine ⟨_, _, _, rfl, rfl, su d 33 a 0, ?_, RM_uk (by decide) (by decide) (by decide) hm rfl, ?_⟩
      · have S : sam d (su d 33 a 0) := sam_k (by decide)
        obtain ⟨⟨a1, a2, a3, a4, a5, a6, a7, a8⟩, b1, b2, b3, b4, b5, b6, b7, b8, b9, c1', c2', c3'⟩ := hx
        unfold RX
        simp (disch := decide) only [sam_ft S, sam_fg S, sam_sm S, sam_sf S, sam_sl S, su_k]
        refine ⟨⟨a1, a2, a3, a4, a5, a6, a7, a8⟩, b1, b2, b3, b4, b5, b6, b7, b8, b9, c1', fun i h0 h1 => ?_, c3'⟩
        obtain ⟨g1, g2⟩ := c2' i h0 h1
        rw [su_r, su_r]
        by_cases e : i = a
        · rw [if_pos e, if_pos e]; exact ⟨rfl, g2⟩
        · rw [if_neg e, if_neg e]; exact ⟨g1, g2⟩
      · have hsh := hd.sh
        unfold DI at hd ⊢
        simp (disch := decide) only [su_k]
        refine ⟨hd.1, hd.2.1, hd.2.2.1, hd.2.2.2.1, hd.2.2.2.2.1, hd.2.2.2.2.2.1, hd.2.2.2.2.2.2.1, hd.2.2.2.2.2.2.2.1, hd.2.2.2.2.2.2.2.2.1, hd.2.2.2.2.2.2.2.2.2.1, hd.2.2.2.2.2.2.2.2.2.2.1, hd.2.2.2.2.2.2.2.2.2.2.2.1, hd.2.2.2.2.2.2.2.2.2.2.2.2.1, hd.2.2.2.2.2.2.2.2.2.2.2.2.2.1, fun i h0 h1 => ?_, hd.2.2.2.2.2.2.2.2.2.2.2.2.2.2.2⟩
        have := hsh i h0 h1
        rw [su_r]
        by_cases e : i = a
        · rw [if_pos e]; exact ⟨Or.inl rfl, this.2⟩
        · rw [if_neg e]; exact this
  · rw [if_neg c1, if_neg c1]
    exact ⟨_, _, _, rfl, rfl, d, hx, hm, hd⟩
/-- what hinders an item's use -/
def hin (d : St) (s t i : Int) : Int := if d 33 s = 0 then 1 else if d 34 s = t then (if 0 ≤ i ∧ i < d 35 s then 0 else 2) else 3
theorem hin_r (d : St) (s t i : Int) : 0 ≤ hin d s t i ∧ hin d s t i ≤ 3 := by
  unfold hin
  repeat' split
  all_goals omega
theorem x_Sheets_hindrance_e (N : Nat) {s t i : Int} {d σ : St} (h : 0 ≤ s ∧ s < 4) (ht : 0 ≤ t ∧ t < 3) (hi : i32 i) (hx : RX d σ) (hd : DI d) : x_Sheets_hindrance N s t i σ = some (hin d s t i, σ) := by
  have g := hd.sh s h.1 h.2
  have g2 := hx.sh s h.1 h.2
  unfold x_Sheets_hindrance hin
  rw [x_Sheets_isLost_e N h hx hd, bd_k, g2.1, g2.2]
  simp only [gd_k (show inb s 4 from h), b01_0]
  by_cases c : d 33 s = 0
  · rw [if_neg (fun z => z c), if_pos c]
  · rw [if_pos c, if_neg c, if_pos (show d 33 s = 1 by omega)]
    simp (disch := omega) only [eq32_i, x_isBelow_e, bd_k, b01_0, itn]
    by_cases c2 : d 34 s = t
    · rw [if_pos c2, if_pos c2]
      by_cases c3 : 0 ≤ i ∧ i < d 35 s
      · rw [if_pos c3, if_pos c3]
      · rw [if_neg c3, if_neg c3]
    · rw [if_neg c2, if_neg c2]
theorem m_lacks_e (N : Nat) {s t i : Int} {d σ : St} (h : 0 ≤ s ∧ s < 4) (ht : 0 ≤ t ∧ t < 3) (hi : i32 i) (hm : RM d σ) (hd : DI d) : m_lacks N s t i σ = some (hin d s t i, σ) := by
  have g := hd.sh s h.1 h.2
  unfold m_lacks hin
  rw [hm.1 33 rfl, hm.1 34 rfl, hm.1 35 rfl]
  simp only [gd_k (show inb s 4 from h)]
  simp (disch := omega) only [eq32_i, m_in_e, bd_k, b01_0, itn]
  by_cases c : d 33 s = 0
  · rw [if_pos c, if_pos c]
  · rw [if_neg c, if_neg c]
    by_cases c2 : d 34 s = t
    · rw [if_pos c2, if_pos c2]
      by_cases c3 : 0 ≤ i ∧ i < d 35 s
      · rw [if_pos (by omega), if_pos c3]
      · rw [if_neg (by omega), if_neg c3]
    · rw [if_neg c2, if_neg c2]
/-- what is kept of a number in a sheet -/
def kp (d : St) (s v : Int) : Int := if d 34 s = 0 then i8 v else if d 34 s = 1 then i16 v else v
theorem kp_r (d : St) (s v : Int) (h : i32 v) : i32 (kp d s v) := by
  unfold kp i8 i16
  repeat' split
  · exact sc_r _
  · exact sc_r _
  · exact h
theorem x_Sheets_setItem_e (N : Nat) {s i v : Int} {d σ : St} (h : 0 ≤ s ∧ s < 4) (hl : d 33 s = 1) (h0 : 0 ≤ i) (h1 : i < 40) (hx : RX d σ) (hd : DI d) : x_Sheets_setItem N s i v σ = some (0, su σ 14 (s * 40 + i) (kp d s v)) := by
  have g := hd.sh s h.1 h.2
  unfold x_Sheets_setItem x_Sheets_setItem_33 kp
  rw [(hx.sh s h.1 h.2).1, if_pos hl]
  have g1 : inb (s * 40 + i) 160 := by omega
  simp only [gd_k (show inb s 4 from h), gd_k g1]
  simp (disch := omega) only [eq32_i]
  repeat' split
  all_goals first | rfl | (exfalso; omega)
theorem m_lay_e (N : Nat) {s i v : Int} {d σ : St} (h : 0 ≤ s ∧ s < 4) (h0 : 0 ≤ i) (h1 : i < 40) (hm : RM d σ) (hd : DI d) : m_lay N s i v σ = some (0, su σ 36 (40 * s + i) (kp d s v)) := by
  have g := hd.sh s h.1 h.2
  unfold m_lay m_lay_40 kp
  rw [hm.1 34 rfl]
  have g1 : inb (40 * s + i) 160 := by omega
  simp only [gd_k (show inb s 4 from h), gd_k g1]
  simp (disch := omega) only [eq32_i]
  repeat' split
  all_goals first | rfl | (exfalso; omega)
theorem RX_itm {d σ : St} {s i v : Int} (h : 0 ≤ s ∧ s < 4) (h0 : 0 ≤ i) (h1 : i < 40) (hx : RX d σ) (hd : DI d) : RX (su d 36 (40 * s + i) v) (su σ 14 (s * 40 + i) v) := by
  have S : sam d (su d 36 (40 * s + i) v) := sam_k (by decide)
  have hsh := hd.sh
  obtain ⟨⟨a1, a2, a3, a4, a5, a6, a7, a8⟩, b1, b2, b3, b4, b5, b6, b7, b8, b9, c1', c2', c3'⟩ := hx
  unfold RX
  simp (disch := decide) only [sam_ft S, sam_fg S, sam_sm S, sam_sf S, sam_sl S, su_k]
  refine ⟨⟨a1, a2, a3, a4, a5, a6, a7, a8⟩, b1, b2, b3, b4, b5, b6, b7, b8, b9, c1', c2', fun x k g0 g1 g2 g3 => ?_⟩
  have := (hsh x g0 g1).2.2
  rw [su_r, su_r]
  by_cases e : x = s ∧ k = i
  · rw [if_pos (by omega), if_pos (by omega)]
  · rw [if_neg (by omega), if_neg (by omega)]; exact c3' x k g0 g1 g2 g3
theorem DI_itm {d : St} {j v : Int} (hv : i32 v) (hd : DI d) : DI (su d 36 j v) := by
  have hit := hd.itm
  unfold DI at hd ⊢
  simp (disch := decide) only [su_k]
  refine ⟨hd.1, hd.2.1, hd.2.2.1, hd.2.2.2.1, hd.2.2.2.2.1, hd.2.2.2.2.2.1, hd.2.2.2.2.2.2.1, hd.2.2.2.2.2.2.2.1, hd.2.2.2.2.2.2.2.2.1, hd.2.2.2.2.2.2.2.2.2.1, hd.2.2.2.2.2.2.2.2.2.2.1, hd.2.2.2.2.2.2.2.2.2.2.2.1, hd.2.2.2.2.2.2.2.2.2.2.2.2.1, hd.2.2.2.2.2.2.2.2.2.2.2.2.2.1, hd.2.2.2.2.2.2.2.2.2.2.2.2.2.2.1, fun i h0 h1 => ?_⟩
  have := hit i h0 h1
  rw [su_r]
  by_cases e : i = j
  · rw [if_pos e]; exact hv
  · rw [if_neg e]; exact this
theorem sim_put {N : Nat} {σx σm : St} (h : RR σx σm) : ∀ a : Int, i32 a → ∀ b : Int, i32 b → ∀ c : Int, i32 c → ∀ v : Int, i32 v → OKp RR (x_put N a b c v σx) (m_put N a b c v σm) := by
  obtain ⟨d, hx, hm, hd⟩ := h
  intro a ha b hb i hi v hv
  unfold x_put m_put x_Sheets_noteFinding m_meets
  simp (disch := omega) only [x_Sheets_isSheet_e, x_Sheets_isType_e, m_isSheet_e, m_in_e, bd_k, b01_0, itn]
  by_cases c1 : 0 ≤ a ∧ a < 4
  · rw [if_pos c1, if_pos c1]
    by_cases c2 : 0 ≤ b ∧ b < 3
    · have hr := hin_r d a b i
      have g := hd.sh a c1.1 c1.2
      rw [if_pos c2, if_pos (by omega : 0 ≤ b ∧ b ≤ 2), x_Sheets_hindrance_e N c1 c2 hi hx hd, m_lacks_e N c1 c2 hi hm hd, bd_k, bd_k]
      simp (disch := omega) only [eq32_i, le32_i]
      by_cases c3 : hin d a b i = 0
      · have hl : d 33 a = 1 ∧ 0 ≤ i ∧ i < d 35 a := by
          unfold hin at c3
          by_cases z : d 33 a = 0
          · rw [if_pos z] at c3; omega
          · rw [if_neg z] at c3
            by_cases z2 : d 34 a = b
            · rw [if_pos z2] at c3
              by_cases z3 : 0 ≤ i ∧ i < d 35 a
              · omega
              · rw [if_neg z3] at c3; omega
            · rw [if_neg z2] at c3; omega
        rw [if_pos c3, if_pos (by omega), x_Sheets_setItem_e N c1 hl.1 hl.2.1 (by omega) hx hd, m_lay_e N c1 hl.2.1 (by omega) hm hd, bd_k, bd_k]
        exact ⟨_, _, _, rfl, rfl, _, RX_itm c1 hl.2.1 (by omega) hx hd, RM_uk (by decide) (by decide) (by decide) hm rfl, DI_itm (kp_r d a v hv) hd⟩
      · rw [if_neg c3, if_neg (by omega)]
        exact ⟨_, _, _, rfl, rfl, RR_fnd hx hm hd⟩
    · rw [if_neg c2, if_neg (by omega)]
      exact ⟨_, _, _, rfl, rfl, d, hx, hm, hd⟩
  · rw [if_neg c1, if_neg c1]
    exact ⟨_, _, _, rfl, rfl, d, hx, hm, hd⟩
theorem sim_get {N : Nat} {σx σm : St} (h : RR σx σm) : ∀ a : Int, i32 a → ∀ b : Int, i32 b → ∀ c : Int, i32 c → OKp RR (x_get N a b c σx) (m_get N a b c σm) := by
  obtain ⟨d, hx, hm, hd⟩ := h
  intro a ha b hb i hi
  unfold x_get m_get x_Sheets_noteFinding x_Sheets_itemAt
  simp (disch := omega) only [x_Sheets_isSheet_e, x_Sheets_isType_e, m_isSheet_e, m_in_e, bd_k, b01_0, itn]
  by_cases c1 : 0 ≤ a ∧ a < 4
  · rw [if_pos c1, if_pos c1]
    by_cases c2 : 0 ≤ b ∧ b < 3
    · have hr := hin_r d a b i
      have g := hd.sh a c1.1 c1.2
      rw [if_pos c2, if_pos (by omega : 0 ≤ b ∧ b ≤ 2), x_Sheets_hindrance_e N c1 c2 hi hx hd, m_lacks_e N c1 c2 hi hm hd, bd_k, bd_k]
      simp (disch := omega) only [eq32_i, le32_i]
      by_cases c3 : hin d a b i = 0
      · have hl : d 33 a = 1 ∧ 0 ≤ i ∧ i < d 35 a := by
          unfold hin at c3
          by_cases z : d 33 a = 0
          · rw [if_pos z] at c3; omega
          · rw [if_neg z] at c3
            by_cases z2 : d 34 a = b
            · rw [if_pos z2] at c3
              by_cases z3 : 0 ≤ i ∧ i < d 35 a
              · omega
              · rw [if_neg z3] at c3; omega
            · rw [if_neg z2] at c3; omega
        rw [if_pos c3, if_pos (by omega), gd_k (by omega), gd_k (by omega), bd_k, hx.itm a i c1.1 c1.2 hl.2.1 hl.2.2, hm.1 36 rfl]
        exact ⟨_, _, _, rfl, rfl, d, hx, hm, hd⟩
      · rw [if_neg c3, if_neg (by omega)]
        exact ⟨_, _, _, rfl, rfl, RR_fnd hx hm hd⟩
    · rw [if_neg c2, if_neg (by omega)]
      exact ⟨_, _, _, rfl, rfl, d, hx, hm, hd⟩
  · rw [if_neg c1, if_neg c1]
    exact ⟨_, _, _, rfl, rfl, d, hx, hm, hd⟩
