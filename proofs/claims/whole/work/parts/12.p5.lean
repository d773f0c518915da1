theorem RX_way {d σ : St} {a b v : Int} (ha : 0 ≤ a) (ha' : a < 8) (hb : 0 ≤ b) (hb' : b < 8) (h : RX d σ) : RX (su (su d 9 (8 * a + b) v) 9 (8 * b + a) v) (su (su σ 23 (a * 8 + b) v) 23 (b * 8 + a) v) := by
  have S : sam d (su (su d 9 (8 * a + b) v) 9 (8 * b + a) v) := sam_t (sam_k (by decide)) (sam_k (by decide))
  obtain ⟨⟨a1, a2, a3, a4, a5, a6, a7, a8⟩, b1, b2, b3, b4, b5, b6, b7, b8, b9, c1, c2, c3⟩ := h
  unfold RX
  simp (disch := decide) only [sam_ft S, sam_fg S, sam_sm S, sam_sf S, sam_sl S, su_k]
  refine ⟨⟨a1, a2, a3, a4, a5, a6, a7, a8⟩, b1, b2, b3, b4, b5, b6, b7, fun x y h0 h1 h2 h3 h4 => ?_, b9, c1, c2, c3⟩
  have g := b8 x y h0 h1 h2 h3 h4
  simp only [su_r]
  repeat' split
  all_goals first | rfl | exact g | (exfalso; omega)
theorem DI_way {d : St} {a b v : Int} (ha : 0 ≤ a) (ha' : a < 8) (hb : 0 ≤ b) (hb' : b < 8) (h0 : 0 ≤ v) (h1 : v ≤ 99) (hd : DI d) : DI (su (su d 9 (8 * a + b) v) 9 (8 * b + a) v) := by
  have hw := hd.way
  have hs := hd.ways
  unfold DI at hd ⊢
  simp (disch := decide) only [su_k]
  refine ⟨hd.1, hd.2.1, hd.2.2.1, hd.2.2.2.1, hd.2.2.2.2.1, hd.2.2.2.2.2.1, hd.2.2.2.2.2.2.1, hd.2.2.2.2.2.2.2.1, fun i g0 g1 => ?_, fun x y g0 g1 g2 g3 => ?_, hd.2.2.2.2.2.2.2.2.2.2⟩
  · have := hw i g0 g1
    simp only [su_r]
    by_cases e1 : i = 8 * b + a
    · rw [if_pos e1]; omega
    · rw [if_neg e1]
      by_cases e2 : i = 8 * a + b
      · rw [if_pos e2]; omega
      · rw [if_neg e2]; exact this
  · have := hs x y g0 g1 g2 g3
    simp only [su_r]
    repeat' split
    all_goals first | rfl | exact this | (exfalso; omega)
theorem sim_way {N : Nat} {σx σm : St} (h : RR σx σm) : ∀ a : Int, i32 a → ∀ b : Int, i32 b → ∀ c : Int, i32 c → OKp RR (x_way N a b c σx) (m_way N a b c σm) := by
  obtain ⟨d, hx, hm, hd⟩ := h
  intro a ha b hb v hv
  unfold x_way m_way x_Weights_tellWay
  simp (disch := omega) only [x_isBelow_e, x_isWithin_e, m_in_e, bd_k, b01_0, itn, eq32_i]
  by_cases c1 : 0 ≤ a ∧ a < 8
  · rw [if_pos c1, if_pos (by omega : 0 ≤ a ∧ a ≤ 7)]
    by_cases c2 : 0 ≤ b ∧ b < 8
    · rw [if_pos c2, if_pos (by omega : 0 ≤ b ∧ b ≤ 7)]
      by_cases c3 : a = b
      · rw [if_pos c3, if_pos c3]
        exact ⟨_, _, _, rfl, rfl, d, hx, hm, hd⟩
      · rw [if_neg c3, if_neg c3]
        by_cases c4 : 0 ≤ v ∧ v ≤ 99
        · rw [if_pos c4, if_pos c4, gd_k (by omega), gd_k (by omega), gd_k (by omega), gd_k (by omega), gd_k (by omega), gd_k (by omega), bd_k, hx.way a b c1.1 c1.2 c2.1 c2.2 c3, hm.1 9 rfl]
          exact ⟨_, _, _, rfl, rfl, _, RX_way c1.1 c1.2 c2.1 c2.2 hx, RM_uk (by decide) (by decide) (by decide) (RM_uk (by decide) (by decide) (by decide) hm rfl) rfl, DI_way c1.1 c1.2 c2.1 c2.2 c4.1 c4.2 hd⟩
        · rw [if_neg c4, if_neg c4]
          exact ⟨_, _, _, rfl, rfl, d, hx, hm, hd⟩
    · rw [if_neg c2, if_neg (by omega)]
      exact ⟨_, _, _, rfl, rfl, d, hx, hm, hd⟩
  · rw [if_neg c1, if_neg (by omega)]
    exact ⟨_, _, _, rfl, rfl, d, hx, hm, hd⟩
theorem RX_pts {d σ : St} {i v : Int} (h : RX d σ) : RX (su d 15 i v) (su σ 24 i v) := by
  have S : sam d (su d 15 i v) := sam_k (by decide)
  obtain ⟨⟨a1, a2, a3, a4, a5, a6, a7, a8⟩, b1, b2, b3, b4, b5, b6, b7, b8, b9, c1, c2, c3⟩ := h
  unfold RX
  simp (disch := decide) only [sam_ft S, sam_fg S, sam_sm S, sam_sf S, sam_sl S, su_k]
  refine ⟨⟨a1, a2, a3, a4, a5, a6, a7, a8⟩, b1, b2, b3, b4, b5, b6, b7, b8, fun x h0 h1 => ?_, c1, c2, c3⟩
  have g := b9 x h0 h1
  refine ⟨?_, g.2⟩
  rw [su_r, su_r, g.1]
theorem RX_ch1 {d σ : St} {i v : Int} (h0 : 0 ≤ i) (h1 : i < 16) (h : RX d σ) : RX (su d 16 (16 + i) v) (su σ 25 i v) := by
  have S : sam d (su d 16 (16 + i) v) := sam_k (by decide)
  obtain ⟨⟨a1, a2, a3, a4, a5, a6, a7, a8⟩, b1, b2, b3, b4, b5, b6, b7, b8, b9, c1, c2, c3⟩ := h
  unfold RX
  simp (disch := decide) only [sam_ft S, sam_fg S, sam_sm S, sam_sf S, sam_sl S, su_k]
  refine ⟨⟨a1, a2, a3, a4, a5, a6, a7, a8⟩, b1, b2, b3, b4, b5, b6, b7, b8, fun x h2 h3 => ?_, c1, c2, c3⟩
  obtain ⟨g1, g2, g3⟩ := b9 x h2 h3
  refine ⟨g1, ?_, ?_⟩
  · rw [su_r, su_r]
    by_cases e : x = i
    · rw [if_pos e, if_pos (by omega)]
    · rw [if_neg e, if_neg (by omega)]; exact g2
  · rw [su_n _ _ _ _ _ (by omega)]; exact g3
theorem RX_ch0 {d σ : St} {i v : Int} (h0 : 0 ≤ i) (h1 : i < 16) (h : RX d σ) : RX (su d 16 i v) (su σ 26 i v) := by
  have S : sam d (su d 16 i v) := sam_k (by decide)
  obtain ⟨⟨a1, a2, a3, a4, a5, a6, a7, a8⟩, b1, b2, b3, b4, b5, b6, b7, b8, b9, c1, c2, c3⟩ := h
  unfold RX
  simp (disch := decide) only [sam_ft S, sam_fg S, sam_sm S, sam_sf S, sam_sl S, su_k]
  refine ⟨⟨a1, a2, a3, a4, a5, a6, a7, a8⟩, b1, b2, b3, b4, b5, b6, b7, b8, fun x h2 h3 => ?_, c1, c2, c3⟩
  obtain ⟨g1, g2, g3⟩ := b9 x h2 h3
  refine ⟨g1, ?_, ?_⟩
  · rw [su_n _ _ _ _ _ (by omega)]; exact g2
  · rw [su_r, su_r, g3]
theorem DI_pts {d : St} {i v : Int} (h0 : -100 ≤ v) (h1 : v ≤ 100) (hd : DI d) : DI (su d 15 i v) := by
  have hp := hd.pts
  unfold DI at hd ⊢
  simp (disch := decide) only [su_k]
  refine ⟨hd.1, hd.2.1, hd.2.2.1, hd.2.2.2.1, hd.2.2.2.2.1, hd.2.2.2.2.2.1, hd.2.2.2.2.2.2.1, hd.2.2.2.2.2.2.2.1, hd.2.2.2.2.2.2.2.2.1, hd.2.2.2.2.2.2.2.2.2.1, hd.2.2.2.2.2.2.2.2.2.2.1, fun x g0 g1 => ?_, hd.2.2.2.2.2.2.2.2.2.2.2.2⟩
  have := hp x g0 g1
  rw [su_r]
  by_cases e : x = i
  · rw [if_pos e]; omega
  · rw [if_neg e]; exact this
theorem DI_chc {d : St} {i v : Int} (h0 : 1 ≤ v) (h1 : v ≤ 1000) (hd : DI d) : DI (su d 16 i v) := by
  have hp := hd.chc
  unfold DI at hd ⊢
  simp (disch := decide) only [su_k]
  refine ⟨hd.1, hd.2.1, hd.2.2.1, hd.2.2.2.1, hd.2.2.2.2.1, hd.2.2.2.2.2.1, hd.2.2.2.2.2.2.1, hd.2.2.2.2.2.2.2.1, hd.2.2.2.2.2.2.2.2.1, hd.2.2.2.2.2.2.2.2.2.1, hd.2.2.2.2.2.2.2.2.2.2.1, hd.2.2.2.2.2.2.2.2.2.2.2.1, fun x g0 g1 => ?_, hd.2.2.2.2.2.2.2.2.2.2.2.2.2⟩
  have := hp x g0 g1
  rw [su_r]
  by_cases e : x = i
  · rw [if_pos e]; omega
  · rw [if_neg e]; exact this
theorem sim_points {N : Nat} {σx σm : St} (h : RR σx σm) : ∀ a : Int, i32 a → ∀ b : Int, i32 b → ∀ c : Int, i32 c → OKp RR (x_points N a b c σx) (m_points N a b c σm) := by
  obtain ⟨d, hx, hm, hd⟩ := h
  intro a ha b hb v hv
  unfold x_points m_points x_Weights_tellPoints x_Weights_pointsFor
  simp (disch := omega) only [x_isBelow_e, x_isWithin_e, m_in_e, bd_k, b01_0, itn, eq32_i]
  by_cases c1 : 0 ≤ a ∧ a < 4
  · rw [if_pos c1, if_pos (by omega : 0 ≤ a ∧ a ≤ 3)]
    by_cases c2 : 0 ≤ b ∧ b < 4
    · rw [if_pos c2, if_pos (by omega : 0 ≤ b ∧ b ≤ 3)]
      by_cases c4 : -100 ≤ v ∧ v ≤ 100
      · have e : a * 4 + b = 4 * a + b := by omega
        rw [if_pos c4, if_pos c4, gd_k (by omega), bd_k, gd_k (by omega), bd_k, gd_k (by omega), gd_k (by omega), e, (hx.pts (4 * a + b) (by omega) (by omega)).1, hm.1 15 rfl]
        exact ⟨_, _, _, rfl, rfl, _, RX_pts hx, RM_uk (by decide) (by decide) (by decide) hm rfl, DI_pts c4.1 c4.2 hd⟩
      · rw [if_neg c4, if_neg c4]
        exact ⟨_, _, _, rfl, rfl, d, hx, hm, hd⟩
    · rw [if_neg c2, if_neg (by omega)]
      exact ⟨_, _, _, rfl, rfl, d, hx, hm, hd⟩
  · rw [if_neg c1, if_neg (by omega)]
    exact ⟨_, _, _, rfl, rfl, d, hx, hm, hd⟩
theorem sim_chance {N : Nat} {σx σm : St} (h : RR σx σm) : ∀ o : Int, bit1 o → ∀ a : Int, i32 a → ∀ b : Int, i32 b → ∀ c : Int, i32 c → OKp RR (x_chance N o a b c σx) (m_chance N o a b c σm) := by
  obtain ⟨d, hx, hm, hd⟩ := h
  intro o ho a ha b hb v hv
  unfold x_chance m_chance x_Weights_tellChance x_Weights_chanceFor m_chance_43
  simp (disch := omega) only [x_isBelow_e, x_isWithin_e, m_in_e, bd_k, b01_0, itn, eq32_i]
  by_cases c1 : 0 ≤ a ∧ a < 4
  · rw [if_pos c1, if_pos (by omega : 0 ≤ a ∧ a ≤ 3)]
    by_cases c2 : 0 ≤ b ∧ b < 4
    · rw [if_pos c2, if_pos (by omega : 0 ≤ b ∧ b ≤ 3)]
      by_cases c4 : 1 ≤ v ∧ v ≤ 1000
      · have e : a * 4 + b = 4 * a + b := by omega
        have e0 : 0 + 4 * a + b = 4 * a + b := by omega
        have e1 : 16 + 4 * a + b = 16 + (4 * a + b) := by omega
        have g := hx.pts (4 * a + b) (by omega) (by omega)
        rw [if_pos c4, if_pos c4]
        by_cases c5 : o = 0
        · rw [if_pos c5, if_pos c5, gd_k (by omega), bd_k, if_pos c5, gd_k (by omega), bd_k, gd_k (by omega), gd_k (by omega), e, e0, g.2.2, hm.1 16 rfl]
          exact ⟨_, _, _, rfl, rfl, _, RX_ch0 (by omega) (by omega) hx, RM_uk (by decide) (by decide) (by decide) hm rfl, DI_chc c4.1 c4.2 hd⟩
        · rw [if_neg c5, if_neg c5, gd_k (by omega), bd_k, if_neg c5, gd_k (by omega), bd_k, gd_k (by omega), gd_k (by omega), e, e1, g.2.1, hm.1 16 rfl]
          exact ⟨_, _, _, rfl, rfl, _, RX_ch1 (by omega) (by omega) hx, RM_uk (by decide) (by decide) (by decide) hm rfl, DI_chc c4.1 c4.2 hd⟩
      · rw [if_neg c4, if_neg c4]
        exact ⟨_, _, _, rfl, rfl, d, hx, hm, hd⟩
    · rw [if_neg c2, if_neg (by omega)]
      exact ⟨_, _, _, rfl, rfl, d, hx, hm, hd⟩
  · rw [if_neg c1, if_neg (by omega)]
    exact ⟨_, _, _, rfl, rfl, d, hx, hm, hd⟩
