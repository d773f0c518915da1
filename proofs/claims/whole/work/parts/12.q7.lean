theorem ab32_i {x : Int} (a : -2147483647 ≤ x) (b : x < 2147483648) : ab32 x = if 0 ≤ x then x else -x := by
  unfold ab32
  by_cases h : 0 ≤ x
  · rw [if_pos ((le32_i (by omega) (by omega) (by omega) (by omega)).mpr h), if_pos h]
  · rw [if_neg (fun z => h ((le32_i (by omega) (by omega) (by omega) (by omega)).mp z)), if_neg h]; omega
/-- LEVELS -/
def nl (d : St) (a b : Int) : Int := if sl d a b ≤ 2 then sl d a b else if al d a b = 0 then 3 else 2
def fx (d : St) (f r : Int) : Int := if f = 1 then d 4 r else if f = 2 then d 5 r else d 6 r
def fz (x : Int) : Int := if 0 ≤ x then x else -x
def lv (d : St) (a b f : Int) : Int := if f = 0 then nl d a b else if fx d f a = -1 then -1 else if fx d f b = -1 then -1 else if fx d f a = fx d f b then 0 else if f = 1 then (if fz (fx d f a - fx d f b) = 1 then 1 else if 5 < fz (fx d f a - fx d f b) then 3 else 2) else if f = 2 then (if 5 < d 9 (8 * fx d f a + fx d f b) then (if 20 < d 9 (8 * fx d f a + fx d f b) then 3 else 2) else 1) else 3
theorem nl_r {d : St} (hd : DI d) {a b : Int} (ha : 0 ≤ a ∧ a < d 0 1) (hb : 0 ≤ b ∧ b < d 0 1) : 0 ≤ nl d a b ∧ nl d a b ≤ 3 := by
  have := sl_r hd ha hb
  unfold nl
  repeat' split
  all_goals omega
theorem lv_r {d : St} (hd : DI d) {a b f : Int} (ha : 0 ≤ a ∧ a < d 0 1) (hb : 0 ≤ b ∧ b < d 0 1) : -1 ≤ lv d a b f ∧ lv d a b f ≤ 3 := by
  have := nl_r hd ha hb
  unfold lv
  repeat' split
  all_goals omega
theorem m_nameLevel_e (N : Nat) (hN : 100 < N) {d σ : St} (hm : RM d σ) (hd : DI d) {a b : Int} (ha : 0 ≤ a ∧ a < d 0 1) (hb : 0 ≤ b ∧ b < d 0 1) : ∃ σ', m_nameLevel N a b σ = some (nl d a b, σ') ∧ RM d σ' := by
  have h1 := sl_r hd ha hb
  have h2 := al_r d a b
  obtain ⟨σ1, e1, e2⟩ := m_slipsOf_e N (by omega) hm hd ha hb
  unfold m_nameLevel m_nameLevel_30 nl
  rw [e1, bd_k]
  simp (disch := omega) only [le32_i, eq32_i]
  by_cases c1 : 2 ≤ sl d a b
  · rw [if_pos c1]
    by_cases c2 : sl d a b = 2
    · rw [if_pos c2, if_pos (by omega), c2]; exact ⟨σ1, rfl, e2⟩
    · obtain ⟨σ2, g1, g2⟩ := m_soundAlike_e N hN e2 hd ha hb
      rw [if_neg c2, if_neg (by omega), g1, bd_k]
      simp (disch := omega) only [eq32_i]
      by_cases c3 : al d a b = 0
      · rw [if_pos c3, if_pos c3]; exact ⟨σ2, rfl, g2⟩
      · rw [if_neg c3, if_neg c3]; exact ⟨σ2, rfl, g2⟩
  · rw [if_neg c1, if_pos (by omega)]; exact ⟨σ1, rfl, e2⟩
theorem m_levelOf_e (N : Nat) (hN : 100 < N) {d σ : St} (hm : RM d σ) (hd : DI d) {a b f : Int} (ha : 0 ≤ a ∧ a < d 0 1) (hb : 0 ≤ b ∧ b < d 0 1) (hf : 0 ≤ f ∧ f < 4) : ∃ σ', m_levelOf N a b f σ = some (lv d a b f, σ') ∧ RM d σ' := by
  have hR := hd.rows
  have h1 := hd.row a ha.1 ha.2
  have h2 := hd.row b hb.1 hb.2
  by_cases c0 : f = 0
  · obtain ⟨σ1, e1, e2⟩ := m_nameLevel_e N hN hm hd ha hb
    refine ⟨σ1, ?_, e2⟩
    unfold m_levelOf lv
    rw [if_pos (by rw [c0]), e1, bd_k, if_pos c0]
  · refine ⟨σ, ?_, hm⟩
    have k81 : m_levelOf_81 N f (fx d f a) (fx d f b) σ = some (lv d a b f, σ) := by
      have hfa : -1 ≤ fx d f a ∧ fx d f a ≤ 1999 := by unfold fx; repeat' split <;> omega
      have hfb : -1 ≤ fx d f b ∧ fx d f b ≤ 1999 := by unfold fx; repeat' split <;> omega
      have h2a : f = 2 → fx d f a ≤ 7 := fun e => by unfold fx; rw [if_neg (by omega), if_pos e]; omega
      have h2b : f = 2 → fx d f b ≤ 7 := fun e => by unfold fx; rw [if_neg (by omega), if_pos e]; omega
      unfold m_levelOf_81 m_levelOf_142 m_amount lv
      rw [if_neg c0, hm.1 9 rfl]
      simp (disch := omega) only [eq32_i, le32_i, lt32_i]
      by_cases c1 : fx d f a = -1
      · rw [if_pos c1, if_pos c1]
      rw [if_neg c1, if_neg c1]
      by_cases c2 : fx d f b = -1
      · rw [if_pos c2, if_pos c2]
      rw [if_neg c2, if_neg c2]
      by_cases c3 : fx d f a = fx d f b
      · rw [if_pos c3, if_pos c3]
      rw [if_neg c3, if_neg c3]
      by_cases c4 : f = 3
      · rw [if_pos c4, if_neg (by omega), if_neg (by omega)]
      rw [if_neg c4]
      by_cases c5 : f = 1
      · rw [if_pos c5, if_pos c5]
        unfold fz
        by_cases c6 : 0 ≤ fx d f a - fx d f b
        · rw [if_pos c6, bd_k]
          simp (disch := omega) only [eq32_i, le32_i, lt32_i, if_pos c6]
          repeat' split
          all_goals first | rfl | (exfalso; omega)
        · rw [if_neg c6, bd_k]
          simp (disch := omega) only [eq32_i, le32_i, lt32_i, if_neg c6]
          repeat' split
          all_goals first | rfl | (exfalso; omega)
      · have g2 : f = 2 := by omega
        have hw := hd.way (8 * fx d f a + fx d f b) (by have := h2a g2; omega) (by have := h2a g2; have := h2b g2; omega)
        have ha7 := h2a g2
        have hb7 := h2b g2
        rw [if_neg c5, if_neg c5, if_pos g2, gd_k (by omega)]
        clear hfa hfb h2a h2b h1 h2
        simp (disch := omega) only [eq32_i, le32_i, lt32_i]
        rw [if_neg c5]
        repeat' split
        all_goals first | rfl | (exfalso; omega)
    unfold m_levelOf m_levelOf_45
    rw [hm.1 4 rfl, hm.1 5 rfl, hm.1 6 rfl]
    simp only [gd_k (show inb a 36 by omega), gd_k (show inb b 36 by omega)]
    simp (disch := omega) only [eq32_i]
    rw [if_neg c0]
    by_cases c1 : f = 1
    · rw [if_pos c1, if_pos c1]
      unfold fx at k81
      rw [if_pos c1, if_pos c1] at k81
      exact k81
    · rw [if_neg c1]
      unfold fx at k81
      rw [if_neg c1, if_neg c1] at k81
      by_cases c2 : f = 2
      · rw [if_pos c2, if_neg c1, if_pos c2]
        rw [if_pos c2, if_pos c2] at k81
        exact k81
      · rw [if_neg c2, if_neg c1, if_neg c2]
        rw [if_neg c2, if_neg c2] at k81
        exact k81
