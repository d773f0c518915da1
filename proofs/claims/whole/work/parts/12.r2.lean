/-! LEVELS, SCORE -/
theorem m_level_q (N : Nat) (hN : 100 < N) {d σ : St} (hm : RM d σ) (hd : DI d) {a b f : Int} (ha : 0 ≤ a ∧ a < d 0 1) (hb : 0 ≤ b ∧ b < d 0 1) (hf : 0 ≤ f ∧ f < 4) : ∃ σ', m_levelOf N a b f σ = some (lv d a b f, σ') ∧ RM d σ' ∧ fr σ σ' := by
  obtain ⟨σ', e1, e2⟩ := m_levelOf_e N hN hm hd ha hb hf
  exact ⟨σ', e1, e2, fk_m_levelOf N a b f σ _ _ e1⟩
theorem x_levelOf_e (N : Nat) (hN : 100 < N) {d σ : St} (hx : RX d σ) (hd : DI d) {a b f : Int} (ha : 0 ≤ a ∧ a < d 0 1) (hb : 0 ≤ b ∧ b < d 0 1) (hab : a ≠ b) (hf : 0 ≤ f ∧ f < 4) : x_Pairs_levelOf N a b f σ = some (lv d a b f, σ) := by
  have hR := hd.rows
  have h1 := hd.row a ha.1 ha.2
  have h2 := hd.row b hb.1 hb.2
  have hs := sl_r hd ha hb
  have hal := al_r d a b
  unfold x_Pairs_levelOf
  by_cases c0 : f = 0
  · unfold lv nl x_Slips_between
    rw [if_pos (by rw [c0]), if_pos c0, gd_k (by omega), bd_k, hx.slp a b ha.1 ha.2 hb.1 hb.2 hab, x_areAlike_e N hN hx hd ha hb, bd_k]
    simp (disch := omega) only [lt32_i, eq32_i]
    by_cases c1 : sl d a b ≤ 2
    · rw [if_pos c1, if_neg (by omega)]
    · rw [if_neg c1, if_pos (by omega)]
      by_cases c2 : al d a b = 0
      · rw [if_pos c2, if_pos c2]
      · rw [if_neg c2, if_neg c2]
  · have xf : ∀ r, (0 ≤ r ∧ r < d 0 1) → x_Rows_fact N r f σ = some (fx d f r, σ) := by
      intro r hr
      rcases (show f = 1 ∨ f = 2 ∨ f = 3 by omega) with e | e | e
      · subst e; exact xf_1 N hx hd hr.1 hr.2
      · subst e; exact xf_2 N hx hd hr.1 hr.2
      · subst e; exact xf_3 N hx hd hr.1 hr.2
    have hfa : -1 ≤ fx d f a ∧ fx d f a ≤ 1999 := by unfold fx; repeat' split <;> omega
    have hfb : -1 ≤ fx d f b ∧ fx d f b ≤ 1999 := by unfold fx; repeat' split <;> omega
    have h2a : f = 2 → fx d f a ≤ 7 := fun e => by unfold fx; rw [if_neg (by omega), if_pos e]; omega
    have h2b : f = 2 → fx d f b ≤ 7 := fun e => by unfold fx; rw [if_neg (by omega), if_pos e]; omega
    rw [if_neg (fun z => c0 ((eq32_i (by omega) (by omega) (by omega) (by omega)).mp z)), xf a ha, bd_k, xf b hb, bd_k]
    clear h1 h2
    unfold lv x_Weights_wayBetween
    rw [if_neg c0]
    simp (disch := omega) only [eq32_i]
    by_cases c1 : fx d f a = -1
    · rw [if_pos c1, if_pos c1]
    rw [if_neg c1, if_neg c1]
    by_cases c2 : fx d f b = -1
    · rw [if_pos c2, if_pos c2]
    rw [if_neg c2, if_neg c2]
    by_cases c3 : fx d f a = fx d f b
    · rw [if_pos c3, if_pos c3]
    rw [if_neg c3, if_neg c3]
    by_cases c4 : f = 1
    · rw [if_pos c4, if_pos c4]
      unfold fz
      rw [ab32_i (by omega) (by omega)]
      have hq : -2000 ≤ fx d f a - fx d f b ∧ fx d f a - fx d f b ≤ 2000 := by omega
      clear hfa hfb h2a h2b
      by_cases c5 : 0 ≤ fx d f a - fx d f b
      · rw [if_pos c5]
        simp (disch := omega) only [eq32_i, lt32_i]
        repeat' split
        all_goals rfl
      · rw [if_neg c5]
        simp (disch := omega) only [eq32_i, lt32_i]
        repeat' split
        all_goals rfl
    rw [if_neg c4, if_neg c4]
    by_cases c5 : f = 2
    · have ha7 := h2a c5
      have hb7 := h2b c5
      have hw := hd.way (8 * fx d f a + fx d f b) (by omega) (by omega)
      rw [if_pos c5, if_pos c5, gd_k (by omega), bd_k, hx.way _ _ (by omega) (by omega) (by omega) (by omega) c3]
      clear hfa hfb h2a h2b
      simp (disch := omega) only [lt32_i]
      repeat' split
      all_goals rfl
    · rw [if_neg c5, if_neg c5]
theorem fz_n (x : Int) : fz (-x) = fz x := by unfold fz; repeat' split <;> omega
theorem lv_sym {d : St} (hd : DI d) {a b f : Int} (ha : 0 ≤ a ∧ a < d 0 1) (hb : 0 ≤ b ∧ b < d 0 1) (hf : 0 ≤ f ∧ f < 4) : lv d a b f = lv d b a f := by
  have h1 := hd.row a ha.1 ha.2
  have h2 := hd.row b hb.1 hb.2
  unfold lv
  by_cases c0 : f = 0
  · rw [if_pos c0, if_pos c0]; unfold nl; rw [sl_sym, al_sym]
  rw [if_neg c0, if_neg c0]
  by_cases c1 : fx d f a = -1
  · rw [if_pos c1, if_pos c1]
    by_cases c2 : fx d f b = -1
    · rw [if_pos c2]
    · rw [if_neg c2]
  rw [if_neg c1, if_neg c1]
  by_cases c2 : fx d f b = -1
  · rw [if_pos c2, if_pos c2]
  rw [if_neg c2, if_neg c2]
  by_cases c3 : fx d f a = fx d f b
  · rw [if_pos c3, if_pos c3.symm]
  rw [if_neg c3, if_neg (show ¬ fx d f b = fx d f a from fun z => c3 z.symm)]
  have e : fz (fx d f a - fx d f b) = fz (fx d f b - fx d f a) := by rw [← fz_n]; congr 1; omega
  rw [e]
  by_cases c4 : f = 1
  · rw [if_pos c4, if_pos c4]
  rw [if_neg c4, if_neg c4]
  by_cases c5 : f = 2
  · have g1 : 0 ≤ fx d f a ∧ fx d f a < 8 := by unfold fx at c1 ⊢; rw [if_neg c4, if_pos c5] at c1 ⊢; omega
    have g2 : 0 ≤ fx d f b ∧ fx d f b < 8 := by unfold fx at c2 ⊢; rw [if_neg c4, if_pos c5] at c2 ⊢; omega
    rw [if_pos c5, if_pos c5, hd.ways _ _ g1.1 g1.2 g2.1 g2.2]
  · rw [if_neg c5, if_neg c5]
theorem sim_level {N : Nat} (hN : 100 < N) {σx σm : St} (h : RR σx σm) : ∀ a : Int, i32 a → ∀ b : Int, i32 b → ∀ f : Int, i32 f → OKp RR (x_level N a b f σx) (m_level N a b f σm) := by
  obtain ⟨d, hx, hm, hd⟩ := h
  intro a ha b hb f hf
  unfold x_level m_level
  rw [x_Rows_arePair_e N ha hb hx hd, m_areTwo_e N ha hb hm hd, bd_k, bd_k]
  simp only [b01_0, itn]
  by_cases c : two d a b
  · rw [if_pos c, if_pos c, x_isBelow_e N σx hf.1 hf.2 (by omega) (by omega), m_in_e N σm hf.1 hf.2 (by omega) (by omega) (by omega) (by omega), bd_k, bd_k]
    simp only [b01_0, itn]
    by_cases cf : 0 ≤ f ∧ f < 4
    · obtain ⟨σ', e1, e2, e3⟩ := m_level_q N hN hm hd c.1 c.2.1 cf
      rw [if_pos cf, if_pos (by omega), x_levelOf_e N hN hx hd c.1 c.2.1 c.2.2 cf, e1, bd_k, bd_k]
      exact ⟨_, _, _, rfl, rfl, d, hx, e2, hd⟩
    · rw [if_neg cf, if_neg (by omega)]
      exact ⟨_, _, _, rfl, rfl, d, hx, hm, hd⟩
  · rw [if_neg c, if_neg c]
    exact ⟨_, _, _, rfl, rfl, d, hx, hm, hd⟩
/-- POINTS of a FIELD of a pair; SCORE -/
def pf (d : St) (a b f : Int) : Int := if lv d a b f = -1 then 0 else d 15 (4 * f + lv d a b f)
def sc (d : St) (a b : Int) : Int := S (pf d a b) 4
theorem pf_r {d : St} (hd : DI d) {a b f : Int} (ha : 0 ≤ a ∧ a < d 0 1) (hb : 0 ≤ b ∧ b < d 0 1) (hf : 0 ≤ f ∧ f < 4) : -100 ≤ pf d a b f ∧ pf d a b f ≤ 100 := by
  have := lv_r (f := f) hd ha hb
  unfold pf
  split
  · omega
  · exact hd.pts _ (by omega) (by omega)
theorem sc_r2 {d : St} (hd : DI d) {a b n : Int} (ha : 0 ≤ a ∧ a < d 0 1) (hb : 0 ≤ b ∧ b < d 0 1) (h0 : 0 ≤ n) (h4 : n ≤ 4) : -100 * n ≤ S (pf d a b) n ∧ S (pf d a b) n ≤ 100 * n :=
  ⟨S_ge (fun i a1 a2 => (pf_r hd ha hb ⟨a1, by omega⟩).1) h0, S_le (fun i a1 a2 => (pf_r hd ha hb ⟨a1, by omega⟩).2) h0⟩
theorem sc_r1 {d : St} (hd : DI d) {a b : Int} (ha : 0 ≤ a ∧ a < d 0 1) (hb : 0 ≤ b ∧ b < d 0 1) : -400 ≤ sc d a b ∧ sc d a b ≤ 400 := by
  have := sc_r2 hd ha hb (n := 4) (by omega) (by omega)
  unfold sc; omega
theorem sc_sym {d : St} (hd : DI d) {a b : Int} (ha : 0 ≤ a ∧ a < d 0 1) (hb : 0 ≤ b ∧ b < d 0 1) : sc d a b = sc d b a :=
  S_c (fun f h0 h1 => by unfold pf; rw [lv_sym hd ha hb ⟨h0, h1⟩]) (by omega)
theorem x_scoreOf_e (N : Nat) (hN : 100 < N) {d σ : St} (hx : RX d σ) (hd : DI d) {a b : Int} (ha : 0 ≤ a ∧ a < d 0 1) (hb : 0 ≤ b ∧ b < d 0 1) (hab : a ≠ b) : x_Pairs_scoreOf N a b σ = some (sc d a b, σ) := by
  unfold x_Pairs_scoreOf
  refine lq2 (Out := fun x => x = some (sc d a b, σ)) (Inv := fun v f s => s = σ ∧ 0 ≤ f ∧ f ≤ 4 ∧ v = S (pf d a b) f) (fun _ f _ => 4 - f) ?_ ?_ N 0 0 σ ⟨rfl, by omega, by omega, rfl⟩ (by omega)
  · rintro k v f s ⟨rfl, h0, h4, rfl⟩
    unfold x_Pairs_scoreOf_5
    simp (disch := omega) only [le32_i]
    by_cases c : 4 ≤ f
    · left; rw [if_pos c, show f = 4 by omega]; rfl
    · right
      have hl := lv_r (f := f) hd ha hb
      rw [if_neg c, x_levelOf_e N hN hx hd ha hb hab ⟨h0, by omega⟩, bd_k]
      simp (disch := omega) only [eq32_i]
      refine ⟨S (pf d a b) (f + 1), f + 1, s, ?_, ⟨rfl, by omega, by omega, rfl⟩, by omega⟩
      rw [S_s _ h0]
      unfold x_Pairs_scoreOf_41 x_Weights_pointsFor pf
      by_cases c2 : lv d a b f = -1
      · rw [if_pos c2, if_pos c2, Int.add_zero]
      · rw [if_neg c2, gd_k (by omega), bd_k, if_neg c2, (hx.pts _ (by omega) (by omega)).1, show f * 4 + lv d a b f = 4 * f + lv d a b f by omega]
  · rintro v f s ⟨-, h0, h4, -⟩; omega
theorem m_scoreOf_e (N : Nat) (hN : 100 < N) {d σ : St} (hm : RM d σ) (hd : DI d) {a b : Int} (ha : 0 ≤ a ∧ a < d 0 1) (hb : 0 ≤ b ∧ b < d 0 1) : ∃ σ', m_scoreOf N a b σ = some (sc d a b, σ') ∧ RM d σ' ∧ fr σ σ' := by
  have key : ∃ σ', m_scoreOf N a b σ = some (sc d a b, σ') ∧ RM d σ' := by
    unfold m_scoreOf
    refine lq2 (Out := fun x => ∃ σ', x = some (sc d a b, σ') ∧ RM d σ') (Inv := fun v f s => RM d s ∧ 0 ≤ f ∧ f ≤ 4 ∧ v = S (pf d a b) f) (fun _ f _ => 4 - f) ?_ ?_ N 0 0 σ ⟨hm, by omega, by omega, rfl⟩ (by omega)
    · rintro k v f s ⟨hs, h0, h4, rfl⟩
      unfold m_scoreOf_5
      simp (disch := omega) only [le32_i]
      by_cases c : 4 ≤ f
      · left; rw [if_pos c, show f = 4 by omega]; exact ⟨s, rfl, hs⟩
      · right
        have hl := lv_r (f := f) hd ha hb
        obtain ⟨s', e1, e2, e3⟩ := m_level_q N hN hs hd ha hb (f := f) ⟨h0, by omega⟩
        rw [if_neg c, e1, bd_k]
        simp (disch := omega) only [eq32_i]
        refine ⟨S (pf d a b) (f + 1), f + 1, s', ?_, ⟨e2, by omega, by omega, rfl⟩, by omega⟩
        rw [S_s _ h0]
        unfold m_scoreOf_44 pf
        by_cases c2 : lv d a b f = -1
        · rw [if_pos c2, if_pos c2]
        · rw [if_neg c2, gd_k (by omega), if_neg c2, e2.1 15 rfl]
    · rintro v f s ⟨-, h0, h4, -⟩; omega
  obtain ⟨σ', e1, e2⟩ := key
  exact ⟨σ', e1, e2, fk_m_scoreOf N a b σ _ _ e1⟩
theorem sim_score {N : Nat} (hN : 100 < N) {σx σm : St} (h : RR σx σm) : ∀ a : Int, i32 a → ∀ b : Int, i32 b → OKp RR (x_score N a b σx) (m_score N a b σm) := by
  obtain ⟨d, hx, hm, hd⟩ := h
  intro a ha b hb
  unfold x_score m_score
  rw [x_Rows_arePair_e N ha hb hx hd, m_areTwo_e N ha hb hm hd, bd_k, bd_k]
  simp only [b01_0, itn]
  by_cases c : two d a b
  · obtain ⟨σ', e1, e2, e3⟩ := m_scoreOf_e N hN hm hd c.1 c.2.1
    rw [if_pos c, if_pos c, x_scoreOf_e N hN hx hd c.1 c.2.1 c.2.2, e1, bd_k, bd_k]
    exact ⟨_, _, _, rfl, rfl, d, hx, e2, hd⟩
  · rw [if_neg c, if_neg c]
    exact ⟨_, _, _, rfl, rfl, d, hx, hm, hd⟩
