/-! SLIPS -/
theorem mn32_i {x y : Int} (a : -2147483648 ≤ x) (b : x < 2147483648) (c : -2147483648 ≤ y) (d : y < 2147483648) : mn32 x y = min x y := by
  unfold mn32
  by_cases h : y < x
  · rw [if_pos ((lt32_i c d a b).mpr h)]; omega
  · rw [if_neg (fun z => h ((lt32_i c d a b).mp z))]; omega
theorem mx32_i {x y : Int} (a : -2147483648 ≤ x) (b : x < 2147483648) (c : -2147483648 ≤ y) (d : y < 2147483648) : mx32 x y = max x y := by
  unfold mx32
  by_cases h : x < y
  · rw [if_pos ((lt32_i a b c d).mpr h)]; omega
  · rw [if_neg (fun z => h ((lt32_i a b c d).mp z))]; omega
theorem osa_0 (f g : Nat → Int) (j : Nat) : osa f g 0 j = j := by rw [osa]
theorem osa_z (f g : Nat → Int) (i : Nat) : osa f g i 0 = i := by
  cases i with
  | zero => rw [osa]
  | succ i => rw [osa]; omega
theorem osa_s (f g : Nat → Int) (i j : Nat) : osa f g (i + 1) (j + 1) = if 1 ≤ i ∧ 1 ≤ j ∧ f i = g (j - 1) ∧ g j = f (i - 1) then min (min (min (osa f g i (j + 1)) (osa f g (i + 1) j) + 1) (osa f g i j + (if f i = g j then 0 else 1))) (osa f g (i - 1) (j - 1) + 1) else min (min (osa f g i (j + 1)) (osa f g (i + 1) j) + 1) (osa f g i j + (if f i = g j then 0 else 1)) := by
  rw [osa]
theorem osa_r (f g : Nat → Int) : ∀ (n i j : Nat), i + j ≤ n → 0 ≤ osa f g i j ∧ osa f g i j ≤ i + j := by
  intro n
  induction n with
  | zero => intro i j h; rw [show i = 0 by omega, show j = 0 by omega, osa_0]; omega
  | succ n ih =>
    intro i j h
    cases i with
    | zero => rw [osa_0]; omega
    | succ i =>
      cases j with
      | zero => rw [osa_z]; omega
      | succ j =>
        have a1 := ih i (j + 1) (by omega)
        have a2 := ih (i + 1) j (by omega)
        have a3 := ih i j (by omega)
        have a4 := ih (i - 1) (j - 1) (by omega)
        rw [osa_s]
        repeat' split
        all_goals omega
theorem osa_sym (f g : Nat → Int) : ∀ (n i j : Nat), i + j ≤ n → osa f g i j = osa g f j i := by
  intro n
  induction n with
  | zero => intro i j h; rw [show i = 0 by omega, show j = 0 by omega, osa_0, osa_0]
  | succ n ih =>
    intro i j h
    cases i with
    | zero => rw [osa_0, osa_z]
    | succ i =>
      cases j with
      | zero => rw [osa_z, osa_0]
      | succ j =>
        rw [osa_s, osa_s, ih i (j + 1) (by omega), ih (i + 1) j (by omega), ih i j (by omega), ih (i - 1) (j - 1) (by omega)]
        have e : (if f i = g j then (0 : Int) else 1) = if g j = f i then 0 else 1 := by
          by_cases c : f i = g j
          · rw [if_pos c, if_pos c.symm]
          · rw [if_neg c, if_neg (fun z => c z.symm)]
        rw [e]
        by_cases c : 1 ≤ i ∧ 1 ≤ j ∧ f i = g (j - 1) ∧ g j = f (i - 1)
        · rw [if_pos c, if_pos (show 1 ≤ j ∧ 1 ≤ i ∧ g j = f (i - 1) ∧ f i = g (j - 1) from ⟨c.2.1, c.1, c.2.2.2, c.2.2.1⟩)]; omega
        · rw [if_neg c, if_neg (show ¬ (1 ≤ j ∧ 1 ≤ i ∧ g j = f (i - 1) ∧ f i = g (j - 1)) from fun z => c ⟨z.2.1, z.1, z.2.2.2, z.2.2.1⟩)]; omega
theorem osa_same (f : Nat → Int) (i : Nat) : osa f f i i = 0 := by
  induction i with
  | zero => rw [osa_0]; rfl
  | succ i ih =>
    have a1 := osa_r f f (i + (i + 1)) i (i + 1) (by omega)
    have a2 := osa_r f f (i + 1 + i) (i + 1) i (by omega)
    have a4 := osa_r f f (i - 1 + (i - 1)) (i - 1) (i - 1) (by omega)
    rw [osa_s, ih, if_pos rfl]
    repeat' split
    all_goals omega
theorem sl_r {d : St} (hd : DI d) {a b : Int} (ha : 0 ≤ a ∧ a < d 0 1) (hb : 0 ≤ b ∧ b < d 0 1) : 0 ≤ sl d a b ∧ sl d a b ≤ 20 := by
  have h1 := hd.row a ha.1 ha.2
  have h2 := hd.row b hb.1 hb.2
  have := osa_r (fun i => d 2 (10 * a + i)) (fun i => d 2 (10 * b + i)) ((d 3 a).toNat + (d 3 b).toNat) (d 3 a).toNat (d 3 b).toNat (by omega)
  unfold sl
  omega
theorem sl_sym (d : St) (a b : Int) : sl d a b = sl d b a := osa_sym _ _ _ _ _ (Nat.le_refl _)
theorem sl_same (d : St) (a : Int) : sl d a a = 0 := osa_same _ _
/-- the cells of the reference's table that are done: rows above i, and of row i those below j -/
def done (σ : St) (f g : Nat → Int) (lb i j : Nat) : Prop := ∀ i' j' : Nat, j' ≤ lb → (i' < i ∨ (i' = i ∧ j' < j)) → σ 14 (11 * (i' : Int) + (j' : Int)) = osa f g i' j'
theorem done_s {σ : St} {f g : Nat → Int} {lb i j : Nat} (hlb : lb ≤ 10) (hj : j ≤ lb) (h : done σ f g lb i j) : done (su σ 14 (11 * (i : Int) + (j : Int)) (osa f g i j)) f g lb i (j + 1) := by
  intro i' j' h1 h2
  rw [su_r]
  by_cases e : i' = i ∧ j' = j
  · rw [if_pos (by omega), e.1, e.2]
  · rw [if_neg (by omega)]; exact h i' j' h1 (by omega)
theorem done_n {σ : St} {f g : Nat → Int} {lb i : Nat} (h : done σ f g lb i (lb + 1)) : done σ f g lb (i + 1) 0 := by
  intro i' j' h1 h2
  exact h i' j' h1 (by omega)
theorem m_slips_body (N : Nat) (k2 k15 : Int → St → MM) {d σ : St} {a b : Int} (hm : RM d σ) (hd : DI d) (ha : 0 ≤ a ∧ a < d 0 1) (hb : 0 ≤ b ∧ b < d 0 1) (i j : Nat) (hi : (i : Int) ≤ d 3 a) (hj : (j : Int) ≤ d 3 b) (hC : done σ (fun i => d 2 (10 * a + i)) (fun i => d 2 (10 * b + i)) (d 3 b).toNat i j) :
    m_slipsOf_15 N k2 a b i k15 j σ = k15 (j + 1) (su σ 14 (11 * (i : Int) + (j : Int)) (osa (fun i => d 2 (10 * a + i)) (fun i => d 2 (10 * b + i)) i j)) := by
  have hr := hd.rows
  have h1 := hd.row a ha.1 ha.2
  have h2 := hd.row b hb.1 hb.2
  unfold m_slipsOf_15 m_slipsOf_255
  rw [gd_k (by omega), hm.1 3 rfl, hm.1 2 rfl]
  simp (disch := omega) only [lt32_i, le32_i]
  rw [if_neg (by omega)]
  cases i with
  | zero =>
    rw [if_pos (by omega), gd_k (by omega), osa_0, show ((0 : Nat) : Int) + (j : Int) = j by omega]
  | succ i =>
    rw [if_neg (by omega)]
    cases j with
    | zero =>
      rw [if_pos (by omega), gd_k (by omega), osa_z, show ((i + 1 : Nat) : Int) + ((0 : Nat) : Int) = ((i + 1 : Nat) : Int) by omega]
    | succ j =>
      have e1 : 10 * a + ((i + 1 : Nat) : Int) - 1 = 10 * a + (i : Int) := by omega
      have e2 : 10 * b + ((j + 1 : Nat) : Int) - 1 = 10 * b + (j : Int) := by omega
      have e3 : 11 * (((i + 1 : Nat) : Int) - 1) + ((j + 1 : Nat) : Int) - 1 = 11 * (i : Int) + (j : Int) := by omega
      have e4 : 11 * (((i + 1 : Nat) : Int) - 1) + ((j + 1 : Nat) : Int) = 11 * (i : Int) + ((j + 1 : Nat) : Int) := by omega
      have e5 : 11 * ((i + 1 : Nat) : Int) + ((j + 1 : Nat) : Int) - 1 = 11 * ((i + 1 : Nat) : Int) + (j : Int) := by omega
      have hl1 := hd.let a i ha.1 ha.2 (by omega) (by omega)
      have hl2 := hd.let b j hb.1 hb.2 (by omega) (by omega)
      have q1 := hC i j (by omega) (by omega)
      have q2 := hC i (j + 1) (by omega) (by omega)
      have q3 := hC (i + 1) j (by omega) (by omega)
      have r1 := osa_r (fun i => d 2 (10 * a + i)) (fun i => d 2 (10 * b + i)) (i + j) i j (by omega)
      have r2 := osa_r (fun i => d 2 (10 * a + i)) (fun i => d 2 (10 * b + i)) (i + (j + 1)) i (j + 1) (by omega)
      have r3 := osa_r (fun i => d 2 (10 * a + i)) (fun i => d 2 (10 * b + i)) (i + 1 + j) (i + 1) j (by omega)
      rw [if_neg (by omega), gd_k (by omega), gd_k (by omega), gd_k (by omega), e1, e2, e3, q1]
      have key : ∀ t : Int, t = (if d 2 (10 * a + i) = d 2 (10 * b + j) then 0 else 1) → m_slipsOf_100 N k2 k15 a b ((i + 1 : Nat) : Int) ((j + 1 : Nat) : Int) (d 2 (10 * a + i)) (d 2 (10 * b + j)) t (osa (fun i => d 2 (10 * a + i)) (fun i => d 2 (10 * b + i)) i j) σ = k15 (((j + 1 : Nat) : Int) + 1) (su σ 14 (11 * ((i + 1 : Nat) : Int) + ((j + 1 : Nat) : Int)) (osa (fun i => d 2 (10 * a + i)) (fun i => d 2 (10 * b + i)) (i + 1) (j + 1))) := by
        intro t ht
        have ht2 : 0 ≤ t ∧ t ≤ 1 := by rw [ht]; split <;> omega
        have k169 : ∀ u : Int, u = min (min (osa (fun i => d 2 (10 * a + i)) (fun i => d 2 (10 * b + i)) i (j + 1)) (osa (fun i => d 2 (10 * a + i)) (fun i => d 2 (10 * b + i)) (i + 1) j) + 1) (osa (fun i => d 2 (10 * a + i)) (fun i => d 2 (10 * b + i)) i j + t) → m_slipsOf_169 N k2 k15 a b ((i + 1 : Nat) : Int) ((j + 1 : Nat) : Int) (d 2 (10 * a + i)) (d 2 (10 * b + j)) u σ = k15 (((j + 1 : Nat) : Int) + 1) (su σ 14 (11 * ((i + 1 : Nat) : Int) + ((j + 1 : Nat) : Int)) (osa (fun i => d 2 (10 * a + i)) (fun i => d 2 (10 * b + i)) (i + 1) (j + 1))) := by
          intro u hu
          have hu2 : 0 ≤ u ∧ u ≤ 40 := by omega
          rw [osa_s, ← ht, ← hu]
          unfold m_slipsOf_169 m_slipsOf_253 m_slipsOf_255
          rw [hm.1 2 rfl]
          simp (disch := omega) only [le32_i]
          have g0 : inb (11 * ((i + 1 : Nat) : Int) + ((j + 1 : Nat) : Int)) 121 := by omega
          simp only [gd_k g0]
          by_cases ci : i = 0
          · rw [if_pos (by omega), if_neg (by omega)]
          · rw [if_neg (by omega)]
            by_cases cj : j = 0
            · rw [if_pos (by omega), if_neg (by omega)]
            · have f1 : 10 * b + ((j + 1 : Nat) : Int) - 2 = 10 * b + ((j - 1 : Nat) : Int) := by omega
              have f2 : 10 * a + ((i + 1 : Nat) : Int) - 2 = 10 * a + ((i - 1 : Nat) : Int) := by omega
              have f3 : 11 * (((i + 1 : Nat) : Int) - 2) + ((j + 1 : Nat) : Int) - 2 = 11 * ((i - 1 : Nat) : Int) + ((j - 1 : Nat) : Int) := by omega
              have hl3 := hd.let a (i - 1 : Nat) ha.1 ha.2 (by omega) (by omega)
              have hl4 := hd.let b (j - 1 : Nat) hb.1 hb.2 (by omega) (by omega)
              have q4 := hC (i - 1) (j - 1) (by omega) (by omega)
              have r4 := osa_r (fun i => d 2 (10 * a + i)) (fun i => d 2 (10 * b + i)) (i - 1 + (j - 1)) (i - 1) (j - 1) (by omega)
              rw [if_neg (by omega), gd_k (by omega), f1]
              simp (disch := omega) only [eq32_i]
              by_cases c1 : d 2 (10 * a + (i : Int)) = d 2 (10 * b + ((j - 1 : Nat) : Int))
              · rw [if_pos c1, gd_k (by omega), f2]
                simp (disch := omega) only [eq32_i]
                by_cases c2 : d 2 (10 * b + (j : Int)) = d 2 (10 * a + ((i - 1 : Nat) : Int))
                · rw [if_pos c2, gd_k (by omega), f3, q4]
                  conv => rhs; rw [if_pos ⟨by omega, by omega, c1, c2⟩]
                  simp (disch := omega) only [le32_i]
                  split
                  · rw [show min u (osa (fun i => d 2 (10 * a + i)) (fun i => d 2 (10 * b + i)) (i - 1) (j - 1) + 1) = u by omega]
                  · rw [show min u (osa (fun i => d 2 (10 * a + i)) (fun i => d 2 (10 * b + i)) (i - 1) (j - 1) + 1) = osa (fun i => d 2 (10 * a + i)) (fun i => d 2 (10 * b + i)) (i - 1) (j - 1) + 1 by omega]
                · rw [if_neg c2, if_neg (fun z => c2 z.2.2.2)]
              · rw [if_neg c1, if_neg (fun z => c1 z.2.2.1)]
        unfold m_slipsOf_100 m_slipsOf_135
        rw [e4, e5, q2, q3]
        have g1 : inb (11 * (i : Int) + ((j + 1 : Nat) : Int)) 121 := by omega
        have g2 : inb (11 * ((i + 1 : Nat) : Int) + (j : Int)) 121 := by omega
        simp only [gd_k g1, gd_k g2]
        simp (disch := omega) only [le32_i]
        repeat' split
        all_goals exact k169 _ (by omega)
      simp (disch := omega) only [eq32_i]
      by_cases c : d 2 (10 * a + (i : Int)) = d 2 (10 * b + (j : Int))
      · rw [if_pos c]; exact key 0 (by rw [if_pos c])
      · rw [if_neg c]; exact key 1 (by rw [if_neg c])
theorem m_slips_in (N : Nat) (k2 : Int → St → MM) {d : St} {a b : Int} (hd : DI d) (ha : 0 ≤ a ∧ a < d 0 1) (hb : 0 ≤ b ∧ b < d 0 1) (i : Nat) (hi : (i : Int) ≤ d 3 a) : ∀ (m j : Nat) (σ : St), (j : Int) ≤ d 3 b + 1 → d 3 b + 1 - j < m → RM d σ → done σ (fun i => d 2 (10 * a + i)) (fun i => d 2 (10 * b + i)) (d 3 b).toNat i j →
    ∃ σ', itr (m_slipsOf_15 N k2 a b i) (fun _ _ => none) m j σ = k2 (i + 1) σ' ∧ RM d σ' ∧ done σ' (fun i => d 2 (10 * a + i)) (fun i => d 2 (10 * b + i)) (d 3 b).toNat (i + 1) 0 := by
  have hr := hd.rows
  have h1 := hd.row a ha.1 ha.2
  have h2 := hd.row b hb.1 hb.2
  intro m
  induction m with
  | zero => intro j σ h3 h4; omega
  | succ m ih =>
    intro j σ h3 h4 hm hC
    rw [itr_k]
    by_cases c : (j : Int) ≤ d 3 b
    · rw [m_slips_body N k2 _ hm hd ha hb i j hi c hC]
      exact ih (j + 1) _ (by omega) (by omega) (RM_k (by decide) (by decide) (by decide) hm) (done_s (by omega) (by omega) hC)
    · rw [m_slipsOf_15, gd_k (by omega), hm.1 3 rfl, if_pos ((lt32_i (by omega) (by omega) (by omega) (by omega)).mpr (by omega))]
      exact ⟨σ, rfl, hm, done_n (by have e : j = (d 3 b).toNat + 1 := by omega
                                    rw [← e]; exact hC)⟩
theorem m_slips_out (N : Nat) (hN : 20 < N) {d : St} {a b : Int} (hd : DI d) (ha : 0 ≤ a ∧ a < d 0 1) (hb : 0 ≤ b ∧ b < d 0 1) : ∀ (m i : Nat) (σ : St), (i : Int) ≤ d 3 a + 1 → d 3 a + 1 - i < m → RM d σ → done σ (fun i => d 2 (10 * a + i)) (fun i => d 2 (10 * b + i)) (d 3 b).toNat i 0 →
    ∃ σ', itr (m_slipsOf_2 N a b) (fun _ _ => none) m i σ = some (sl d a b, σ') ∧ RM d σ' := by
  have hr := hd.rows
  have h1 := hd.row a ha.1 ha.2
  have h2 := hd.row b hb.1 hb.2
  intro m
  induction m with
  | zero => intro i σ h3 h4; omega
  | succ m ih =>
    intro i σ h3 h4 hm hC
    rw [itr_k, m_slipsOf_2, gd_k (by omega), hm.1 3 rfl]
    by_cases c : (i : Int) ≤ d 3 a
    · rw [if_neg (fun z => by rw [lt32_i (by omega) (by omega) (by omega) (by omega)] at z; omega)]
      obtain ⟨σ', e1, e2, e3⟩ := m_slips_in N (itr (m_slipsOf_2 N a b) (fun _ _ => none) m) hd ha hb i c N 0 σ (by omega) (by omega) hm hC
      have e1' : itr (m_slipsOf_15 N (itr (m_slipsOf_2 N a b) (fun _ _ => none) m) a b i) (fun _ _ => none) N 0 σ = itr (m_slipsOf_2 N a b) (fun _ _ => none) m (i + 1) σ' := e1
      rw [e1']
      exact ih (i + 1) σ' (by omega) (by omega) e2 e3
    · rw [if_pos ((lt32_i (by omega) (by omega) (by omega) (by omega)).mpr (by omega)), gd_k (by omega), gd_k (by omega), gd_k (by omega)]
      refine ⟨σ, ?_, hm⟩
      have q := hC (d 3 a).toNat (d 3 b).toNat (by omega) (by omega)
      have ea : (((d 3 a).toNat : Nat) : Int) = d 3 a := by omega
      have eb : (((d 3 b).toNat : Nat) : Int) = d 3 b := by omega
      rw [ea, eb] at q
      rw [q]; rfl
theorem m_slipsOf_e (N : Nat) (hN : 20 < N) {d σ : St} {a b : Int} (hm : RM d σ) (hd : DI d) (ha : 0 ≤ a ∧ a < d 0 1) (hb : 0 ≤ b ∧ b < d 0 1) : ∃ σ', m_slipsOf N a b σ = some (sl d a b, σ') ∧ RM d σ' := by
  have h1 := hd.row a ha.1 ha.2
  exact m_slips_out N hN hd ha hb N 0 σ (by omega) (by omega) hm (fun i' j' _ h => by omega)
theorem sim_slips {N : Nat} (hN : 20 < N) {σx σm : St} (h : RR σx σm) : ∀ a : Int, i32 a → ∀ b : Int, i32 b → OKp RR (x_slips N a b σx) (m_slips N a b σm) := by
  obtain ⟨d, hx, hm, hd⟩ := h
  intro a ha b hb
  have hr := hd.rows
  unfold x_slips m_slips
  rw [x_Rows_has_e N ha hx hd, m_isRow_e N ha hm hd, bd_k, bd_k]
  simp only [b01_0, itn]
  by_cases c1 : 0 ≤ a ∧ a < d 0 1
  · rw [if_pos c1, if_pos c1, x_Rows_has_e N hb hx hd, m_isRow_e N hb hm hd, bd_k, bd_k]
    simp only [b01_0, itn]
    by_cases c2 : 0 ≤ b ∧ b < d 0 1
    · obtain ⟨σ', e1, e2⟩ := m_slipsOf_e N hN hm hd c1 c2
      unfold x_Slips_between
      rw [if_pos c2, if_pos c2, e1, bd_k, gd_k (by omega), bd_k]
      by_cases c3 : a = b
      · subst c3
        rw [hx.slp0 a c1.1 (by omega), sl_same]
        exact ⟨_, _, _, rfl, rfl, d, hx, e2, hd⟩
      · rw [hx.slp a b c1.1 c1.2 c2.1 c2.2 c3]
        exact ⟨_, _, _, rfl, rfl, d, hx, e2, hd⟩
    · rw [if_neg c2, if_neg c2]
      exact ⟨_, _, _, rfl, rfl, d, hx, hm, hd⟩
  · rw [if_neg c1, if_neg c1]
    exact ⟨_, _, _, rfl, rfl, d, hx, hm, hd⟩
