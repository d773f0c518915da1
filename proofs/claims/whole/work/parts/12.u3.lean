/-! the class learns the slips of a new row -/
/-- the cells of the class's table that are done: rows above a, column 0, and of row a those below b -/
def tb (σ : St) (f g : Nat → Int) (la lb a b : Nat) : Prop := ∀ i j : Nat, i ≤ la → j ≤ lb → (i < a ∨ j = 0 ∨ (i = a ∧ j < b)) → σ 18 ((i : Int) * 11 + (j : Int)) = osa f g i j
theorem tb_s {σ : St} {f g : Nat → Int} {la lb a b : Nat} (hlb : lb ≤ 10) (hb : b ≤ lb) (h : tb σ f g la lb a b) : tb (su σ 18 ((a : Int) * 11 + (b : Int)) (osa f g a b)) f g la lb a (b + 1) := by
  intro i j h1 h2 h3
  rw [su_r]
  by_cases e : i = a ∧ j = b
  · rw [if_pos (by omega), e.1, e.2]
  · rw [if_neg (by omega)]; exact h i j h1 h2 (by omega)
theorem tb_n {σ : St} {f g : Nat → Int} {la lb a : Nat} (h : tb σ f g la lb a (lb + 1)) : tb σ f g la lb (a + 1) 1 := by
  intro i j h1 h2 h3
  exact h i j h1 h2 (by omega)
theorem x_few_e (N : Nat) {d s : St} {a b : Int} (hq : QX d s) (hd : DI d) (ha : 0 ≤ a ∧ a < d 0 1) (hb : 0 ≤ b ∧ b < d 0 1) (i j : Nat) (hi : (i : Int) + 1 ≤ d 3 a) (hj : (j : Int) + 1 ≤ d 3 b) (hC : tb s (fun i => d 2 (10 * a + i)) (fun i => d 2 (10 * b + i)) (d 3 a).toNat (d 3 b).toNat (i + 1) (j + 1)) :
    x_Slips_fewestSteps N a ((i + 1 : Nat) : Int) b ((j + 1 : Nat) : Int) s = some (osa (fun i => d 2 (10 * a + i)) (fun i => d 2 (10 * b + i)) (i + 1) (j + 1), s) := by
  have hr := hd.rows
  have h1 := hd.row a ha.1 ha.2
  have h2 := hd.row b hb.1 hb.2
  have q1 := hC i j (by omega) (by omega) (by omega)
  have q2 := hC i (j + 1) (by omega) (by omega) (by omega)
  have q3 := hC (i + 1) j (by omega) (by omega) (by omega)
  have r1 := osa_r (fun i => d 2 (10 * a + i)) (fun i => d 2 (10 * b + i)) (i + j) i j (by omega)
  have r2 := osa_r (fun i => d 2 (10 * a + i)) (fun i => d 2 (10 * b + i)) (i + (j + 1)) i (j + 1) (by omega)
  have r3 := osa_r (fun i => d 2 (10 * a + i)) (fun i => d 2 (10 * b + i)) (i + 1 + j) (i + 1) j (by omega)
  have hl1 := hd.let a i ha.1 ha.2 (by omega) (by omega)
  have hl2 := hd.let b j hb.1 hb.2 (by omega) (by omega)
  have lt1 : ∀ r k : Int, 0 ≤ r → r < d 0 1 → 0 ≤ k → k < d 3 r → x_Rows_letterAt N r k s = some (d 2 (10 * r + k), s) := by
    intro r k r0 r1 k0 k1
    have hrr := hd.row r r0 r1
    unfold x_Rows_letterAt
    rw [gd_k (by omega), hq.2.2.1 r k r0 r1 k0 k1]
  have e1 : ((i + 1 : Nat) : Int) - 1 = (i : Int) := by omega
  have e2 : ((j + 1 : Nat) : Int) - 1 = (j : Int) := by omega
  have e3 : ((i + 1 : Nat) : Int) * 11 + ((j + 1 : Nat) : Int) - 11 = (i : Int) * 11 + ((j + 1 : Nat) : Int) := by omega
  have e4 : ((i + 1 : Nat) : Int) * 11 + ((j + 1 : Nat) : Int) - 1 = ((i + 1 : Nat) : Int) * 11 + (j : Int) := by omega
  have e5 : (i : Int) * 11 + ((j + 1 : Nat) : Int) - 1 = (i : Int) * 11 + (j : Int) := by omega
  have e6 : ((i + 1 : Nat) : Int) * 11 + ((j + 1 : Nat) : Int) - 22 - 2 = ((i - 1 : Nat) : Int) * 11 + ((j - 1 : Nat) : Int) ∨ i = 0 ∨ j = 0 := by omega
  unfold x_Slips_fewestSteps
  rw [e1, e2, lt1 a i ha.1 ha.2 (by omega) (by omega), bd_k, lt1 b j hb.1 hb.2 (by omega) (by omega), bd_k, e3, e4, e5, gd_k (by omega), gd_k (by omega), gd_k (by omega), q1, q2, q3]
  have key : ∀ t : Int, t = (if d 2 (10 * a + (i : Int)) = d 2 (10 * b + (j : Int)) then 0 else 1) → x_Slips_fewestSteps_83 N a ((i + 1 : Nat) : Int) b ((j + 1 : Nat) : Int) (d 2 (10 * a + (i : Int))) (d 2 (10 * b + (j : Int))) (((i + 1 : Nat) : Int) * 11 + ((j + 1 : Nat) : Int)) t (osa (fun i => d 2 (10 * a + i)) (fun i => d 2 (10 * b + i)) i j) (mn32 (osa (fun i => d 2 (10 * a + i)) (fun i => d 2 (10 * b + i)) i (j + 1)) (osa (fun i => d 2 (10 * a + i)) (fun i => d 2 (10 * b + i)) (i + 1) j) + 1) s = some (osa (fun i => d 2 (10 * a + i)) (fun i => d 2 (10 * b + i)) (i + 1) (j + 1), s) := by
    intro t ht
    have ht2 : 0 ≤ t ∧ t ≤ 1 := by rw [ht]; split <;> omega
    rw [mn32_i (by omega) (by omega) (by omega) (by omega), osa_s, ← ht]
    generalize hu : min (osa (fun i => d 2 (10 * a + i)) (fun i => d 2 (10 * b + i)) i (j + 1)) (osa (fun i => d 2 (10 * a + i)) (fun i => d 2 (10 * b + i)) (i + 1) j) + 1 = u
    have hu2 : 0 ≤ u ∧ u ≤ 40 := by omega
    unfold x_Slips_fewestSteps_83
    rw [mn32_i (by omega) (by omega) (by omega) (by omega)]
    by_cases ci : i = 0
    · rw [if_pos ((le32_i (by omega) (by omega) (by omega) (by omega)).mpr (by omega)), if_neg (show ¬ (1 ≤ i ∧ _) from fun z => by have := z.1; omega)]
    rw [if_neg (fun z => by rw [le32_i (by omega) (by omega) (by omega) (by omega)] at z; omega)]
    by_cases cj : j = 0
    · rw [if_pos ((le32_i (by omega) (by omega) (by omega) (by omega)).mpr (by omega)), if_neg (show ¬ (1 ≤ i ∧ 1 ≤ j ∧ _) from fun z => by have := z.2.1; omega)]
    have e7 := e6.resolve_right (by omega)
    have f1 : ((j + 1 : Nat) : Int) - 2 = ((j - 1 : Nat) : Int) := by omega
    have f2 : ((i + 1 : Nat) : Int) - 2 = ((i - 1 : Nat) : Int) := by omega
    have hl3 := hd.let a (i - 1 : Nat) ha.1 ha.2 (by omega) (by omega)
    have hl4 := hd.let b (j - 1 : Nat) hb.1 hb.2 (by omega) (by omega)
    have q4 := hC (i - 1) (j - 1) (by omega) (by omega) (by omega)
    have r4 := osa_r (fun i => d 2 (10 * a + i)) (fun i => d 2 (10 * b + i)) (i - 1 + (j - 1)) (i - 1) (j - 1) (by omega)
    rw [if_neg (fun z => by rw [le32_i (by omega) (by omega) (by omega) (by omega)] at z; omega), f1, f2, lt1 b (j - 1 : Nat) hb.1 hb.2 (by omega) (by omega), bd_k]
    by_cases c1 : d 2 (10 * a + (i : Int)) = d 2 (10 * b + ((j - 1 : Nat) : Int))
    · rw [if_pos ((eq32_i (by omega) (by omega) (by omega) (by omega)).mpr c1), lt1 a (i - 1 : Nat) ha.1 ha.2 (by omega) (by omega), bd_k]
      by_cases c2 : d 2 (10 * b + (j : Int)) = d 2 (10 * a + ((i - 1 : Nat) : Int))
      · rw [if_pos ((eq32_i (by omega) (by omega) (by omega) (by omega)).mpr c2), e7, gd_k (by omega), q4, mn32_i (by omega) (by omega) (by omega) (by omega)]
        conv => rhs; rw [if_pos ⟨by omega, by omega, c1, c2⟩]
      · rw [if_neg (fun z => c2 ((eq32_i (by omega) (by omega) (by omega) (by omega)).mp z))]
        conv => rhs; rw [if_neg (fun z => c2 z.2.2.2)]
    · rw [if_neg (fun z => c1 ((eq32_i (by omega) (by omega) (by omega) (by omega)).mp z))]
      conv => rhs; rw [if_neg (fun z => c1 z.2.2.1)]
  by_cases c : d 2 (10 * a + (i : Int)) = d 2 (10 * b + (j : Int))
  · rw [if_pos ((eq32_i (by omega) (by omega) (by omega) (by omega)).mpr c)]; exact key 0 (by rw [if_pos c])
  · rw [if_neg (fun z => c ((eq32_i (by omega) (by omega) (by omega) (by omega)).mp z))]; exact key 1 (by rw [if_neg c])
theorem x_measure_e (N : Nat) (hN : 100 < N) {d σ : St} {a b : Int} (hq : QX d σ) (hd : DI d) (ha : 0 ≤ a ∧ a < d 0 1) (hb : 0 ≤ b ∧ b < d 0 1) : ∃ σ', x_Slips_measure N a b σ = some (sl d a b, σ') ∧ ∀ k, k ≠ 18 → σ' k = σ k := by
  have hr := hd.rows
  have h1 := hd.row a ha.1 ha.2
  have h2 := hd.row b hb.1 hb.2
  have yq : ∀ s : St, (∀ k, k ≠ 18 → s k = σ k) → QX d s := fun s hs => QX_s (fun k hk => hs k (fun e => by rw [e] at hk; cases hk)) hq
  unfold x_Slips_measure x_Rows_fact
  rw [gd_k (by omega), (hq.2.1 a ha.1 ha.2).2.2.2.2.1, bd_k, gd_k (by omega), (hq.2.1 b hb.1 hb.2).2.2.2.2.1, bd_k]
  refine lq1 (Out := fun z => ∃ σ', z = some (sl d a b, σ') ∧ ∀ k, k ≠ 18 → σ' k = σ k) (Inv := fun x s => (∀ k, k ≠ 18 → s k = σ k) ∧ 0 ≤ x ∧ x ≤ d 3 a + 1 ∧ ∀ i : Nat, (i : Int) < x → s 18 ((i : Int) * 11) = i) (fun x _ => d 3 a + 1 - x) ?_ ?_ N 0 σ ⟨fun _ _ => rfl, by omega, by omega, fun i hi => by omega⟩ (by omega)
  · rintro k x s ⟨g1, x0, x1, g2⟩
    unfold x_Slips_measure_19
    by_cases c : x ≤ d 3 a
    · right
      rw [if_neg (fun z => by rw [lt32_i (by omega) (by omega) (by omega) (by omega)] at z; omega), gd_k (by omega)]
      refine ⟨_, _, rfl, ⟨fun k hk => by rw [su_k _ _ _ hk]; exact g1 k hk, by omega, by omega, fun i hi => ?_⟩, by omega⟩
      rw [su_r]
      by_cases e : (i : Int) = x
      · rw [if_pos (by omega)]; exact e.symm
      · rw [if_neg (by omega)]; exact g2 i (by omega)
    · left
      rw [if_pos ((lt32_i (by omega) (by omega) (by omega) (by omega)).mpr (by omega))]
      refine lq1 (Out := fun z => ∃ σ', z = some (sl d a b, σ') ∧ ∀ k, k ≠ 18 → σ' k = σ k) (Inv := fun x s => (∀ k, k ≠ 18 → s k = σ k) ∧ 0 ≤ x ∧ x ≤ d 3 b + 1 ∧ (∀ i : Nat, (i : Int) ≤ d 3 a → s 18 ((i : Int) * 11) = i) ∧ ∀ j : Nat, (j : Int) < x → s 18 j = j) (fun x _ => d 3 b + 1 - x) ?_ ?_ N 0 s ⟨g1, by omega, by omega, fun i hi => g2 i (by omega), fun i hi => by omega⟩ (by omega)
      · rintro k x s ⟨g1, x0, x1, g2, g3⟩
        unfold x_Slips_measure_47
        by_cases c : x ≤ d 3 b
        · right
          rw [if_neg (fun z => by rw [lt32_i (by omega) (by omega) (by omega) (by omega)] at z; omega), gd_k (by omega)]
          refine ⟨_, _, rfl, ⟨fun k hk => by rw [su_k _ _ _ hk]; exact g1 k hk, by omega, by omega, fun i hi => ?_, fun j hj => ?_⟩, by omega⟩
          · rw [su_r]
            by_cases e : (i : Int) * 11 = x
            · rw [if_pos e]; omega
            · rw [if_neg e]; exact g2 i hi
          · rw [su_r]
            by_cases e : (j : Int) = x
            · rw [if_pos e]; exact e.symm
            · rw [if_neg e]; exact g3 j (by omega)
        · left
          rw [if_pos ((lt32_i (by omega) (by omega) (by omega) (by omega)).mpr (by omega))]
          refine lq1 (Out := fun z => ∃ σ', z = some (sl d a b, σ') ∧ ∀ k, k ≠ 18 → σ' k = σ k) (Inv := fun x s => (∀ k, k ≠ 18 → s k = σ k) ∧ ∃ i : Nat, x = ((i + 1 : Nat) : Int) ∧ (i : Int) ≤ d 3 a ∧ tb s (fun i => d 2 (10 * a + i)) (fun i => d 2 (10 * b + i)) (d 3 a).toNat (d 3 b).toNat (i + 1) 1) (fun x _ => d 3 a + 1 - x) ?_ ?_ N 1 s ⟨g1, 0, by omega, by omega, ?_⟩ (by omega)
          · rintro k x s ⟨g1, i, rfl, hi, g2⟩
            unfold x_Slips_measure_72
            by_cases c : (i : Int) < d 3 a
            · right
              rw [if_neg (fun z => by rw [lt32_i (by omega) (by omega) (by omega) (by omega)] at z; omega)]
              refine lq1 (Out := fun z => ∃ a' s', z = k a' s' ∧ ((∀ k, k ≠ 18 → s' k = σ k) ∧ ∃ i : Nat, a' = ((i + 1 : Nat) : Int) ∧ (i : Int) ≤ d 3 a ∧ tb s' (fun i => d 2 (10 * a + i)) (fun i => d 2 (10 * b + i)) (d 3 a).toNat (d 3 b).toNat (i + 1) 1) ∧ d 3 a + 1 - a' < d 3 a + 1 - ((i + 1 : Nat) : Int)) (Inv := fun x s => (∀ k, k ≠ 18 → s k = σ k) ∧ ∃ j : Nat, x = ((j + 1 : Nat) : Int) ∧ (j : Int) ≤ d 3 b ∧ tb s (fun i => d 2 (10 * a + i)) (fun i => d 2 (10 * b + i)) (d 3 a).toNat (d 3 b).toNat (i + 1) (j + 1)) (fun x _ => d 3 b + 1 - x) ?_ ?_ N 1 s ⟨g1, 0, by omega, by omega, g2⟩ (by omega)
              · rintro kk x s ⟨g1, j, rfl, hj, g2⟩
                unfold x_Slips_measure_82
                by_cases c2 : (j : Int) < d 3 b
                · right
                  rw [if_neg (fun z => by rw [lt32_i (by omega) (by omega) (by omega) (by omega)] at z; omega), x_few_e N (yq s g1) hd ha hb i j (by omega) (by omega) g2, bd_k, gd_k (by omega)]
                  exact ⟨_, _, rfl, ⟨fun k hk => by rw [su_k _ _ _ hk]; exact g1 k hk, j + 1, by omega, by omega, tb_s (by omega) (by omega) g2⟩, by omega⟩
                · left
                  rw [if_pos ((lt32_i (by omega) (by omega) (by omega) (by omega)).mpr (by omega))]
                  refine ⟨_, s, rfl, ⟨g1, i + 1, by omega, by omega, tb_n ?_⟩, by omega⟩
                  have e : (d 3 b).toNat + 1 = j + 1 := by omega
                  rw [e]; exact g2
              · rintro x s ⟨-, j, rfl, hj, -⟩; omega
            · left
              rw [if_pos ((lt32_i (by omega) (by omega) (by omega) (by omega)).mpr (by omega)), gd_k (by omega)]
              have := g2 (d 3 a).toNat (d 3 b).toNat (by omega) (by omega) (by omega)
              refine ⟨s, ?_, g1⟩
              unfold sl
              rw [← this, Int.toNat_of_nonneg (by omega), Int.toNat_of_nonneg (by omega)]
          · rintro x s ⟨-, i, rfl, hi, -⟩; omega
          · intro i j hi hj h
            by_cases e : j = 0
            · rw [e, osa_z, show ((i : Nat) : Int) * 11 + ((0 : Nat) : Int) = i * 11 by omega]; exact g2 i (by omega)
            · have e2 : i = 0 := by omega
              rw [e2, osa_0, show ((0 : Nat) : Int) * 11 + (j : Int) = j by omega]; exact g3 j (by omega)
      · rintro x s ⟨-, x0, x1, -⟩; omega
  · rintro x s ⟨-, x0, x1, -⟩; omega
/-- the slips of the new row r with those above it -/
theorem x_learn_e (N : Nat) (hN : 100 < N) {d σ : St} {r : Int} (hq : QX d σ) (hd : DI d) (hr : 0 ≤ r ∧ r < d 0 1) : ∃ σ', x_Slips_learn N r σ = some (0, σ') ∧ (∀ k, k ≠ 17 → k ≠ 18 → σ' k = σ k) ∧ (∀ o, 0 ≤ o → o < r → σ' 17 (o * 36 + r) = sl d o r ∧ σ' 17 (r * 36 + o) = sl d r o) ∧ ∀ a b, 0 ≤ a → a < 36 → 0 ≤ b → b < 36 → a ≠ r ∨ r ≤ b → b ≠ r ∨ r ≤ a → σ' 17 (a * 36 + b) = σ 17 (a * 36 + b) := by
  have hR := hd.rows
  unfold x_Slips_learn
  refine lq1 (Out := fun z => ∃ σ', z = some (0, σ') ∧ (∀ k, k ≠ 17 → k ≠ 18 → σ' k = σ k) ∧ (∀ o, 0 ≤ o → o < r → σ' 17 (o * 36 + r) = sl d o r ∧ σ' 17 (r * 36 + o) = sl d r o) ∧ ∀ a b, 0 ≤ a → a < 36 → 0 ≤ b → b < 36 → a ≠ r ∨ r ≤ b → b ≠ r ∨ r ≤ a → σ' 17 (a * 36 + b) = σ 17 (a * 36 + b)) (Inv := fun x s => (∀ k, k ≠ 17 → k ≠ 18 → s k = σ k) ∧ 0 ≤ x ∧ x ≤ r ∧ (∀ o, 0 ≤ o → o < x → s 17 (o * 36 + r) = sl d o r ∧ s 17 (r * 36 + o) = sl d r o) ∧ ∀ a b, 0 ≤ a → a < 36 → 0 ≤ b → b < 36 → a ≠ r ∨ r ≤ b → b ≠ r ∨ r ≤ a → s 17 (a * 36 + b) = σ 17 (a * 36 + b)) (fun x _ => r - x) ?_ ?_ N 0 σ ⟨fun _ _ _ => rfl, by omega, by omega, fun o o0 o1 => by omega, fun _ _ _ _ _ _ _ _ => rfl⟩ (by omega)
  · rintro k x s ⟨g1, x0, x1, g2, g3⟩
    unfold x_Slips_learn_2
    by_cases c : r ≤ x
    · left
      rw [if_pos ((le32_i (by omega) (by omega) (by omega) (by omega)).mpr c)]
      exact ⟨s, rfl, g1, fun o o0 o1 => g2 o o0 (by omega), g3⟩
    · right
      obtain ⟨s', q1, q2⟩ := x_measure_e N hN (QX_s (fun k hk => g1 k (fun e => by rw [e] at hk; cases hk) (fun e => by rw [e] at hk; cases hk)) hq) hd (a := x) (b := r) (by omega) hr
      rw [if_neg (fun z => c ((le32_i (by omega) (by omega) (by omega) (by omega)).mp z)), q1, bd_k, gd_k (by omega), gd_k (by omega)]
      refine ⟨_, _, rfl, ⟨fun k h17 h18 => by rw [su_k _ _ _ h17, su_k _ _ _ h17, q2 k h18]; exact g1 k h17 h18, by omega, by omega, fun o o0 o1 => ?_, fun a b a0 a1 b0 b1 ha hb => ?_⟩, by omega⟩
      · by_cases e : o = x
        · subst e
          rw [su_e, su_n _ _ _ _ _ (by omega), su_e]
          exact ⟨rfl, sl_sym d o r⟩
        · rw [su_n _ _ _ _ _ (by omega), su_n _ _ _ _ _ (by omega), su_n _ _ _ _ _ (by omega), su_n _ _ _ _ _ (by omega), q2 17 (by decide)]
          exact g2 o o0 (by omega)
      · rw [su_n _ _ _ _ _ (by omega), su_n _ _ _ _ _ (by omega), q2 17 (by decide)]
        exact g3 a b a0 a1 b0 b1 ha hb
  · rintro x s ⟨-, x0, x1, -⟩; omega
