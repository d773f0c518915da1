/-! bound -/
theorem x_choose_e (N : Nat) (hN : 100 < N) {n k : Nat} (s : St) (hn : n ≤ 60) (hk : k ≤ 60) : x_Checks_waysToChoose N (n : Int) (k : Int) s = some (((bc n k : Nat) : Int), s) := by
  unfold x_Checks_waysToChoose
  by_cases c : k ≤ n
  · rw [if_pos ((le32_i (by omega) (by omega) (by omega) (by omega)).mpr (by omega)), mn32_i (by omega) (by omega) (by omega) (by omega)]
    obtain ⟨l, hl, hl2, hl3⟩ : ∃ l : Nat, min (k : Int) ((n : Int) - k) = l ∧ l ≤ n ∧ bc n l = bc n k := by
      by_cases c2 : k ≤ n - k
      · exact ⟨k, by omega, c, rfl⟩
      · exact ⟨n - k, by omega, by omega, bc_sym n (n - k) k (by omega)⟩
    rw [hl, ← hl3]
    refine lq2 (Out := fun z => z = some (((bc n l : Nat) : Int), s)) (Inv := fun v i s' => s' = s ∧ ∃ j : Nat, i = j + 1 ∧ j ≤ l ∧ v = ((bc (n - l + j) j : Nat) : Int)) (fun _ i _ => l + 1 - i) ?_ ?_ N 1 1 s ⟨rfl, 0, rfl, by omega, by rw [bc_0]; rfl⟩ (by omega)
    · rintro k2 v i s' ⟨rfl, j, rfl, hj, rfl⟩
      unfold x_Checks_waysToChoose_20
      by_cases c2 : j = l
      · left
        rw [if_pos ((lt32_i (by omega) (by omega) (by omega) (by omega)).mpr (by omega)), c2, show n - l + l = n by omega]
      · right
        have hb := bc_le (n := n - l + j) j (by omega)
        have hb2 := bc_le (n := n - l + j + 1) (j + 1) (by omega)
        have ha := bc_ab (n - l + j) j
        have hm : (bc (n - l + j) j) * (n - l + j + 1) ≤ 144115188075855872 * 60 := Nat.mul_le_mul hb (by omega)
        refine ⟨((bc (n - l + (j + 1)) (j + 1) : Nat) : Int), (j : Int) + 1 + 1, s', ?_, ⟨rfl, j + 1, by omega, by omega, rfl⟩, by omega⟩
        have es : (n : Int) - (l : Int) + ((j : Int) + 1) = ((n - l + j + 1 : Nat) : Int) := by omega
        rw [if_neg (fun z => by rw [lt32_i (by omega) (by omega) (by omega) (by omega)] at z; omega), es, s32_i (by omega) (by omega), s32_i (by omega) (by omega), gd_k (ne64_i (by omega) (by omega) (by omega)), ← Int.natCast_mul, dv64_i (by omega) (by omega) (by omega) (by omega), show (j : Int) + 1 = ((j + 1 : Nat) : Int) by omega, ← Int.natCast_ediv, ← ha, Nat.mul_div_cancel _ (by omega), Nat.add_assoc]
    · rintro v i s' ⟨-, j, rfl, hj, -⟩; omega
  · rw [if_neg (fun z => by rw [le32_i (by omega) (by omega) (by omega) (by omega)] at z; omega), bc_z n k (by omega)]; rfl
theorem T_b {N n K : Nat} (hN : N ≤ 60) (hK : K ≤ N) {j : Nat} (hj : j ≤ n + 1) : T K (N - K) n j ≤ bc N n ∧ bc N n ≤ 144115188075855872 := by
  have := T_v n K (N - K)
  rw [show K + (N - K) = N by omega] at this
  exact ⟨by rw [← this]; exact T_mo _ _ _ hj, bc_le n hN⟩
theorem LI_i {N n k K : Nat} (hN : N ≤ 60) (hK : K ≤ N) (hk : k ≤ n) : ((bc N n : Nat) : Int) ≤ 40 * ((T K (N - K) n (k + 1) : Nat) : Int) ∧ ((bc N n : Nat) : Int) ≤ 40 * (((T K (N - K) n (n + 1) : Nat) : Int) - ((T K (N - K) n k : Nat) : Int)) ↔ LI N n k K := by
  have a := T_b (n := n) (j := k) hN hK (by omega)
  have v := T_v n K (N - K)
  rw [show K + (N - K) = N by omega] at v
  rw [v]
  unfold LI
  constructor
  · rintro ⟨h1, h2⟩; omega
  · rintro ⟨h1, h2⟩; omega
theorem x_isLikely_e (N : Nat) (hN : 100 < N) {A n k K : Nat} (s : St) (hA : A ≤ 60) (hn : n ≤ 40) (hk : k ≤ n) (hK : K ≤ A) : x_Checks_isLikely N (A : Int) (n : Int) (k : Int) (K : Int) s = some (b01 (LI A n k K), s) := by
  unfold x_Checks_isLikely
  refine lq3 (Out := fun z => z = some (b01 (LI A n k K), s)) (Inv := fun u v i s' => s' = s ∧ ∃ j : Nat, i = j ∧ j ≤ n + 1 ∧ u = ((T K (A - K) n (min j (k + 1)) : Nat) : Int) ∧ v = ((T K (A - K) n j : Nat) : Int) - ((T K (A - K) n (min j k) : Nat) : Int)) (fun _ _ i _ => n + 1 - i) ?_ ?_ N 0 0 0 s ⟨rfl, 0, rfl, by omega, by rw [Nat.zero_min]; rfl, by rw [Nat.zero_min]; rfl⟩ (by omega)
  · rintro k9 u v i s' ⟨rfl, j, rfl, hj, rfl, rfl⟩
    unfold x_Checks_isLikely_9
    by_cases c : j = n + 1
    · left
      have t1 := T_b (n := n) (j := k + 1) hA hK (by omega)
      have t2 := T_b (n := n) (j := k) hA hK (by omega)
      have t3 := T_b (n := n) (j := n + 1) hA hK (by omega)
      have t4 := T_mo K (A - K) n (show k ≤ n + 1 by omega)
      rw [if_pos ((lt32_i (by omega) (by omega) (by omega) (by omega)).mpr (by omega)), x_choose_e N hN s' hA (by omega), bd_k, c, show min (n + 1) (k + 1) = k + 1 by omega, show min (n + 1) k = k by omega]
      rw [← b01_c (LI_i hA hK hk)]
      by_cases c1 : 40 * ((T K (A - K) n (k + 1) : Nat) : Int) < ((bc A n : Nat) : Int)
      · rw [if_pos ((lt64_i (by omega) (by omega) (by omega) (by omega)).mpr c1), b01_f (fun z => by have := z.1; omega)]
      · rw [if_neg (fun z => c1 ((lt64_i (by omega) (by omega) (by omega) (by omega)).mp z))]
        by_cases c2 : 40 * (((T K (A - K) n (n + 1) : Nat) : Int) - ((T K (A - K) n k : Nat) : Int)) < ((bc A n : Nat) : Int)
        · rw [if_pos ((lt64_i (by omega) (by omega) (by omega) (by omega)).mpr c2), b01_f (fun z => by have := z.2; omega)]
        · rw [if_neg (fun z => c2 ((lt64_i (by omega) (by omega) (by omega) (by omega)).mp z)), b01_t ⟨by omega, by omega⟩]
    · right
      have es1 : (A : Int) - (K : Int) = ((A - K : Nat) : Int) := by omega
      have es2 : (n : Int) - (j : Int) = ((n - j : Nat) : Int) := by omega
      have eT : T K (A - K) n (j + 1) = T K (A - K) n j + bc K j * bc (A - K) (n - j) := rfl
      refine ⟨((T K (A - K) n (min (j + 1) (k + 1)) : Nat) : Int), ((T K (A - K) n (j + 1) : Nat) : Int) - ((T K (A - K) n (min (j + 1) k) : Nat) : Int), (j : Int) + 1, s', ?_, ⟨rfl, j + 1, by omega, by omega, rfl, rfl⟩, by omega⟩
      rw [if_neg (fun z => by rw [lt32_i (by omega) (by omega) (by omega) (by omega)] at z; omega), x_choose_e N hN s' (by omega) (by omega), bd_k, es1, es2, x_choose_e N hN s' (by omega) (by omega), bd_k, ← Int.natCast_mul]
      unfold x_Checks_isLikely_47 x_Checks_isLikely_60
      by_cases c1 : k < j
      · rw [if_pos ((lt32_i (by omega) (by omega) (by omega) (by omega)).mpr (by omega)), if_neg (fun z => by rw [lt32_i (by omega) (by omega) (by omega) (by omega)] at z; omega), show min (j + 1) (k + 1) = k + 1 by omega, show min j (k + 1) = k + 1 by omega, show min (j + 1) k = k by omega, show min j k = k by omega, eT, Int.natCast_add]
        congr 1; omega
      · rw [if_neg (fun z => by rw [lt32_i (by omega) (by omega) (by omega) (by omega)] at z; omega), show min (j + 1) (k + 1) = j + 1 by omega, show min j (k + 1) = j by omega, show min j k = j by omega]
        by_cases c2 : j < k
        · rw [if_pos ((lt32_i (by omega) (by omega) (by omega) (by omega)).mpr (by omega)), show min (j + 1) k = j + 1 by omega, eT, Int.natCast_add]
          congr 1; omega
        · rw [if_neg (fun z => by rw [lt32_i (by omega) (by omega) (by omega) (by omega)] at z; omega), show min (j + 1) k = j by omega, eT, Int.natCast_add]
          congr 1; omega
  · rintro u v i s' ⟨-, j, rfl, hj, -⟩; omega
theorem waysOf_e (N : Nat) (hN : 100 < N) (k0 : Nat) {n : Nat} (s : St) (hn : n ≤ 60) : ∃ s', j_M_waysOf N k0 62 (n : Int) s = some (0, s') ∧ (∀ k, k ≠ k0 → s' k = s k) ∧ ∀ x : Nat, x < 62 → s' k0 (x : Int) = ((bc n x : Nat) : Int) := by
  have e24 : ∀ s : St, (∀ x : Nat, x < 62 → s k0 (x : Int) = ((bc 0 x : Nat) : Int)) → ∃ s', itr (j_M_waysOf_24 N k0 62 (n : Int)) (fun _ _ => none) N 0 s = some (0, s') ∧ (∀ k, k ≠ k0 → s' k = s k) ∧ ∀ x : Nat, x < 62 → s' k0 (x : Int) = ((bc n x : Nat) : Int) := by
    intro s hs
    refine lq1 (Out := fun z => ∃ s', z = some (0, s') ∧ (∀ k, k ≠ k0 → s' k = s k) ∧ ∀ x : Nat, x < 62 → s' k0 (x : Int) = ((bc n x : Nat) : Int)) (Inv := fun i s1 => (∀ k, k ≠ k0 → s1 k = s k) ∧ ∃ t : Nat, i = t ∧ t ≤ n ∧ ∀ x : Nat, x < 62 → s1 k0 (x : Int) = ((bc t x : Nat) : Int)) (fun i _ => n - i) ?_ ?_ N 0 s ⟨fun _ _ => rfl, 0, rfl, by omega, hs⟩ (by omega)
    · rintro k i s1 ⟨h1, t, rfl, ht, h2⟩
      unfold j_M_waysOf_24
      by_cases c : t = n
      · left
        rw [if_pos ((le32_i (by omega) (by omega) (by omega) (by omega)).mpr (by omega))]
        exact ⟨s1, rfl, h1, by rw [← c]; exact h2⟩
      · right
        rw [if_neg (fun z => by rw [le32_i (by omega) (by omega) (by omega) (by omega)] at z; omega)]
        have key : ∃ s2, itr (j_M_waysOf_33 N k0 62 k (n : Int) (t : Int)) (fun _ _ => none) N ((t : Int) + 1) s1 = k ((t : Int) + 1) s2 ∧ (∀ k, k ≠ k0 → s2 k = s k) ∧ ∀ x : Nat, x < 62 → s2 k0 (x : Int) = ((bc (t + 1) x : Nat) : Int) := by
          refine lq1 (Out := fun z => ∃ s2, z = k ((t : Int) + 1) s2 ∧ (∀ k, k ≠ k0 → s2 k = s k) ∧ ∀ x : Nat, x < 62 → s2 k0 (x : Int) = ((bc (t + 1) x : Nat) : Int)) (Inv := fun i s2 => (∀ k, k ≠ k0 → s2 k = s k) ∧ ∃ q : Nat, i = q ∧ q ≤ t + 1 ∧ ∀ x : Nat, x < 62 → s2 k0 (x : Int) = (((if q < x then bc (t + 1) x else bc t x) : Nat) : Int)) (fun i _ => i) ?_ ?_ N ((t : Int) + 1) s1 ⟨h1, t + 1, by omega, by omega, fun x hx => by
            rw [h2 x hx]
            by_cases z : t + 1 < x
            · rw [if_pos z, bc_z _ _ z, bc_z t x (by omega)]
            · rw [if_neg z]⟩ (by omega)
          · rintro k2 i s2 ⟨g1, q, rfl, hq, g2⟩
            unfold j_M_waysOf_33
            by_cases c2 : q = 0
            · left
              rw [if_pos ((le32_i (by omega) (by omega) (by omega) (by omega)).mpr (by omega))]
              refine ⟨s2, rfl, g1, fun x hx => ?_⟩
              rw [g2 x hx, c2]
              by_cases z : 0 < x
              · rw [if_pos z]
              · rw [if_neg z, show x = 0 by omega, bc_0, bc_0]
            · right
              obtain ⟨p, rfl⟩ : ∃ p, q = p + 1 := ⟨q - 1, by omega⟩
              have ep : ((p + 1 : Nat) : Int) - 1 = (p : Int) := by omega
              rw [if_neg (fun z => by rw [le32_i (by omega) (by omega) (by omega) (by omega)] at z; omega), gd_k (by omega), gd_k (by omega), gd_k (by omega), ep, g2 (p + 1) (by omega), g2 p (by omega), if_neg (by omega), if_neg (by omega)]
              refine ⟨_, _, rfl, ⟨fun k' hk' => by rw [su_k _ _ _ hk']; exact g1 k' hk', p, by omega, by omega, fun x hx => ?_⟩, by omega⟩
              rw [su_r]
              by_cases z : x = p + 1
              · rw [if_pos (by omega), z, if_pos (by omega), bc_s]; omega
              · rw [if_neg (by omega), g2 x hx]
                by_cases z2 : p + 1 < x
                · rw [if_pos z2, if_pos (by omega)]
                · rw [if_neg z2, if_neg (by omega)]
          · rintro i s2 ⟨-, q, rfl, hq, -⟩; omega
        obtain ⟨s2, q1, q2, q3⟩ := key
        exact ⟨(t : Int) + 1, s2, q1, ⟨q2, t + 1, by omega, by omega, q3⟩, by omega⟩
    · rintro i s1 ⟨-, t, rfl, ht, -⟩; omega
  unfold j_M_waysOf
  rw [gd_k (show inb 0 ((62 : Nat) : Int) by omega)]
  refine lq1 (Out := fun z => ∃ s', z = some (0, s') ∧ (∀ k, k ≠ k0 → s' k = s k) ∧ ∀ x : Nat, x < 62 → s' k0 (x : Int) = ((bc n x : Nat) : Int)) (Inv := fun i s1 => (∀ k, k ≠ k0 → s1 k = s k) ∧ ∃ t : Nat, i = t ∧ 1 ≤ t ∧ t ≤ 62 ∧ ∀ x : Nat, x < t → s1 k0 (x : Int) = ((bc 0 x : Nat) : Int)) (fun i _ => 62 - i) ?_ ?_ N 1 _ ⟨fun k hk => su_k _ _ _ hk, 1, rfl, by omega, by omega, fun x hx => by rw [show x = 0 by omega]; exact su_e _ _ _ _⟩ (by omega)
  · rintro k i s1 ⟨h1, t, rfl, ht, ht2, h2⟩
    unfold j_M_waysOf_6
    by_cases c : t = 62
    · left
      rw [if_pos ((le32_i (by omega) (by omega) (by omega) (by omega)).mpr (by omega))]
      obtain ⟨s', q1, q2, q3⟩ := e24 s1 (fun x hx => h2 x (by omega))
      exact ⟨s', q1, fun k hk => (q2 k hk).trans (h1 k hk), q3⟩
    · right
      rw [if_neg (fun z => by rw [le32_i (by omega) (by omega) (by omega) (by omega)] at z; omega), gd_k (by omega)]
      refine ⟨_, _, rfl, ⟨fun k' hk' => by rw [su_k _ _ _ hk']; exact h1 k' hk', t + 1, by omega, by omega, by omega, fun x hx => ?_⟩, by omega⟩
      rw [su_r]
      by_cases z : x = t
      · rw [if_pos (by omega), z, bc_z 0 t (by omega)]; rfl
      · rw [if_neg (by omega)]; exact h2 x (by omega)
  · rintro i s1 ⟨-, t, rfl, ht, ht2, -⟩; omega
theorem m_isLikely_e (N : Nat) (hN : 100 < N) {d σ : St} {A n k K : Nat} (hm : RM d σ) (h26 : σ 0 26 = A) (hA : A ≤ 60) (hn : n ≤ 40) (hk : k ≤ n) (hK : K ≤ A) : ∃ σ', m_isLikely N (K : Int) (n : Int) (k : Int) σ = some (b01 (LI A n k K), σ') ∧ RM d σ' ∧ σ' 0 26 = A := by
  obtain ⟨s1, a1, a2, a3⟩ := waysOf_e N hN 28 (n := K) σ (by omega)
  have r1 : RM d s1 := ⟨fun j hj => by rw [a2 j (fun e => by rw [e] at hj; cases hj)]; exact hm.1 j hj, fun j hj => by rw [a2 0 (by decide)]; exact hm.2.1 j hj, by rw [a2 0 (by decide), a2 11 (by decide)]; exact hm.2.2⟩
  have h1 : s1 0 26 = A := by rw [a2 0 (by decide)]; exact h26
  obtain ⟨s2, b1, b2, b3⟩ := waysOf_e N hN 29 (n := A - K) s1 (by omega)
  have r2 : RM d s2 := ⟨fun j hj => by rw [b2 j (fun e => by rw [e] at hj; cases hj)]; exact r1.1 j hj, fun j hj => by rw [b2 0 (by decide)]; exact r1.2.1 j hj, by rw [b2 0 (by decide), b2 11 (by decide)]; exact r1.2.2⟩
  have h2 : s2 0 26 = A := by rw [b2 0 (by decide)]; exact h1
  obtain ⟨s3, c1, c2, c3⟩ := waysOf_e N hN 30 (n := A) s2 (by omega)
  have r3 : RM d s3 := ⟨fun j hj => by rw [c2 j (fun e => by rw [e] at hj; cases hj)]; exact r2.1 j hj, fun j hj => by rw [c2 0 (by decide)]; exact r2.2.1 j hj, by rw [c2 0 (by decide), c2 11 (by decide)]; exact r2.2.2⟩
  have h3 : s3 0 26 = A := by rw [c2 0 (by decide)]; exact h2
  unfold m_isLikely
  rw [a1, bd_k, h1, show (A : Int) - (K : Int) = ((A - K : Nat) : Int) by omega, b1, bd_k, h2, c1, bd_k]
  refine ⟨s3, ?_, r3, h3⟩
  have g28 : ∀ x : Nat, x < 62 → s3 28 (x : Int) = ((bc K x : Nat) : Int) := fun x hx => by rw [c2 28 (by decide), b2 28 (by decide)]; exact a3 x hx
  have g29 : ∀ x : Nat, x < 62 → s3 29 (x : Int) = ((bc (A - K) x : Nat) : Int) := fun x hx => by rw [c2 29 (by decide)]; exact b3 x hx
  refine lq3 (Out := fun z => z = some (b01 (LI A n k K), s3)) (Inv := fun u v i s' => s' = s3 ∧ ∃ j : Nat, i = j ∧ j ≤ n + 1 ∧ u = ((T K (A - K) n (min j (k + 1)) : Nat) : Int) ∧ v = ((T K (A - K) n j : Nat) : Int) - ((T K (A - K) n (min j k) : Nat) : Int)) (fun _ _ i _ => n + 1 - i) ?_ ?_ N 0 0 0 s3 ⟨rfl, 0, rfl, by omega, by rw [Nat.zero_min]; rfl, by rw [Nat.zero_min]; rfl⟩ (by omega)
  · rintro k9 u v i s' ⟨rfl, j, rfl, hj, rfl, rfl⟩
    unfold m_isLikely_41
    by_cases c : j = n + 1
    · left
      have t1 := T_b (n := n) (j := k + 1) hA hK (by omega)
      have t2 := T_b (n := n) (j := k) hA hK (by omega)
      have t3 := T_b (n := n) (j := n + 1) hA hK (by omega)
      have t4 := T_mo K (A - K) n (show k ≤ n + 1 by omega)
      rw [if_pos ((lt32_i (by omega) (by omega) (by omega) (by omega)).mpr (by omega)), gd_k (by omega), gd_k (by omega), c3 n (by omega), c, show min (n + 1) (k + 1) = k + 1 by omega, show min (n + 1) k = k by omega]
      rw [← b01_c (LI_i hA hK hk)]
      by_cases c1 : 40 * ((T K (A - K) n (k + 1) : Nat) : Int) < ((bc A n : Nat) : Int)
      · rw [if_pos ((lt64_i (by omega) (by omega) (by omega) (by omega)).mpr c1), b01_f (fun z => by have := z.1; omega)]
      · rw [if_neg (fun z => c1 ((lt64_i (by omega) (by omega) (by omega) (by omega)).mp z))]
        by_cases c2 : 40 * (((T K (A - K) n (n + 1) : Nat) : Int) - ((T K (A - K) n k : Nat) : Int)) < ((bc A n : Nat) : Int)
        · rw [if_pos ((lt64_i (by omega) (by omega) (by omega) (by omega)).mpr c2), b01_f (fun z => by have := z.2; omega)]
        · rw [if_neg (fun z => c2 ((lt64_i (by omega) (by omega) (by omega) (by omega)).mp z)), b01_t ⟨by omega, by omega⟩]
    · right
      have es2 : (n : Int) - (j : Int) = ((n - j : Nat) : Int) := by omega
      have eT : T K (A - K) n (j + 1) = T K (A - K) n j + bc K j * bc (A - K) (n - j) := rfl
      refine ⟨((T K (A - K) n (min (j + 1) (k + 1)) : Nat) : Int), ((T K (A - K) n (j + 1) : Nat) : Int) - ((T K (A - K) n (min (j + 1) k) : Nat) : Int), (j : Int) + 1, s', ?_, ⟨rfl, j + 1, by omega, by omega, rfl, rfl⟩, by omega⟩
      rw [if_neg (fun z => by rw [lt32_i (by omega) (by omega) (by omega) (by omega)] at z; omega), gd_k (by omega), gd_k (by omega), es2, g28 j (by omega), g29 (n - j) (by omega), ← Int.natCast_mul]
      unfold m_isLikely_80 m_isLikely_97
      by_cases c1 : k < j
      · rw [if_pos ((lt32_i (by omega) (by omega) (by omega) (by omega)).mpr (by omega)), if_neg (fun z => by rw [lt32_i (by omega) (by omega) (by omega) (by omega)] at z; omega), show min (j + 1) (k + 1) = k + 1 by omega, show min j (k + 1) = k + 1 by omega, show min (j + 1) k = k by omega, show min j k = k by omega, eT, Int.natCast_add]
        congr 1 <;> omega
      · rw [if_neg (fun z => by rw [lt32_i (by omega) (by omega) (by omega) (by omega)] at z; omega), show min (j + 1) (k + 1) = j + 1 by omega, show min j (k + 1) = j by omega, show min j k = j by omega]
        by_cases c2 : j < k
        · rw [if_pos ((lt32_i (by omega) (by omega) (by omega) (by omega)).mpr (by omega)), show min (j + 1) k = j + 1 by omega, eT, Int.natCast_add]
          congr 1 <;> omega
        · rw [if_neg (fun z => by rw [lt32_i (by omega) (by omega) (by omega) (by omega)] at z; omega), show min (j + 1) k = j by omega, eT, Int.natCast_add]
          congr 1 <;> omega
  · rintro u v i s' ⟨-, j, rfl, hj, -⟩; omega
