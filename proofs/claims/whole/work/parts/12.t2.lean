theorem x_least_e (N : Nat) (hN : 100 < N) {A n k : Nat} (s : St) (hA : A ≤ 60) (hn : n ≤ 40) (hk : k ≤ n) : ∃ K : Nat, x_Checks_leastFalse N (A : Int) (n : Int) (k : Int) s = some ((K : Int), s) ∧ K ≤ A ∧ LI A n k K ∧ ∀ j, j < K → ¬ LI A n k j := by
  obtain ⟨K0, k1, k2⟩ := LI_ex (N := A) hk
  obtain ⟨K, l1, l2, l3⟩ := least_n (p := fun K => LI A n k K) K0 k2
  refine ⟨K, ?_, by omega, l2, l3⟩
  unfold x_Checks_leastFalse
  refine lq1 (Out := fun z => z = some ((K : Int), s)) (Inv := fun i s' => s' = s ∧ ∃ j : Nat, i = j ∧ j ≤ K) (fun i _ => K - i) ?_ ?_ N 0 s ⟨rfl, 0, rfl, by omega⟩ (by omega)
  · rintro k2 i s' ⟨rfl, j, rfl, hj⟩
    unfold x_Checks_leastFalse_2
    by_cases c : A ≤ j
    · left
      rw [if_pos ((le32_i (by omega) (by omega) (by omega) (by omega)).mpr (by omega)), show j = K by omega]
    · rw [if_neg (fun z => by rw [le32_i (by omega) (by omega) (by omega) (by omega)] at z; omega), x_isLikely_e N hN s' hA hn hk (by omega), bd_k]
      simp only [b01_0, itn]
      by_cases c2 : j = K
      · left; rw [if_pos (by rw [c2]; exact l2), c2]
      · right; rw [if_neg (l3 j (by omega))]; exact ⟨(j : Int) + 1, s', rfl, ⟨rfl, j + 1, by omega, by omega⟩, by omega⟩
  · rintro i s' ⟨-, j, rfl, hj⟩; omega
theorem x_most_e (N : Nat) (hN : 100 < N) {A n k : Nat} (s : St) (hA : A ≤ 60) (hn : n ≤ 40) (hk : k ≤ n) : ∃ K : Nat, x_Checks_mostFalse N (A : Int) (n : Int) (k : Int) s = some ((K : Int), s) ∧ K ≤ A ∧ LI A n k K ∧ ∀ j, j ≤ A → K < j → ¬ LI A n k j := by
  obtain ⟨K0, k1, k2⟩ := LI_ex (N := A) hk
  obtain ⟨m, l1, l2, l3⟩ := least_n (p := fun m => LI A n k (A - m)) (A - K0) (by show LI A n k (A - (A - K0)); rw [show A - (A - K0) = K0 by omega]; exact k2)
  refine ⟨A - m, ?_, by omega, l2, fun j hj hj2 => by have := l3 (A - j) (by omega); rw [show A - (A - j) = j by omega] at this; exact this⟩
  have l3 : ∀ j, j ≤ A → A - m < j → ¬ LI A n k j := fun j hj hj2 => by have := l3 (A - j) (by omega); rw [show A - (A - j) = j by omega] at this; exact this
  unfold x_Checks_mostFalse
  refine lq1 (Out := fun z => z = some (((A - m : Nat) : Int), s)) (Inv := fun i s' => s' = s ∧ ∃ j : Nat, i = j ∧ A - m ≤ j ∧ j ≤ A) (fun i _ => i) ?_ ?_ N (A : Int) s ⟨rfl, A, rfl, by omega, by omega⟩ (by omega)
  · rintro k2 i s' ⟨rfl, j, rfl, hj, hj2⟩
    unfold x_Checks_mostFalse_2
    by_cases c : j = 0
    · left
      rw [if_pos ((le32_i (by omega) (by omega) (by omega) (by omega)).mpr (by omega)), show A - m = j by omega]
    · rw [if_neg (fun z => by rw [le32_i (by omega) (by omega) (by omega) (by omega)] at z; omega), x_isLikely_e N hN s' hA hn hk (by omega), bd_k]
      simp only [b01_0, itn]
      by_cases c2 : j = A - m
      · left; rw [if_pos (by rw [c2]; exact l2), c2]
      · right; rw [if_neg (l3 j (by omega) (by omega))]; exact ⟨(j : Int) + (-1), s', rfl, ⟨rfl, j - 1, by omega, by omega, by omega⟩, by omega⟩
  · rintro i s' ⟨-, j, rfl, hj⟩; omega
theorem m_bound_in (N : Nat) (hN : 100 < N) {d σ : St} {A n k K : Nat} {e : Int} (hm : RM d σ) (h26 : σ 0 26 = A) (hA : A ≤ 60) (hn : n ≤ 40) (hk : k ≤ n) (he : e = 0 ∨ e = 1) (hK : K ≤ A) (hL : LI A n k K) (hl : e = 0 → ∀ j, j < K → ¬ LI A n k j) (hg : e = 1 → ∀ j, j ≤ A → K < j → ¬ LI A n k j) :
    ∃ σ', itr (m_bound_56 N e (n : Int) (k : Int)) (fun _ _ _ => none) N (-1) 0 σ = some ((K : Int), σ') ∧ RM d σ' := by
  refine lq2 (Out := fun z => ∃ σ', z = some ((K : Int), σ') ∧ RM d σ') (Inv := fun u i s => RM d s ∧ s 0 26 = A ∧ ∃ j : Nat, i = j ∧ j ≤ A + 1 ∧ -1 ≤ u ∧ u ≤ 60 ∧ (u ≠ -1 → ∃ x, x < j ∧ LI A n k x) ∧ (K < j → u = K)) (fun _ i _ => A + 1 - i) ?_ ?_ N (-1) 0 σ ⟨hm, h26, 0, rfl, by omega, by omega, by omega, fun z => absurd rfl z, fun z => by omega⟩ (by omega)
  · rintro k2 u i s ⟨hs, hs26, j, rfl, hj, u0, u1, hn1, h0⟩
    unfold m_bound_56 m_bound_87 m_bound_91
    rw [hs26]
    by_cases c : j = A + 1
    · left
      rw [if_pos ((lt32_i (by omega) (by omega) (by omega) (by omega)).mpr (by omega)), h0 (by omega)]
      exact ⟨s, rfl, hs⟩
    · right
      obtain ⟨s', q1, q2, q3⟩ := m_isLikely_e N hN hs hs26 hA hn hk (show j ≤ A by omega)
      rw [if_neg (fun z => by rw [lt32_i (by omega) (by omega) (by omega) (by omega)] at z; omega), q1, bd_k]
      simp only [b01_0, itn]
      by_cases c1 : LI A n k j
      · rw [if_pos c1]
        rcases he with z | z
        · have hjK : ¬ j < K := fun w2 => hl z j w2 c1
          rw [if_neg (show ¬ eq32 e 1 from fun w => by rw [eq32_i (by omega) (by omega) (by omega) (by omega)] at w; omega)]
          by_cases c2 : u = -1
          · rw [if_pos ((eq32_i (by omega) (by omega) (by omega) (by omega)).mpr c2)]
            refine ⟨(j : Int), (j : Int) + 1, s', rfl, ⟨q2, q3, j + 1, by omega, by omega, by omega, by omega, fun _ => ⟨j, by omega, c1⟩, fun w => ?_⟩, by omega⟩
            have hKj : ¬ K < j := fun w2 => by have := h0 w2; omega
            omega
          · rw [if_neg (fun w => c2 ((eq32_i (by omega) (by omega) (by omega) (by omega)).mp w))]
            refine ⟨u, (j : Int) + 1, s', rfl, ⟨q2, q3, j + 1, by omega, by omega, u0, u1, fun _ => ⟨j, by omega, c1⟩, fun w => ?_⟩, by omega⟩
            by_cases e1 : K = j
            · obtain ⟨x, x1, x2⟩ := hn1 c2
              exact absurd x2 (hl z x (by omega))
            · exact h0 (by omega)
        · rw [if_pos ((eq32_i (by omega) (by omega) (by omega) (by omega)).mpr z)]
          refine ⟨(j : Int), (j : Int) + 1, s', rfl, ⟨q2, q3, j + 1, by omega, by omega, by omega, by omega, fun _ => ⟨j, by omega, c1⟩, fun w => ?_⟩, by omega⟩
          have : ¬ K < j := fun w2 => hg z j (by omega) w2 c1
          omega
      · rw [if_neg c1]
        refine ⟨u, (j : Int) + 1, s', rfl, ⟨q2, q3, j + 1, by omega, by omega, u0, u1, fun w => ?_, fun w => h0 ?_⟩, by omega⟩
        · obtain ⟨x, x1, x2⟩ := hn1 w
          exact ⟨x, by omega, x2⟩
        · by_cases e1 : K = j
          · exact absurd (by rw [← e1]; exact hL) c1
          · omega
  · rintro u i s ⟨-, -, j, rfl, hj, -⟩; omega
theorem sim_bound {N : Nat} (hN : 100 < N) {σx σm : St} (h : RR σx σm) : ∀ a : Int, i32 a → OKp RR (x_bound N a σx) (m_bound N a σm) := by
  obtain ⟨d, hx, hm, hd⟩ := h
  intro a ha
  have hC := hd.chk
  have hN2 := nl2_r hd
  unfold x_bound m_bound
  rw [x_isBelow_e N σx ha.1 ha.2 (by omega) (by omega), m_in_e N σm ha.1 ha.2 (by omega) (by omega) (by omega) (by omega), bd_k, bd_k]
  simp only [b01_0, itn]
  by_cases c : 0 ≤ a ∧ a < 2
  · obtain ⟨s1, e1, e2⟩ := m_looks_e N hN hm hd
    rw [if_pos c, if_pos (show 0 ≤ a ∧ a ≤ 1 by omega), x_countLinks_e N hN hx hd, bd_k, e1, bd_k, e2.2.1]
    by_cases c1 : nl2 d = 0
    · rw [if_pos ((eq32_i (by omega) (by omega) (by omega) (by omega)).mpr c1), if_pos ((eq32_i (by omega) (by omega) (by omega) (by omega)).mpr c1)]
      exact ⟨_, _, _, rfl, rfl, d, hx, e2.1, hd⟩
    rw [if_neg (fun z => c1 ((eq32_i (by omega) (by omega) (by omega) (by omega)).mp z)), if_neg (fun z => c1 ((eq32_i (by omega) (by omega) (by omega) (by omega)).mp z))]
    by_cases c2 : nl2 d ≤ 60
    · rw [if_pos ((le32_i (by omega) (by omega) (by omega) (by omega)).mpr c2), if_pos ((le32_i (by omega) (by omega) (by omega) (by omega)).mpr c2)]
      obtain ⟨s2, f1, f2, f3⟩ := m_checkedOf_e N hN e2.1 hd (w := 2) (by omega)
      obtain ⟨s3, g1, g2, g3⟩ := m_checkedOf_e N hN f2 hd (w := 3) (by omega)
      have r2 := ck_r hd 2
      have r3 := ck_r hd 3
      have h32 : ck d 3 ≤ ck d 2 := S_mo (fun i i0 i1 => by
        have := lk_r d (d 25 i) (d 26 i)
        have e3 : ci d 3 i = if d 27 i = 0 then lk d (d 25 i) (d 26 i) else 0 := by unfold ci; rw [if_neg (show ¬ (3 : Int) = 0 by decide), if_neg (show ¬ (3 : Int) = 1 by decide), if_neg (show ¬ (3 : Int) = 2 by decide)]
        have e2 : ci d 2 i = lk d (d 25 i) (d 26 i) := by unfold ci; rw [if_neg (show ¬ (2 : Int) = 0 by decide), if_neg (show ¬ (2 : Int) = 1 by decide), if_pos rfl]
        rw [e3, e2]
        split <;> omega) hC.1
      obtain ⟨A, hA⟩ := Int.eq_ofNat_of_zero_le hN2.1
      obtain ⟨n, hn⟩ := Int.eq_ofNat_of_zero_le r2.1
      obtain ⟨k, hk⟩ := Int.eq_ofNat_of_zero_le r3.1
      have h26 : s3 0 26 = A := by rw [g3.2.1 26 (by decide) (by decide), f3.2.1 26 (by decide) (by decide), e2.2.1, hA]
      have ex0 : x_Checks_countLinks N 0 σx = some (ck d 2, σx) := x_chkLinks_e N hN hx hd (Or.inl rfl)
      have ex1 : x_Checks_countLinks N 1 σx = some (ck d 3, σx) := x_chkLinks_e N hN hx hd (Or.inr rfl)
      rw [f1, bd_k, g1, bd_k, ex0, bd_k, ex1, bd_k, hA, hn, hk]
      by_cases c3 : a = 0
      · obtain ⟨K, k1, k2, k3, k4⟩ := x_least_e N hN σx (A := A) (n := n) (k := k) (by omega) (by omega) (by omega)
        obtain ⟨s4, t1, t2⟩ := m_bound_in N hN (e := a) g2 h26 (by omega) (by omega) (by omega) (Or.inl c3) k2 k3 (fun _ => k4) (fun z => by omega)
        rw [if_pos ((eq32_i (by omega) (by omega) (by omega) (by omega)).mpr c3), k1, bd_k, t1]
        exact ⟨_, _, _, rfl, rfl, d, hx, t2, hd⟩
      · obtain ⟨K, k1, k2, k3, k4⟩ := x_most_e N hN σx (A := A) (n := n) (k := k) (by omega) (by omega) (by omega)
        obtain ⟨s4, t1, t2⟩ := m_bound_in N hN (e := a) g2 h26 (by omega) (by omega) (by omega) (Or.inr (by omega)) k2 k3 (fun z => by omega) (fun _ => k4)
        rw [if_neg (fun z => c3 ((eq32_i (by omega) (by omega) (by omega) (by omega)).mp z)), k1, bd_k, t1]
        exact ⟨_, _, _, rfl, rfl, d, hx, t2, hd⟩
    · rw [if_neg (fun z => c2 ((le32_i (by omega) (by omega) (by omega) (by omega)).mp z)), if_neg (fun z => c2 ((le32_i (by omega) (by omega) (by omega) (by omega)).mp z))]
      exact ⟨_, _, _, rfl, rfl, d, hx, e2.1, hd⟩
  · rw [if_neg c, if_neg (show ¬ (0 ≤ a ∧ a ≤ 1) by omega)]
    exact ⟨_, _, _, rfl, rfl, d, hx, hm, hd⟩
