/-! the text of SOUNDS: what the reference reads -/
theorem du_stuck {t : Int → Int} {n : Nat} (h : du t n = -1) : du t (n + 1) = -1 := by rw [du, if_pos h]
theorem ff_after {t : Int → Int} {p : Nat} (h0 : du t p ≠ -1) (h1 : du t (p + 1) = -1) : ∀ n : Nat, du t (p + 1 + n) = -1 ∧ ff t (p + 1 + n) = p := by
  intro n
  induction n with
  | zero => exact ⟨h1, by show ff t (p + 1) = p; rw [ff, if_neg h0, if_pos h1]⟩
  | succ n ih => exact ⟨du_stuck ih.1, by show ff t (p + 1 + n + 1) = p; rw [ff, if_pos ih.1]; exact ih.2⟩
theorem ft_mid {d : St} {p : Nat} (hp : (p : Int) < d 0 12) (h0 : du (d 10) p ≠ -1) (h1 : du (d 10) (p + 1) = -1) : ft d = p := by
  obtain ⟨a, b⟩ := ff_after h0 h1 ((d 0 12).toNat - (p + 1))
  have e : p + 1 + ((d 0 12).toNat - (p + 1)) = (d 0 12).toNat := by omega
  rw [e] at a b
  unfold ft
  rw [if_pos a, b]
theorem ft_end {d : St} {p : Nat} (hp : (p : Int) = d 0 12) (h0 : du (d 10) p ≠ -1) (h3 : du (d 10) p ≠ 3) : ft d = p := by
  have e : (d 0 12).toNat = p := by omega
  unfold ft
  rw [e, if_neg h0, if_neg h3, hp]
theorem ft_ok {d : St} {p : Nat} (hp : (p : Int) = d 0 12) (h3 : du (d 10) p = 3) : ft d = -1 := by
  have e : (d 0 12).toNat = p := by omega
  unfold ft
  rw [e, if_neg (by omega), if_pos h3]
theorem sn_s (t : Int → Int) (c : Int) (n : Nat) : sn t c (n + 1) = (sn t c n || decide (t n = c)) := rfl
theorem sn_at {t : Int → Int} {c : Int} : ∀ {n : Nat}, sn t c n = true → ∃ k : Nat, k < n ∧ t k = c ∧ sn t c k = false := by
  intro n
  induction n with
  | zero => intro h; cases h
  | succ n ih =>
    intro h
    by_cases c1 : sn t c n = true
    · obtain ⟨k, a, b, e⟩ := ih c1
      exact ⟨k, by omega, b, e⟩
    · rw [sn_s] at h
      have c2 : sn t c n = false := by cases z : sn t c n with
        | true => exact absurd z c1
        | false => rfl
      rw [c2, Bool.false_or, decide_eq_true_eq] at h
      exact ⟨n, by omega, h, c2⟩
theorem sn_mono {t : Int → Int} {c : Int} {n k : Nat} (h : sn t c n = true) (hk : n ≤ k) : sn t c k = true := by
  induction k with
  | zero => rw [show n = 0 by omega] at h; exact h
  | succ k ih =>
    by_cases e : n ≤ k
    · rw [sn_s, ih e, Bool.true_or]
    · rw [show n = k + 1 by omega] at h; exact h
theorem sn_no {t : Int → Int} {c : Int} {n : Nat} (h : sn t c n = false) : ∀ k : Nat, k < n → t k ≠ c := by
  intro k hk e
  have : sn t c (k + 1) = true := by rw [sn_s, e, decide_eq_true rfl, Bool.or_true]
  rw [sn_mono this hk] at h
  cases h
theorem gF_at {t : Int → Int} {c : Int} : ∀ (j n m : Nat), (∀ k : Nat, n ≤ k → k < n + j → t k ≠ c + 97) → t ((n + j : Nat) : Int) = c + 97 → j < m → gF t c n m = fd t ((n + j + 1 : Nat) : Int) (m - j - 1) := by
  intro j
  induction j with
  | zero =>
    intro n m h1 h2 h3
    cases m with
    | zero => omega
    | succ m =>
      rw [Nat.add_zero] at h2
      rw [gF, if_pos h2]; rfl
  | succ j ih =>
    intro n m h1 h2 h3
    cases m with
    | zero => omega
    | succ m =>
      have e : (n : Int) + 1 = ((n + 1 : Nat) : Int) := by omega
      have e2 : n + 1 + j = n + (j + 1) := by omega
      rw [gF, if_neg (h1 n (by omega) (by omega)), e, ih (n + 1) m (fun k a b => h1 k (by omega) (by omega)) (by rw [e2]; exact h2) (by omega), e2, show m - j - 1 = m + 1 - (j + 1) - 1 by omega]
theorem gF_no {t : Int → Int} {c : Int} : ∀ (m n : Nat), (∀ k : Nat, n ≤ k → k < n + m → t k ≠ c + 97) → gF t c n m = -1 := by
  intro m
  induction m with
  | zero => intro n h; rfl
  | succ m ih =>
    intro n h
    have e : (n : Int) + 1 = ((n + 1 : Nat) : Int) := by omega
    rw [gF, if_neg (h n (by omega) (by omega)), e, ih (n + 1) (fun k a b => h k (by omega) (by omega))]
theorem fd_at {t : Int → Int} : ∀ (j n m : Nat), (∀ k : Nat, n ≤ k → k < n + j → ¬ (48 ≤ t k ∧ t k ≤ 57)) → (48 ≤ t ((n + j : Nat) : Int) ∧ t ((n + j : Nat) : Int) ≤ 57) → j < m → fd t n m = t ((n + j : Nat) : Int) := by
  intro j
  induction j with
  | zero =>
    intro n m h1 h2 h3
    cases m with
    | zero => omega
    | succ m =>
      rw [Nat.add_zero] at h2
      rw [fd, if_pos h2]; rfl
  | succ j ih =>
    intro n m h1 h2 h3
    cases m with
    | zero => omega
    | succ m =>
      have e : (n : Int) + 1 = ((n + 1 : Nat) : Int) := by omega
      have e2 : n + 1 + j = n + (j + 1) := by omega
      rw [fd, if_neg (h1 n (by omega) (by omega)), e, ih (n + 1) m (fun k a b => h1 k (by omega) (by omega)) (by rw [e2]; exact h2) (by omega), e2]
