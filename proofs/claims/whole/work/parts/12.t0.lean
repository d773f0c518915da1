/-! ways to choose -/
def bc : Nat → Nat → Nat
  | _, 0 => 1
  | 0, _ + 1 => 0
  | n + 1, k + 1 => bc n k + bc n (k + 1)
theorem bc_0 (n : Nat) : bc n 0 = 1 := by cases n <;> rfl
theorem bc_s (n k : Nat) : bc (n + 1) (k + 1) = bc n k + bc n (k + 1) := rfl
theorem bc_z : ∀ n k : Nat, n < k → bc n k = 0 := by
  intro n
  induction n with
  | zero => intro k h; cases k with
    | zero => omega
    | succ k => rfl
  | succ n ih =>
    intro k h
    cases k with
    | zero => omega
    | succ k => rw [bc_s, ih k (by omega), ih (k + 1) (by omega)]
theorem bc_n : ∀ n : Nat, bc n n = 1 := by
  intro n
  induction n with
  | zero => rfl
  | succ n ih => rw [bc_s, ih, bc_z n (n + 1) (by omega)]
theorem bc_ab : ∀ n k : Nat, bc (n + 1) (k + 1) * (k + 1) = bc n k * (n + 1) := by
  intro n
  induction n with
  | zero =>
    intro k
    cases k with
    | zero => rfl
    | succ k => rw [bc_z 1 (k + 1 + 1) (by omega), bc_z 0 (k + 1) (by omega), Nat.zero_mul, Nat.zero_mul]
  | succ n ih =>
    intro k
    rw [bc_s (n + 1) k, Nat.add_mul]
    cases k with
    | zero =>
      have := ih 0
      rw [bc_0] at this ⊢
      omega
    | succ k =>
      have h1 := ih k
      have h2 := ih (k + 1)
      have e := bc_s n k
      have e2 : bc (n + 1) (k + 1) * (k + 1 + 1) = bc (n + 1) (k + 1) * (k + 1) + bc (n + 1) (k + 1) := by rw [Nat.mul_add, Nat.mul_one]
      have e3 : bc (n + 1) (k + 1) * (n + 1 + 1) = bc (n + 1) (k + 1) * (n + 1) + bc (n + 1) (k + 1) := by rw [Nat.mul_add, Nat.mul_one]
      have e4 : bc (n + 1) (k + 1) * (n + 1) = bc n k * (n + 1) + bc n (k + 1) * (n + 1) := by rw [e, Nat.add_mul]
      omega
theorem bc_sym : ∀ n a b : Nat, a + b = n → bc n a = bc n b := by
  intro n
  induction n with
  | zero => intro a b h; rw [show a = 0 by omega, show b = 0 by omega]
  | succ n ih =>
    intro a b h
    cases a with
    | zero => rw [show b = n + 1 by omega, bc_0, bc_n]
    | succ a =>
      cases b with
      | zero => rw [show a + 1 = n + 1 by omega, bc_0, bc_n]
      | succ b =>
        have h1 := ih a (b + 1) (by omega)
        have h2 := ih (a + 1) b (by omega)
        rw [bc_s, bc_s]; omega
theorem bc_mo1 (n k : Nat) : bc n k ≤ bc (n + 1) k := by
  cases k with
  | zero => rw [bc_0, bc_0]; exact Nat.le_refl 1
  | succ k => rw [bc_s]; omega
theorem bc_mo {n m : Nat} (k : Nat) (h : n ≤ m) : bc n k ≤ bc m k := by
  obtain ⟨j, rfl⟩ : ∃ j, m = n + j := ⟨m - n, by omega⟩
  clear h
  induction j with
  | zero => exact Nat.le_refl _
  | succ j ih => exact Nat.le_trans ih (bc_mo1 (n + j) k)
theorem bc_r {n k : Nat} (h : k ≤ n) : bc n (k + 1) * (k + 1) = bc n k * (n - k) := by
  have a := bc_ab n k
  rw [bc_s, Nat.add_mul] at a
  have e : bc n k * (n + 1) = bc n k * (k + 1) + bc n k * (n - k) := by rw [← Nat.mul_add]; congr 1; omega
  omega
/-- of 60, one after the other -/
def b60 : Nat → Nat
  | 0 => 1
  | k + 1 => b60 k * (60 - k) / (k + 1)
theorem b60_e : ∀ k : Nat, k ≤ 60 → bc 60 k = b60 k := by
  intro k
  induction k with
  | zero => intro _; rw [bc_0]; rfl
  | succ k ih =>
    intro h
    have r := bc_r (n := 60) (k := k) (by omega)
    rw [b60, ← ih (by omega), ← r, Nat.mul_div_cancel _ (by omega)]
theorem b60_r : ∀ k : Fin 61, b60 k.val ≤ 144115188075855872 := by decide +kernel
theorem bc_le {n : Nat} (k : Nat) (h : n ≤ 60) : bc n k ≤ 144115188075855872 := by
  refine Nat.le_trans (bc_mo k h) ?_
  by_cases c : k ≤ 60
  · rw [b60_e k c]; exact b60_r ⟨k, by omega⟩
  · rw [bc_z 60 k (by omega)]; omega
/-- ways in which of n checked fewer than j are false ones, of c false and m true -/
def T (c m n : Nat) : Nat → Nat
  | 0 => 0
  | j + 1 => T c m n j + bc c j * bc m (n - j)
theorem T_p (c m n : Nat) : ∀ j : Nat, j ≤ n → T (c + 1) m n (j + 1) = T c (m + 1) n j + bc c j * bc m (n - j) := by
  intro j
  induction j with
  | zero =>
    intro _
    show 0 + bc (c + 1) 0 * bc m (n - 0) = 0 + bc c 0 * bc m (n - 0)
    rw [bc_0, bc_0]
  | succ j ih =>
    intro h
    have i := ih (by omega)
    have e : bc (m + 1) (n - j) = bc m (n - (j + 1)) + bc m (n - j) := by
      obtain ⟨q, hq⟩ : ∃ q, n - j = q + 1 := ⟨n - j - 1, by omega⟩
      rw [hq, show n - (j + 1) = q by omega, bc_s]
    show T (c + 1) m n (j + 1) + bc (c + 1) (j + 1) * bc m (n - (j + 1)) = T c (m + 1) n j + bc c j * bc (m + 1) (n - j) + bc c (j + 1) * bc m (n - (j + 1))
    rw [i, bc_s, e, Nat.add_mul, Nat.mul_add]; omega
theorem T_v1 (c m n : Nat) : T (c + 1) m n (n + 1) = T c (m + 1) n (n + 1) := by
  rw [T_p c m n n (Nat.le_refl n)]
  show _ = T c (m + 1) n n + bc c n * bc (m + 1) (n - n)
  rw [Nat.sub_self, bc_0, bc_0]
theorem T_00 (m n : Nat) : ∀ j : Nat, T 0 m n (j + 1) = bc m n := by
  intro j
  induction j with
  | zero => show 0 + bc 0 0 * bc m (n - 0) = bc m n; rw [bc_0, Nat.one_mul, Nat.zero_add, Nat.sub_zero]
  | succ j ih => show T 0 m n (j + 1) + bc 0 (j + 1) * bc m (n - (j + 1)) = bc m n; rw [ih, bc_z 0 (j + 1) (by omega), Nat.zero_mul, Nat.add_zero]
theorem T_v (n : Nat) : ∀ c m : Nat, T c m n (n + 1) = bc (c + m) n := by
  intro c
  induction c with
  | zero => intro m; rw [T_00, Nat.zero_add]
  | succ c ih => intro m; rw [T_v1, ih, show c + (m + 1) = c + 1 + m by omega]
theorem T_mo (c m n : Nat) {i j : Nat} (h : i ≤ j) : T c m n i ≤ T c m n j := by
  obtain ⟨q, rfl⟩ : ∃ q, j = i + q := ⟨j - i, by omega⟩
  clear h
  induction q with
  | zero => exact Nat.le_refl _
  | succ q ih => exact Nat.le_trans ih (Nat.le_add_right _ _)
/-- the fortieth -/
abbrev LI (N n k K : Nat) : Prop := bc N n ≤ 40 * T K (N - K) n (k + 1) ∧ bc N n ≤ 40 * (bc N n - T K (N - K) n k)
/-- the least that holds -/
theorem least_n {p : Nat → Prop} : ∀ n : Nat, p n → ∃ m, m ≤ n ∧ p m ∧ ∀ j, j < m → ¬ p j := by
  intro n
  induction n with
  | zero => intro h; exact ⟨0, Nat.le_refl 0, h, fun j hj => by omega⟩
  | succ n ih =>
    intro h
    by_cases c : ∃ m, m ≤ n ∧ p m
    · obtain ⟨m, m1, m2⟩ := c
      have : ∃ m', m' ≤ m ∧ p m' ∧ ∀ j, j < m' → ¬ p j := by
        clear ih h
        revert m2
        clear m1
        induction m using Nat.strongRecOn with
        | ind m ihm =>
          intro m2
          by_cases c2 : ∃ j, j < m ∧ p j
          · obtain ⟨j, j1, j2⟩ := c2
            obtain ⟨m', a, b, e⟩ := ihm j j1 j2
            exact ⟨m', by omega, b, e⟩
          · exact ⟨m, Nat.le_refl m, m2, fun j hj hp => c2 ⟨j, hj, hp⟩⟩
      obtain ⟨m', a, b, e⟩ := this
      exact ⟨m', by omega, b, e⟩
    · exact ⟨n + 1, Nat.le_refl _, h, fun j hj hp => c ⟨j, by omega, hp⟩⟩
theorem LI_ex {N n k : Nat} (hk : k ≤ n) : ∃ K, K ≤ N ∧ LI N n k K := by
  by_cases hn : N < n
  · refine ⟨0, by omega, ?_⟩
    unfold LI
    rw [bc_z N n hn]; exact ⟨by omega, by omega⟩
  · have hv : ∀ K, K ≤ N → T K (N - K) n (n + 1) = bc N n := fun K h => by rw [T_v, show K + (N - K) = N by omega]
    have hle : ∀ K, K ≤ N → ∀ j, j ≤ n + 1 → T K (N - K) n j ≤ bc N n := fun K h j hj => by rw [← hv K h]; exact T_mo _ _ _ hj
    have top : 2 * T N (N - N) n k ≤ bc N n := by
      have z : ∀ j, j ≤ n → T N (N - N) n j = 0 := by
        intro j
        induction j with
        | zero => intro _; rfl
        | succ j ih =>
          intro h
          show T N (N - N) n j + bc N j * bc (N - N) (n - j) = 0
          rw [ih (by omega), bc_z (N - N) (n - j) (by omega), Nat.mul_zero]
      rw [z k hk]; omega
    obtain ⟨K, K1, K2, K3⟩ := least_n (p := fun K => 2 * T K (N - K) n k ≤ bc N n) N top
    have K2 : 2 * T K (N - K) n k ≤ bc N n := K2
    refine ⟨K, K1, ?_, by omega⟩
    cases K with
    | zero => rw [T_00, Nat.sub_zero]; omega
    | succ c =>
      have h3 : ¬ 2 * T c (N - c) n k ≤ bc N n := K3 c (by omega)
      have e := T_p c (N - (c + 1)) n k hk
      rw [show N - (c + 1) + 1 = N - c by omega] at e
      omega
