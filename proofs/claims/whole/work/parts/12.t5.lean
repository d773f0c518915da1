/-! LAID: the class's way over sets, upward in rows -/
theorem xr_o {S j : Nat} (h : S.testBit j = true) : S ^^^ 2 ^ j ||| 2 ^ j = S := by
  apply Nat.eq_of_testBit_eq
  intro x
  rw [Nat.testBit_or, Nat.testBit_xor, Nat.testBit_two_pow]
  by_cases e : j = x
  · subst e; rw [h]; simp
  · simp [e]
theorem xr_b {S j : Nat} (h : S.testBit j = true) : (S ^^^ 2 ^ j).testBit j = false := by
  rw [Nat.testBit_xor, Nat.testBit_two_pow, h]; simp
theorem ox_x {S j : Nat} (h : S.testBit j = false) : (S ||| 2 ^ j) ^^^ 2 ^ j = S := by
  apply Nat.eq_of_testBit_eq
  intro x
  rw [Nat.testBit_xor, Nat.testBit_or, Nat.testBit_two_pow]
  by_cases e : j = x
  · subst e; rw [h]; simp
  · simp [e]
theorem or_sm {S j : Nat} (h : S.testBit j = true) : S ||| 2 ^ j = S := by
  apply Nat.eq_of_testBit_eq
  intro x
  rw [Nat.testBit_or, Nat.testBit_two_pow]
  by_cases e : j = x
  · subst e; rw [h]; simp
  · simp [e]
theorem xo_c {S j y : Nat} (h : j ≠ y) : S ^^^ 2 ^ j ||| 2 ^ y = (S ||| 2 ^ y) ^^^ 2 ^ j := by
  apply Nat.eq_of_testBit_eq
  intro x
  rw [Nat.testBit_or, Nat.testBit_xor, Nat.testBit_xor, Nat.testBit_or, Nat.testBit_two_pow, Nat.testBit_two_pow]
  by_cases e : j = x
  · subst e
    have : ¬ y = j := fun z => h z.symm
    simp [this]
  · simp [e]
theorem xr_lt {S j : Nat} (h : S.testBit j = true) : S ^^^ 2 ^ j < S := by
  have e : S &&& (S ^^^ 2 ^ j) = S ^^^ 2 ^ j := by
    apply Nat.eq_of_testBit_eq
    intro x
    rw [Nat.testBit_and, Nat.testBit_xor, Nat.testBit_two_pow]
    by_cases z : j = x
    · subst z; rw [h]; simp
    · simp [z]
  have l : S &&& (S ^^^ 2 ^ j) ≤ S := Nat.and_le_left
  rw [e] at l
  have ne : S ^^^ 2 ^ j ≠ S := fun z => by
    have b := xr_b h
    rw [z, h] at b
    exact Bool.noConfusion b
  omega
theorem or_lt {S j q : Nat} (h : S < 2 ^ q) (hj : j < q) : S ||| 2 ^ j < 2 ^ q := Nat.or_lt_two_pow h (Nat.pow_lt_pow_right (by omega) hj)
theorem mxv_f {f : Nat → Int} {c : Nat → Bool} {z : Int} : ∀ {n : Nat}, (∀ j, j < n → c j = false) → mxv f c z n = z := by
  intro n
  induction n with
  | zero => intro _; rfl
  | succ n ih =>
    intro h
    rw [mxv, h n (by omega), if_neg (by decide)]
    exact ih (fun j hj => h j (by omega))
/-- the best sums over sets, one row more -/
def nf (q : Nat) (w : Nat → Nat → Int) (i : Nat) (F : Int → Int) (S : Nat) : Int := mxv (fun j => F ((S ^^^ 2 ^ j : Nat) : Int) + tt q w i j) (fun j => S.testBit j && decide (0 < w i j)) (F (S : Int)) q
theorem tt_r {q : Nat} {w : Nat → Nat → Int} {i j : Nat} (hw : ∀ i j, 0 ≤ w i j ∧ w i j ≤ 801) (hi : i < 10) (hj : j < q) (hq : q ≤ 10) : 1 ≤ tt q w i j ∧ tt q w i j ≤ 30000000000000 := by
  have d := dig_r (q := q) hi hj hq
  have l := Lb_r (i := i) (by omega)
  have l1 := Lb_r (i := i + 1) (by omega)
  have := hw i j
  unfold tt
  omega
/-- what the class's table says after some rows, k being left -/
def IS (p q : Nat) (w : Nat → Nat → Int) (F : Int → Int) (k : Nat) : Prop :=
  (∀ S : Nat, S < 2 ^ q → 0 ≤ F S ∧ F S + EE p q w k S ≤ EE p q w p 0) ∧ (∃ S : Nat, S < 2 ^ q ∧ F S + EE p q w k S = EE p q w p 0) ∧ ∀ S : Nat, S < 2 ^ q → ∀ j, j < q → F S ≤ F ((S ||| 2 ^ j : Nat) : Int)
theorem IS_s {p q : Nat} {w : Nat → Nat → Int} {F F' : Int → Int} {k : Nat} (hw : ∀ i j, 0 ≤ w i j ∧ w i j ≤ 801) (hp : p ≤ 10) (hq : q ≤ 10) (hk : k < p) (h : IS p q w F (k + 1)) (hF : ∀ S : Nat, S < 2 ^ q → F' S = nf q w (p - (k + 1)) F S) : IS p q w F' k := by
  obtain ⟨h1, ⟨S0, s0, s1⟩, h3⟩ := h
  have one : ∀ S : Nat, S < 2 ^ q → 0 ≤ F' S ∧ F' S + EE p q w k S ≤ EE p q w p 0 := by
    intro S hS
    rw [hF S hS]
    unfold nf
    rcases mxv_e (fun j => F ((S ^^^ 2 ^ j : Nat) : Int) + tt q w (p - (k + 1)) j) (fun j => S.testBit j && decide (0 < w (p - (k + 1)) j)) (F (S : Int)) q with e | ⟨j, j1, j2, e⟩
    · rw [e]
      have a := h1 S hS
      have b := EE_z (p := p) (q := q) (w := w) k S
      omega
    · have j2 : (S.testBit j && decide (0 < w (p - (k + 1)) j)) = true := j2
      rw [Bool.and_eq_true] at j2
      have hw0 := of_decide_eq_true j2.2
      have hlt := xr_lt j2.1
      have a := h1 (S ^^^ 2 ^ j) (by omega)
      have g := EE_g (p := p) (w := w) (S := S ^^^ 2 ^ j) j1 (cc_i.mpr ⟨xr_b j2.1, hw0⟩)
      rw [xr_o j2.1] at g
      have t := tt_r (i := p - (k + 1)) hw (by omega) j1 hq
      rw [e]
      show 0 ≤ F ((S ^^^ 2 ^ j : Nat) : Int) + tt q w (p - (k + 1)) j ∧ F ((S ^^^ 2 ^ j : Nat) : Int) + tt q w (p - (k + 1)) j + EE p q w k S ≤ EE p q w p 0
      omega
  refine ⟨one, ?_, fun S hS y hy => ?_⟩
  · rcases EE_e (p := p) (q := q) (w := w) k S0 with e | ⟨j, j1, j2, e⟩
    · refine ⟨S0, s0, ?_⟩
      have a := one S0 s0
      have b : F S0 ≤ F' S0 := by rw [hF S0 s0]; exact mxv_z _ _ _ _
      omega
    · have hc := cc_i.mp j2
      have hlt := or_lt s0 j1
      refine ⟨S0 ||| 2 ^ j, hlt, ?_⟩
      have a := one _ hlt
      have b : F S0 + tt q w (p - (k + 1)) j ≤ F' ((S0 ||| 2 ^ j : Nat) : Int) := by
        rw [hF _ hlt]
        have g := mxv_g (f := fun x => F (((S0 ||| 2 ^ j) ^^^ 2 ^ x : Nat) : Int) + tt q w (p - (k + 1)) x) (c := fun x => (S0 ||| 2 ^ j).testBit x && decide (0 < w (p - (k + 1)) x)) (z := F ((S0 ||| 2 ^ j : Nat) : Int)) j1 (by
          show ((S0 ||| 2 ^ j).testBit j && decide (0 < w (p - (k + 1)) j)) = true
          rw [Bool.and_eq_true, tb_or]
          exact ⟨Or.inr rfl, decide_eq_true hc.2⟩)
        have g : F (((S0 ||| 2 ^ j) ^^^ 2 ^ j : Nat) : Int) + tt q w (p - (k + 1)) j ≤ nf q w (p - (k + 1)) F (S0 ||| 2 ^ j) := g
        rw [ox_x hc.1] at g
        exact g
      omega
  · by_cases hb : S.testBit y = true
    · rw [or_sm hb]; exact Int.le_refl _
    · have hlt := or_lt hS hy
      rw [hF S hS, hF _ hlt]
      unfold nf
      rcases mxv_e (fun j => F ((S ^^^ 2 ^ j : Nat) : Int) + tt q w (p - (k + 1)) j) (fun j => S.testBit j && decide (0 < w (p - (k + 1)) j)) (F (S : Int)) q with e | ⟨j, j1, j2, e⟩
      · rw [e]
        exact Int.le_trans (h3 S hS y hy) (mxv_z _ _ _ _)
      · have j2 : (S.testBit j && decide (0 < w (p - (k + 1)) j)) = true := j2
        rw [Bool.and_eq_true] at j2
        have hne : j ≠ y := fun z => hb (by rw [← z]; exact j2.1)
        have hx := xr_lt j2.1
        have a := h3 (S ^^^ 2 ^ j) (by omega) y hy
        rw [xo_c hne] at a
        rw [e]
        refine Int.le_trans ?_ (mxv_g (f := fun x => F (((S ||| 2 ^ y) ^^^ 2 ^ x : Nat) : Int) + tt q w (p - (k + 1)) x) (c := fun x => (S ||| 2 ^ y).testBit x && decide (0 < w (p - (k + 1)) x)) j1 ?_)
        · show F ((S ^^^ 2 ^ j : Nat) : Int) + tt q w (p - (k + 1)) j ≤ F (((S ||| 2 ^ y) ^^^ 2 ^ j : Nat) : Int) + tt q w (p - (k + 1)) j
          omega
        · show ((S ||| 2 ^ y).testBit j && decide (0 < w (p - (k + 1)) j)) = true
          rw [Bool.and_eq_true, tb_or]
          exact ⟨Or.inl j2.1, j2.2⟩
theorem IS_0 {p q : Nat} {w : Nat → Nat → Int} {F : Int → Int} (hF : ∀ S : Nat, S < 2 ^ q → F S = 0) : IS p q w F p := by
  have hp := Nat.two_pow_pos q
  have mo : ∀ S, EE p q w p S ≤ EE p q w p 0 := by
    intro S
    have key : ∀ n : Nat, EE p q w p (S % 2 ^ n) ≤ EE p q w p 0 := by
      intro n
      induction n with
      | zero => rw [Nat.pow_zero, Nat.mod_one]; exact Int.le_refl _
      | succ n ih =>
        by_cases hb : S.testBit n = true
        · have e : S % 2 ^ (n + 1) = S % 2 ^ n ||| 2 ^ n := by
            apply Nat.eq_of_testBit_eq
            intro x
            rw [Nat.testBit_or, Nat.testBit_mod_two_pow, Nat.testBit_mod_two_pow, Nat.testBit_two_pow]
            by_cases z : n = x
            · subst z; rw [hb]; simp
            · by_cases y : x < n
              · rw [decide_eq_true y, decide_eq_true (show x < n + 1 by omega), decide_eq_false z]; simp
              · rw [decide_eq_false y, decide_eq_false (show ¬ x < n + 1 by omega), decide_eq_false z]; simp
          rw [e]
          exact Int.le_trans (EE_mo p _ n) ih
        · have e : S % 2 ^ (n + 1) = S % 2 ^ n := by
            apply Nat.eq_of_testBit_eq
            intro x
            rw [Nat.testBit_mod_two_pow, Nat.testBit_mod_two_pow]
            by_cases z : x = n
            · rw [z, Bool.eq_false_iff.mpr hb]; simp
            · by_cases y : x < n
              · rw [decide_eq_true y, decide_eq_true (show x < n + 1 by omega)]
              · rw [decide_eq_false y, decide_eq_false (show ¬ x < n + 1 by omega)]
          rw [e]; exact ih
    have := key (S + 1)
    rw [Nat.mod_eq_of_lt (Nat.lt_of_lt_of_le (Nat.lt_two_pow_self) (Nat.pow_le_pow_right (by omega) (by omega)))] at this
    exact this
  refine ⟨fun S hS => ?_, ⟨0, hp, ?_⟩, fun S hS j hj => ?_⟩
  · have := mo S
    rw [hF S hS]; omega
  · rw [hF 0 hp]; omega
  · rw [hF S hS, hF _ (or_lt hS hj)]; exact Int.le_refl _
/-- when no row is left the full set holds the best -/
theorem IS_e {p q : Nat} {w : Nat → Nat → Int} {F : Int → Int} (h : IS p q w F 0) : F ((2 ^ q - 1 : Nat) : Int) = EE p q w p 0 := by
  obtain ⟨h1, ⟨S0, s0, s1⟩, h3⟩ := h
  have hp := Nat.two_pow_pos q
  have a := h1 (2 ^ q - 1) (by omega)
  have key : ∀ n : Nat, n ≤ q → F S0 ≤ F ((S0 ||| (2 ^ n - 1) : Nat) : Int) := by
    intro n
    induction n with
    | zero => intro _; rw [Nat.pow_zero, Nat.sub_self, Nat.or_zero]; exact Int.le_refl _
    | succ n ih =>
      intro hn
      have e : S0 ||| (2 ^ (n + 1) - 1) = (S0 ||| (2 ^ n - 1)) ||| 2 ^ n := by
        apply Nat.eq_of_testBit_eq
        intro x
        rw [Nat.testBit_or, Nat.testBit_or, Nat.testBit_or, Nat.testBit_two_pow_sub_one, Nat.testBit_two_pow_sub_one, Nat.testBit_two_pow]
        by_cases z : n = x
        · subst z; simp
        · by_cases y : x < n
          · rw [decide_eq_true y, decide_eq_true (show x < n + 1 by omega), decide_eq_false z]; simp
          · rw [decide_eq_false y, decide_eq_false (show ¬ x < n + 1 by omega), decide_eq_false z]; simp
      rw [e]
      have l : S0 ||| (2 ^ n - 1) < 2 ^ q := Nat.or_lt_two_pow s0 (Nat.lt_of_lt_of_le (Nat.sub_lt (Nat.two_pow_pos n) (by omega)) (Nat.pow_le_pow_right (by omega) (by omega)))
      exact Int.le_trans (ih (by omega)) (h3 _ l n (by omega))
  have k := key q (Nat.le_refl q)
  have e : S0 ||| (2 ^ q - 1) = 2 ^ q - 1 := by
    apply Nat.eq_of_testBit_eq
    intro x
    rw [Nat.testBit_or, Nat.testBit_two_pow_sub_one]
    by_cases y : x < q
    · rw [decide_eq_true y]; simp
    · rw [decide_eq_false y, Nat.testBit_lt_two_pow (Nat.lt_of_lt_of_le s0 (Nat.pow_le_pow_right (by omega) (by omega)))]; rfl
  rw [e] at k
  have z : EE p q w 0 (2 ^ q - 1) = 0 := rfl
  have z2 : EE p q w 0 S0 = 0 := rfl
  omega
