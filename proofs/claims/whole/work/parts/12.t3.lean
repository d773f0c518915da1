/-! LAID, in numbers alone: p ROWS to be laid to q, gains w -/
def mxv (f : Nat → Int) (c : Nat → Bool) (z : Int) : Nat → Int
  | 0 => z
  | j + 1 => if c j = true then max (mxv f c z j) (f j) else mxv f c z j
theorem mxv_z (f : Nat → Int) (c : Nat → Bool) (z : Int) : ∀ n, z ≤ mxv f c z n := by
  intro n
  induction n with
  | zero => exact Int.le_refl z
  | succ n ih => rw [mxv]; split <;> omega
theorem mxv_g {f : Nat → Int} {c : Nat → Bool} {z : Int} : ∀ {n j : Nat}, j < n → c j = true → f j ≤ mxv f c z n := by
  intro n
  induction n with
  | zero => intro j h; omega
  | succ n ih =>
    intro j h hc
    rw [mxv]
    by_cases e : j = n
    · subst e; rw [if_pos hc]; omega
    · have := ih (j := j) (by omega) hc
      split <;> omega
theorem mxv_e (f : Nat → Int) (c : Nat → Bool) (z : Int) : ∀ n, mxv f c z n = z ∨ ∃ j, j < n ∧ c j = true ∧ mxv f c z n = f j := by
  intro n
  induction n with
  | zero => exact Or.inl rfl
  | succ n ih =>
    rw [mxv]
    by_cases hc : c n = true
    · rw [if_pos hc]
      rcases (show max (mxv f c z n) (f n) = mxv f c z n ∨ max (mxv f c z n) (f n) = f n by omega) with e | e
      · rw [e]
        rcases ih with h | ⟨j, h1, h2, h3⟩
        · exact Or.inl h
        · exact Or.inr ⟨j, by omega, h2, h3⟩
      · exact Or.inr ⟨n, by omega, hc, e⟩
    · rw [if_neg hc]
      rcases ih with h | ⟨j, h1, h2, h3⟩
      · exact Or.inl h
      · exact Or.inr ⟨j, by omega, h2, h3⟩
def Lb (i : Nat) : Int := 11 ^ (10 - i)
theorem Lb_s {i : Nat} (h : i < 10) : Lb i = 11 * Lb (i + 1) := by
  unfold Lb
  rw [show 10 - i = (10 - (i + 1)) + 1 by omega, Int.pow_succ, Int.mul_comm]
theorem Lb_f : ∀ i : Fin 12, 1 ≤ Lb i.val ∧ Lb i.val ≤ 25937424601 := by decide +kernel
theorem Lb_r {i : Nat} (h : i < 12) : 1 ≤ Lb i ∧ Lb i ≤ 25937424601 := Lb_f ⟨i, h⟩
/-- what laying row i to j adds -/
def tt (q : Nat) (w : Nat → Nat → Int) (i j : Nat) : Int := w i j * 25937424601 + ((q : Int) - j) * Lb (i + 1)
def cc (w : Nat → Nat → Int) (S i j : Nat) : Bool := !S.testBit j && decide (0 < w i j)
theorem cc_i {w : Nat → Nat → Int} {S i j : Nat} : cc w S i j = true ↔ S.testBit j = false ∧ 0 < w i j := by
  unfold cc
  cases S.testBit j <;> simp
/-- the best of the last k rows, sums alone; with the figures -/
def BB (p q : Nat) (w : Nat → Nat → Int) : Nat → Nat → Int
  | 0, _ => 0
  | k + 1, S => mxv (fun j => w (p - (k + 1)) j + BB p q w k (S ||| 2 ^ j)) (cc w S (p - (k + 1))) (BB p q w k S) q
def EE (p q : Nat) (w : Nat → Nat → Int) : Nat → Nat → Int
  | 0, _ => 0
  | k + 1, S => mxv (fun j => tt q w (p - (k + 1)) j + EE p q w k (S ||| 2 ^ j)) (cc w S (p - (k + 1))) (EE p q w k S) q
section LY
variable {p q : Nat} {w : Nat → Nat → Int}
theorem EE_z (k S : Nat) : EE p q w k S ≤ EE p q w (k + 1) S := mxv_z _ _ _ _
theorem EE_g {k S j : Nat} (hj : j < q) (h : cc w S (p - (k + 1)) j = true) : tt q w (p - (k + 1)) j + EE p q w k (S ||| 2 ^ j) ≤ EE p q w (k + 1) S := mxv_g (f := fun j => tt q w (p - (k + 1)) j + EE p q w k (S ||| 2 ^ j)) hj h
theorem EE_e (k S : Nat) : EE p q w (k + 1) S = EE p q w k S ∨ ∃ j, j < q ∧ cc w S (p - (k + 1)) j = true ∧ EE p q w (k + 1) S = tt q w (p - (k + 1)) j + EE p q w k (S ||| 2 ^ j) := mxv_e _ _ _ _
theorem BB_z (k S : Nat) : BB p q w k S ≤ BB p q w (k + 1) S := mxv_z _ _ _ _
theorem BB_g {k S j : Nat} (hj : j < q) (h : cc w S (p - (k + 1)) j = true) : w (p - (k + 1)) j + BB p q w k (S ||| 2 ^ j) ≤ BB p q w (k + 1) S := mxv_g (f := fun j => w (p - (k + 1)) j + BB p q w k (S ||| 2 ^ j)) hj h
theorem BB_e (k S : Nat) : BB p q w (k + 1) S = BB p q w k S ∨ ∃ j, j < q ∧ cc w S (p - (k + 1)) j = true ∧ BB p q w (k + 1) S = w (p - (k + 1)) j + BB p q w k (S ||| 2 ^ j) := mxv_e _ _ _ _
theorem BB_r (hw : ∀ i j, 0 ≤ w i j ∧ w i j ≤ 801) : ∀ k S, 0 ≤ BB p q w k S ∧ BB p q w k S ≤ 801 * k := by
  intro k
  induction k with
  | zero => intro S; show 0 ≤ (0 : Int) ∧ (0 : Int) ≤ 801 * ((0 : Nat) : Int); omega
  | succ k ih =>
    intro S
    have h0 := ih S
    have hz := BB_z (p := p) (q := q) (w := w) k S
    rcases BB_e (p := p) (q := q) (w := w) k S with e | ⟨j, j1, j2, e⟩
    · omega
    · have := hw (p - (k + 1)) j
      have := ih (S ||| 2 ^ j)
      omega
/-- the digit part of one choice -/
theorem dig_r {i j : Nat} (hi : i < 10) (hj : j < q) (hq : q ≤ 10) : Lb (i + 1) ≤ ((q : Int) - j) * Lb (i + 1) ∧ ((q : Int) - j) * Lb (i + 1) + Lb (i + 1) ≤ Lb i := by
  have h1 := Lb_r (i := i + 1) (by omega)
  have e := Lb_s hi
  have a := mul_r (a := (q : Int) - j) (b := Lb (i + 1)) (la := 1) (ha := 10) (lb := Lb (i + 1)) (hb := Lb (i + 1)) (by omega) (by omega) (Int.le_refl _) (Int.le_refl _) (by omega) (by omega)
  omega
/-- sums ahead, figures behind -/
theorem EB (hp : p ≤ 10) (hq : q ≤ 10) : ∀ k S, k ≤ p → BB p q w k S * 25937424601 ≤ EE p q w k S ∧ EE p q w k S < BB p q w k S * 25937424601 + Lb (p - k) := by
  intro k
  induction k with
  | zero =>
    intro S _
    have := Lb_r (i := p - 0) (by omega)
    show (0 : Int) * 25937424601 ≤ 0 ∧ (0 : Int) < 0 * 25937424601 + Lb (p - 0)
    omega
  | succ k ih =>
    intro S hk
    have ei : p - (k + 1) + 1 = p - k := by omega
    have eL := Lb_s (i := p - (k + 1)) (by omega)
    rw [ei] at eL
    have hL := Lb_r (i := p - k) (by omega)
    have i0 := ih S (by omega)
    have z1 := EE_z (p := p) (q := q) (w := w) k S
    have z2 := BB_z (p := p) (q := q) (w := w) k S
    constructor
    · rcases BB_e (p := p) (q := q) (w := w) k S with e | ⟨j, j1, j2, e⟩
      · rw [e]; omega
      · have g := EE_g (p := p) j1 j2
        have i1 := ih (S ||| 2 ^ j) (by omega)
        have dg := dig_r (i := p - (k + 1)) (by omega) j1 hq
        rw [ei] at dg
        unfold tt at g
        rw [ei] at g
        rw [e, Int.add_mul]; omega
    · rcases EE_e (p := p) (q := q) (w := w) k S with e | ⟨j, j1, j2, e⟩
      · rw [e]; omega
      · have g := BB_g (p := p) j1 j2
        have i1 := ih (S ||| 2 ^ j) (by omega)
        have dg := dig_r (i := p - (k + 1)) (by omega) j1 hq
        rw [ei] at dg
        have gm : (w (p - (k + 1)) j + BB p q w k (S ||| 2 ^ j)) * 25937424601 ≤ BB p q w (k + 1) S * 25937424601 := by omega
        rw [Int.add_mul] at gm
        rw [e]
        unfold tt
        rw [ei]; omega
/-- is j a mate by which the sum stays the best -/
def op (p q : Nat) (w : Nat → Nat → Int) (k S j : Nat) : Prop := cc w S (p - (k + 1)) j = true ∧ w (p - (k + 1)) j + BB p q w k (S ||| 2 ^ j) = BB p q w (k + 1) S
/-- the first such mate is the one by which sum and figures are the best -/
theorem op_l (hp : p ≤ 10) (hq : q ≤ 10) {k S m : Nat} (hk : k < p) (hm : m < q) (ho : op p q w k S m) (hl : ∀ j, j < m → ¬ op p q w k S j) : EE p q w (k + 1) S = tt q w (p - (k + 1)) m + EE p q w k (S ||| 2 ^ m) := by
  have ei : p - (k + 1) + 1 = p - k := by omega
  have hL := Lb_r (i := p - k) (by omega)
  have dm := dig_r (i := p - (k + 1)) (by omega) hm hq
  rw [ei] at dm
  have cm := EE_g (p := p) hm ho.1
  have bm := EB (w := w) hp hq k (S ||| 2 ^ m) (by omega)
  have es := EB (w := w) hp hq (k + 1) S (by omega)
  have om := ho.2
  rcases EE_e (p := p) (q := q) (w := w) k S with e | ⟨j, j1, j2, e⟩
  · exfalso
    have b0 := EB (w := w) hp hq k S (by omega)
    have z := BB_z (p := p) (q := q) (w := w) k S
    unfold tt at cm
    rw [ei] at cm
    have : BB p q w (k + 1) S * 25937424601 = w (p - (k + 1)) m * 25937424601 + BB p q w k (S ||| 2 ^ m) * 25937424601 := by rw [← om, Int.add_mul]
    omega
  · by_cases hjm : j = m
    · rw [e, hjm]
    · exfalso
      have bj := EB (w := w) hp hq k (S ||| 2 ^ j) (by omega)
      have dj := dig_r (i := p - (k + 1)) (by omega) j1 hq
      rw [ei] at dj
      have eL := Lb_s (i := p - (k + 1)) (by omega)
      rw [ei] at eL
      have hU := Lb_r (i := p - (k + 1)) (by omega)
      have gj := BB_g (p := p) j1 j2
      unfold tt at e cm
      rw [ei] at e cm
      have hop : op p q w k S j := by
        refine ⟨j2, ?_⟩
        have : (w (p - (k + 1)) j + BB p q w k (S ||| 2 ^ j)) * 25937424601 = w (p - (k + 1)) j * 25937424601 + BB p q w k (S ||| 2 ^ j) * 25937424601 := Int.add_mul _ _ _
        omega
      have hlt : m < j := by
        by_cases c : j < m
        · exact absurd hop (hl j c)
        · omega
      have h1 : w (p - (k + 1)) m * 25937424601 + BB p q w k (S ||| 2 ^ m) * 25937424601 = w (p - (k + 1)) j * 25937424601 + BB p q w k (S ||| 2 ^ j) * 25937424601 := by
        have a := hop.2
        rw [← Int.add_mul, ← Int.add_mul, om, a]
      have h2 : ((q : Int) - m) * Lb (p - k) = ((q : Int) - j) * Lb (p - k) + ((j : Int) - m) * Lb (p - k) := by rw [← Int.add_mul]; congr 1; omega
      have h3 := mul_r (a := (j : Int) - m) (b := Lb (p - k)) (la := 1) (ha := 10) (lb := Lb (p - k)) (hb := Lb (p - k)) (by omega) (by omega) (Int.le_refl _) (Int.le_refl _) (by omega) (by omega)
      omega
theorem op_n (hp : p ≤ 10) (hq : q ≤ 10) {k S : Nat} (hk : k < p) (hl : ∀ j, j < q → ¬ op p q w k S j) : EE p q w (k + 1) S = EE p q w k S ∧ BB p q w (k + 1) S = BB p q w k S := by
  have ei : p - (k + 1) + 1 = p - k := by omega
  have eB : BB p q w (k + 1) S = BB p q w k S := by
    rcases BB_e (p := p) (q := q) (w := w) k S with e | ⟨j, j1, j2, e⟩
    · exact e
    · exact absurd ⟨j2, e.symm⟩ (hl j j1)
  refine ⟨?_, eB⟩
  rcases EE_e (p := p) (q := q) (w := w) k S with e | ⟨j, j1, j2, e⟩
  · exact e
  · exfalso
    have es := EB (w := w) hp hq (k + 1) S (by omega)
    have bj := EB (w := w) hp hq k (S ||| 2 ^ j) (by omega)
    have dj := dig_r (i := p - (k + 1)) (by omega) j1 hq
    have hU := Lb_r (i := p - (k + 1)) (by omega)
    have gj := BB_g (p := p) j1 j2
    rw [ei] at dj
    unfold tt at e
    rw [ei] at e
    refine hl j j1 ⟨j2, ?_⟩
    have : (w (p - (k + 1)) j + BB p q w k (S ||| 2 ^ j)) * 25937424601 = w (p - (k + 1)) j * 25937424601 + BB p q w k (S ||| 2 ^ j) * 25937424601 := Int.add_mul _ _ _
    omega
/-- fewer may be laid to where more are taken -/
theorem EE_mo : ∀ k S j, EE p q w k (S ||| 2 ^ j) ≤ EE p q w k S := by
  intro k
  induction k with
  | zero => intro S j; exact Int.le_refl 0
  | succ k ih =>
    intro S j
    rcases EE_e (p := p) (q := q) (w := w) k (S ||| 2 ^ j) with e | ⟨x, x1, x2, e⟩
    · rw [e]; exact Int.le_trans (ih S j) (EE_z k S)
    · have hc := cc_i.mp x2
      have h0 : S.testBit x = false := by
        have := hc.1
        rw [Nat.testBit_or] at this
        cases h : S.testBit x
        · rfl
        · rw [h] at this; simp at this
      have g := EE_g (p := p) (k := k) x1 (cc_i.mpr ⟨h0, hc.2⟩)
      have i := ih (S ||| 2 ^ x) j
      rw [e]
      have ec : S ||| 2 ^ j ||| 2 ^ x = S ||| 2 ^ x ||| 2 ^ j := by rw [Nat.or_assoc, Nat.or_comm (2 ^ j), ← Nat.or_assoc]
      rw [ec]; omega
end LY
