/-! LAID: the reference's mates, the figures -/
/-- the figures of the best; the i-th of them -/
def lx (p q : Nat) (w : Nat → Nat → Int) : Int := EE p q w p 0 - BB p q w p 0 * 25937424601
def dg (p q : Nat) (w : Nat → Nat → Int) (i : Nat) : Int := lx p q w / Lb (i + 1) % 11
def DP (q : Nat) (g m : Int) : Prop := (m = -1 ∧ g = 0) ∨ ∃ n : Nat, m = n ∧ n < q ∧ g = (q : Int) - n
/-- rows before i are done, S is taken: what the figures are so far -/
def PA (p q : Nat) (w : Nat → Nat → Int) (i S : Nat) : Prop := S < 2 ^ q ∧ ∃ A : Int, lx p q w = A * Lb i + (EE p q w (p - i) S - BB p q w (p - i) S * 25937424601)
theorem dq_e {X C L r : Int} (hL : 0 < L) (h : X = C * L + r) (h0 : 0 ≤ r) (h1 : r < L) : X / L = C := by
  rw [h, Int.add_comm, Int.add_mul_ediv_right _ _ (by omega), Int.ediv_eq_zero_of_lt h0 h1, Int.zero_add]
theorem PA_0 (p q : Nat) (w : Nat → Nat → Int) : PA p q w 0 0 := by
  refine ⟨Nat.two_pow_pos q, 0, ?_⟩
  unfold lx
  rw [Nat.sub_zero, Int.zero_mul, Int.zero_add]
theorem PA_s {p q : Nat} {w : Nat → Nat → Int} (hp : p ≤ 10) (hq : q ≤ 10) {i S m : Nat} (hi : i < p) (h : PA p q w i S) (hm : m < q) (ho : op p q w (p - (i + 1)) S m) (hl : ∀ j, j < m → ¬ op p q w (p - (i + 1)) S j) : PA p q w (i + 1) (S ||| 2 ^ m) ∧ dg p q w i = (q : Int) - m := by
  obtain ⟨hS, A, hA⟩ := h
  have ek : p - i = p - (i + 1) + 1 := by omega
  have ei : p - (p - (i + 1) + 1) = i := by omega
  have e1 := op_l hp hq (show p - (i + 1) < p by omega) hm ho hl
  have e2 := ho.2
  rw [ei] at e1 e2
  have eb := EB (w := w) hp hq (p - (i + 1)) (S ||| 2 ^ m) (by omega)
  rw [show p - (p - (i + 1)) = i + 1 by omega] at eb
  have l1 := Lb_r (i := i + 1) (by omega)
  have ls := Lb_s (i := i) (by omega)
  rw [ek, e1, ← e2, ls] at hA
  have eX : lx p q w = (11 * A + ((q : Int) - m)) * Lb (i + 1) + (EE p q w (p - (i + 1)) (S ||| 2 ^ m) - BB p q w (p - (i + 1)) (S ||| 2 ^ m) * 25937424601) := by
    rw [hA]
    unfold tt
    have a1 : A * (11 * Lb (i + 1)) = 11 * A * Lb (i + 1) := by rw [Int.mul_left_comm, Int.mul_assoc]
    rw [a1, Int.add_mul (11 * A), Int.add_mul (w i m)]; omega
  refine ⟨⟨or_lt hS hm, _, eX⟩, ?_⟩
  unfold dg
  rw [dq_e (by omega) eX (by omega) (by omega)]; omega
theorem PA_n {p q : Nat} {w : Nat → Nat → Int} (hp : p ≤ 10) (hq : q ≤ 10) {i S : Nat} (hi : i < p) (h : PA p q w i S) (hl : ∀ j, j < q → ¬ op p q w (p - (i + 1)) S j) : PA p q w (i + 1) S ∧ dg p q w i = 0 := by
  obtain ⟨hS, A, hA⟩ := h
  have ek : p - i = p - (i + 1) + 1 := by omega
  obtain ⟨e1, e2⟩ := op_n hp hq (show p - (i + 1) < p by omega) hl
  have eb := EB (w := w) hp hq (p - (i + 1)) S (by omega)
  rw [show p - (p - (i + 1)) = i + 1 by omega] at eb
  have l1 := Lb_r (i := i + 1) (by omega)
  have ls := Lb_s (i := i) (by omega)
  rw [ek, e1, e2, ls] at hA
  have eX : lx p q w = 11 * A * Lb (i + 1) + (EE p q w (p - (i + 1)) S - BB p q w (p - (i + 1)) S * 25937424601) := by
    rw [hA]
    have a1 : A * (11 * Lb (i + 1)) = 11 * A * Lb (i + 1) := by rw [Int.mul_left_comm, Int.mul_assoc]
    rw [a1]
  refine ⟨⟨hS, _, eX⟩, ?_⟩
  unfold dg
  rw [dq_e (by omega) eX (by omega) (by omega)]; omega
theorem LW_34 {d : St} {a b : Int} {σ0 σ : St} {v : Int} (h : LW d a b σ0 σ) : LW d a b σ0 (su σ 0 34 v) :=
  ⟨⟨LO_j (by decide) (by decide) (by decide) (by decide) h.1.1, by rw [su_n _ _ _ _ _ (by decide)]; exact h.1.2.1, by rw [su_n _ _ _ _ _ (by decide)]; exact h.1.2.2.1, by rw [su_k _ _ _ (by decide)]; exact h.1.2.2.2.1, by rw [su_k _ _ _ (by decide)]; exact h.1.2.2.2.2⟩, fun x y hx hy => by rw [su_k _ _ _ (by decide), su_k _ _ _ (by decide), su_k _ _ _ (by decide)]; exact h.2 x y hx hy⟩
/-- how many are laid, by the figures -/
def dn (p q : Nat) (w : Nat → Nat → Int) (n : Int) : Int := S (fun x => if dg p q w x.toNat = 0 then 0 else 1) n
theorem m_follows_e (N : Nat) (hN : 100 < N) {d σ0 σ : St} {a b : Int} (hd : DI d) (hp : sz (kr d) a (d 0 1) ≤ 10) (hq : sz (kr d) b (d 0 1) ≤ 10) (hL : LW d a b σ0 σ) (hT : ∀ x S : Nat, x ≤ na d a → S < 2 ^ na d b → σ 21 (1024 * (x : Int) + (S : Int)) = BB (na d a) (na d b) (wm d σ) (na d a - x) S) :
    ∃ s, m_follows N σ = some (0, s) ∧ LW d a b σ0 s ∧ s 18 = σ 18 ∧ s 19 = σ 19 ∧ s 21 = σ 21 ∧ (∀ i : Nat, i < na d a → DP (na d b) (dg (na d a) (na d b) (wm d σ) i) (s 22 i)) ∧ s 0 34 = dn (na d a) (na d b) (wm d σ) (na d a) := by
  have hR := hd.rows
  have hza := sz_r (kr d) a hR.1
  have hzb := sz_r (kr d) b hR.1
  have hna : ((na d a : Nat) : Int) = sz (kr d) a (d 0 1) := Int.toNat_of_nonneg hza.1
  have hnb : ((na d b : Nat) : Int) = sz (kr d) b (d 0 1) := Int.toNat_of_nonneg hzb.1
  have hwr : ∀ (i j : Nat), 0 ≤ wm d σ i j ∧ wm d σ i j ≤ 801 := fun i j => gn_r d _ _
  have rB := BB_r (p := na d a) (q := na d b) hwr
  have hpq : 2 ^ na d b ≤ 1024 := Nat.le_trans (Nat.pow_le_pow_right (by omega) (show na d b ≤ 10 by omega)) (by decide)
  unfold m_follows
  refine lq2 (Out := fun z => ∃ s, z = some (0, s) ∧ LW d a b σ0 s ∧ s 18 = σ 18 ∧ s 19 = σ 19 ∧ s 21 = σ 21 ∧ (∀ i : Nat, i < na d a → DP (na d b) (dg (na d a) (na d b) (wm d σ) i) (s 22 i)) ∧ s 0 34 = dn (na d a) (na d b) (wm d σ) (na d a)) (Inv := fun u v s => LW d a b σ0 s ∧ s 18 = σ 18 ∧ s 19 = σ 19 ∧ s 21 = σ 21 ∧ ∃ i S : Nat, v = i ∧ u = S ∧ i ≤ na d a ∧ PA (na d a) (na d b) (wm d σ) i S ∧ (∀ x : Nat, x < i → DP (na d b) (dg (na d a) (na d b) (wm d σ) x) (s 22 x)) ∧ s 0 34 = dn (na d a) (na d b) (wm d σ) i) (fun _ v _ => na d a - v) ?_ ?_ N 0 0 _ ⟨LW_34 hL, su_k _ _ _ (by decide), su_k _ _ _ (by decide), su_k _ _ _ (by decide), 0, 0, rfl, rfl, by omega, PA_0 _ _ _, fun x hx => by omega, by rw [su_e]; rfl⟩ (by omega)
  · rintro k u v s ⟨h1, h18, h19, h21, i, V, rfl, rfl, hi, hPA, hD, h34⟩
    unfold m_follows_9
    rw [h1.1.2.1]
    by_cases c : i = na d a
    · left
      rw [if_pos ((le32_i (by omega) (by omega) (by omega) (by omega)).mpr (by omega))]
      exact ⟨s, rfl, h1, h18, h19, h21, fun x hx => hD x (by omega), by rw [h34, c]⟩
    · right
      have hV := hPA.1
      have ek : na d a - i = na d a - (i + 1) + 1 := by omega
      have ei : na d a - (na d a - (i + 1) + 1) = i := by omega
      have gi : inb (i : Int) 10 := by omega
      rw [if_neg (fun z => by rw [le32_i (by omega) (by omega) (by omega) (by omega)] at z; omega), gd_k gi, su_k _ _ _ (show 0 ≠ 22 by decide), h1.1.2.2.1]
      have key : ∃ m S' s', itr (m_follows_31 N k (V : Int) (i : Int)) (fun _ _ => none) N (sz (kr d) b (d 0 1) - 1) (su s 22 i (-1)) = k ((S' : Nat) : Int) ((i : Int) + 1) s' ∧ LW d a b σ0 s' ∧ s' 18 = σ 18 ∧ s' 19 = σ 19 ∧ s' 21 = σ 21 ∧ (∀ x : Nat, x < i → s' 22 x = s 22 x) ∧ s' 22 i = m ∧ s' 0 34 = s 0 34 + (if m = -1 then 0 else 1) ∧ ((m = -1 ∧ S' = V ∧ ∀ j, j < na d b → ¬ op (na d a) (na d b) (wm d σ) (na d a - (i + 1)) V j) ∨ ∃ n : Nat, m = n ∧ n < na d b ∧ S' = V ||| 2 ^ n ∧ op (na d a) (na d b) (wm d σ) (na d a - (i + 1)) V n ∧ ∀ j, j < n → ¬ op (na d a) (na d b) (wm d σ) (na d a - (i + 1)) V j) := by
        refine lq1 (Out := fun z => ∃ m S' s', z = k ((S' : Nat) : Int) ((i : Int) + 1) s' ∧ LW d a b σ0 s' ∧ s' 18 = σ 18 ∧ s' 19 = σ 19 ∧ s' 21 = σ 21 ∧ (∀ x : Nat, x < i → s' 22 x = s 22 x) ∧ s' 22 i = m ∧ s' 0 34 = s 0 34 + (if m = -1 then 0 else 1) ∧ ((m = -1 ∧ S' = V ∧ ∀ j, j < na d b → ¬ op (na d a) (na d b) (wm d σ) (na d a - (i + 1)) V j) ∨ ∃ n : Nat, m = n ∧ n < na d b ∧ S' = V ||| 2 ^ n ∧ op (na d a) (na d b) (wm d σ) (na d a - (i + 1)) V n ∧ ∀ j, j < n → ¬ op (na d a) (na d b) (wm d σ) (na d a - (i + 1)) V j)) (Inv := fun x s' => LW d a b σ0 s' ∧ s' 18 = σ 18 ∧ s' 19 = σ 19 ∧ s' 21 = σ 21 ∧ (∀ x : Nat, x < i → s' 22 x = s 22 x) ∧ s' 0 34 = s 0 34 ∧ ∃ j : Nat, x = (j : Int) - 1 ∧ j ≤ na d b ∧ ((s' 22 i = -1 ∧ ∀ y, j ≤ y → y < na d b → ¬ op (na d a) (na d b) (wm d σ) (na d a - (i + 1)) V y) ∨ ∃ n : Nat, s' 22 i = n ∧ j ≤ n ∧ n < na d b ∧ op (na d a) (na d b) (wm d σ) (na d a - (i + 1)) V n ∧ ∀ y, j ≤ y → y < n → ¬ op (na d a) (na d b) (wm d σ) (na d a - (i + 1)) V y)) (fun x _ => x + 1) ?_ ?_ N _ _ ⟨LW_k (by decide) (by decide) (by decide) (by decide) (by decide) (by decide) (by decide) h1, by rw [su_k _ _ _ (by decide)]; exact h18, by rw [su_k _ _ _ (by decide)]; exact h19, by rw [su_k _ _ _ (by decide)]; exact h21, fun x hx => by rw [su_n _ _ _ _ _ (by omega)], by rw [su_k _ _ _ (by decide)], na d b, by omega, by omega, Or.inl ⟨su_e _ _ _ _, fun y hy hy2 => by omega⟩⟩ (by omega)
        · rintro k2 x s' ⟨g1, g18, g19, g21, gp, g34, j, rfl, hj, gm⟩
          unfold m_follows_31
          by_cases c2 : j = 0
          · left
            rw [if_pos ((lt32_i (by omega) (by omega) (by omega) (by omega)).mpr (by omega)), gd_k gi, gd_k gi]
            unfold m_follows_159 m_follows_181
            rcases gm with ⟨m1, m2⟩ | ⟨n, m1, m2, m3, m4, m5⟩
            · rw [if_pos ((eq32_i (by omega) (by omega) (by omega) (by omega)).mpr m1), gd_k gi, if_pos ((eq32_i (by omega) (by omega) (by omega) (by omega)).mpr m1)]
              have eo : or32 (V : Int) 0 = (V : Int) := by
                have := bi_or (a := V) (b := 0) (by omega) (by omega)
                rw [Nat.or_zero] at this
                exact this
              rw [eo]
              exact ⟨-1, V, _, rfl, LW_34 g1, by rw [su_k _ _ _ (by decide)]; exact g18, by rw [su_k _ _ _ (by decide)]; exact g19, by rw [su_k _ _ _ (by decide)]; exact g21, fun x hx => by rw [su_k _ _ _ (by decide)]; exact gp x hx, by rw [su_k _ _ _ (by decide)]; exact m1, by rw [su_e, g34, if_pos rfl], Or.inl ⟨rfl, rfl, fun y hy => m2 y (by omega) hy⟩⟩
            · have eo : or32 (V : Int) (sl32 1 (n : Int)) = ((V ||| 2 ^ n : Nat) : Int) := by
                rw [bi_sl n (by omega), bi_or (by omega) (Nat.pow_lt_pow_right (by omega) (by omega))]
              rw [m1, if_neg (fun z => by rw [eq32_i (by omega) (by omega) (by omega) (by omega)] at z; omega), gd_k gi, if_neg (fun z => by rw [eq32_i (by omega) (by omega) (by omega) (by omega)] at z; omega), eo]
              exact ⟨n, V ||| 2 ^ n, _, rfl, LW_34 g1, by rw [su_k _ _ _ (by decide)]; exact g18, by rw [su_k _ _ _ (by decide)]; exact g19, by rw [su_k _ _ _ (by decide)]; exact g21, fun x hx => by rw [su_k _ _ _ (by decide)]; exact gp x hx, by rw [su_k _ _ _ (by decide)]; exact m1, by rw [su_e, g34, if_neg (by omega)], Or.inr ⟨n, rfl, m3, rfl, m4, fun y hy => m5 y (by omega) hy⟩⟩
          · right
            obtain ⟨y, rfl⟩ : ∃ y, j = y + 1 := ⟨j - 1, by omega⟩
            have ey : ((y + 1 : Nat) : Int) - 1 = (y : Int) := by omega
            have e20 := g1.2 i y (by omega) (by omega)
            rw [g18, g19] at e20
            have e20 : s' 20 (10 * (i : Int) + (y : Int)) = wm d σ i y := e20
            have hw := hwr i y
            have m22 : -1 ≤ s' 22 i ∧ s' 22 i < 10 := by
              rcases gm with ⟨m1, m2⟩ | ⟨n, m1, m2, m3, m4, m5⟩ <;> omega
            rw [ey, if_neg (fun z => by rw [lt32_i (by omega) (by omega) (by omega) (by omega)] at z; omega), gd_k (by omega), e20]
            -- no mate here
            have no : ¬ op (na d a) (na d b) (wm d σ) (na d a - (i + 1)) V y → ∃ a' σ', m_follows_123 N k k2 (V : Int) i y i s' = k2 a' σ' ∧ (LW d a b σ0 σ' ∧ σ' 18 = σ 18 ∧ σ' 19 = σ 19 ∧ σ' 21 = σ 21 ∧ (∀ x : Nat, x < i → σ' 22 x = s 22 x) ∧ σ' 0 34 = s 0 34 ∧ ∃ j : Nat, a' = (j : Int) - 1 ∧ j ≤ na d b ∧ ((σ' 22 i = -1 ∧ ∀ y, j ≤ y → y < na d b → ¬ op (na d a) (na d b) (wm d σ) (na d a - (i + 1)) V y) ∨ ∃ n : Nat, σ' 22 i = n ∧ j ≤ n ∧ n < na d b ∧ op (na d a) (na d b) (wm d σ) (na d a - (i + 1)) V n ∧ ∀ y, j ≤ y → y < n → ¬ op (na d a) (na d b) (wm d σ) (na d a - (i + 1)) V y)) ∧ a' + 1 < (y : Int) + 1 := by
              intro hno
              unfold m_follows_123 m_follows_129
              rw [gd_k gi, gd_k gi]
              refine ⟨(y : Int) + (-1), _, rfl, ⟨LW_k (by decide) (by decide) (by decide) (by decide) (by decide) (by decide) (by decide) g1, by rw [su_k _ _ _ (by decide)]; exact g18, by rw [su_k _ _ _ (by decide)]; exact g19, by rw [su_k _ _ _ (by decide)]; exact g21, fun x hx => by rw [su_n _ _ _ _ _ (by omega)]; exact gp x hx, by rw [su_k _ _ _ (by decide)]; exact g34, y, by omega, by omega, ?_⟩, by omega⟩
              rw [su_e]
              rcases gm with ⟨m1, m2⟩ | ⟨n, m1, m2, m3, m4, m5⟩
              · refine Or.inl ⟨m1, fun z hz hz2 => ?_⟩
                by_cases e : z = y
                · rw [e]; exact hno
                · exact m2 z (by omega) hz2
              · refine Or.inr ⟨n, m1, by omega, m3, m4, fun z hz hz2 => ?_⟩
                by_cases e : z = y
                · rw [e]; exact hno
                · exact m5 z (by omega) hz2
            unfold m_follows_61 m_follows_62
            have e0 : eq32 0 0 := rfl
            rw [if_pos e0, if_neg (show ¬ eq32 1 0 by decide)]
            by_cases c3 : wm d σ i y ≤ 0
            · rw [if_pos ((le32_i (by omega) (by omega) (by omega) (by omega)).mpr c3)]
              exact no (fun z => by have := (cc_i.mp z.1).2; rw [ei] at this; omega)
            rw [if_neg (fun z => c3 ((le32_i (by omega) (by omega) (by omega) (by omega)).mp z)), bi_bit (by omega) (by omega)]
            by_cases c4 : V.testBit y = true
            · rw [if_pos c4, if_neg (show ¬ eq32 1 0 by decide)]
              exact no (fun z => by have := (cc_i.mp z.1).1; rw [c4] at this; exact Bool.noConfusion this)
            · have hb := Bool.eq_false_iff.mpr c4
              have hlt := or_lt (q := na d b) hV (show y < na d b by omega)
              have eo : or32 (V : Int) (sl32 1 (y : Int)) = ((V ||| 2 ^ y : Nat) : Int) := by
                rw [bi_sl y (by omega), bi_or (by omega) (Nat.pow_lt_pow_right (by omega) (by omega))]
              have t1 := hT (i + 1) (V ||| 2 ^ y) (by omega) hlt
              rw [show ((i + 1 : Nat) : Int) = (i : Int) + 1 by omega] at t1
              have t2 := hT i V (by omega) hV
              have b1 := rB (na d a - (i + 1)) (V ||| 2 ^ y)
              have b2 := rB (na d a - i) V
              rw [if_neg c4, if_pos e0, gd_k (by omega), eo, gd_k (by omega), gd_k (by omega), g21, e20, t1, t2]
              have z1 : -2147483648 ≤ wm d σ i y + BB (na d a) (na d b) (wm d σ) (na d a - (i + 1)) (V ||| 2 ^ y) ∧ wm d σ i y + BB (na d a) (na d b) (wm d σ) (na d a - (i + 1)) (V ||| 2 ^ y) < 2147483648 := by omega
              have z2 : -2147483648 ≤ BB (na d a) (na d b) (wm d σ) (na d a - i) V ∧ BB (na d a) (na d b) (wm d σ) (na d a - i) V < 2147483648 := by omega
              by_cases c5 : wm d σ i y + BB (na d a) (na d b) (wm d σ) (na d a - (i + 1)) (V ||| 2 ^ y) = BB (na d a) (na d b) (wm d σ) (na d a - i) V
              · rw [if_pos ((eq32_i z1.1 z1.2 z2.1 z2.2).mpr c5)]
                have hop : op (na d a) (na d b) (wm d σ) (na d a - (i + 1)) V y := ⟨cc_i.mpr ⟨hb, by rw [ei]; omega⟩, by rw [ei, ← ek]; exact c5⟩
                unfold m_follows_129
                rw [gd_k gi]
                exact ⟨(y : Int) + (-1), _, rfl, ⟨LW_k (by decide) (by decide) (by decide) (by decide) (by decide) (by decide) (by decide) g1, by rw [su_k _ _ _ (by decide)]; exact g18, by rw [su_k _ _ _ (by decide)]; exact g19, by rw [su_k _ _ _ (by decide)]; exact g21, fun x hx => by rw [su_n _ _ _ _ _ (by omega)]; exact gp x hx, by rw [su_k _ _ _ (by decide)]; exact g34, y, by omega, by omega, Or.inr ⟨y, su_e _ _ _ _, Nat.le_refl y, by omega, hop, fun z hz hz2 => by omega⟩⟩, by omega⟩
              · rw [if_neg (fun z => c5 ((eq32_i z1.1 z1.2 z2.1 z2.2).mp z))]
                exact no (fun z => c5 (by have := z.2; rw [ei, ← ek] at this; exact this))
        · rintro x s' ⟨-, -, -, -, -, -, j, rfl, -⟩; omega
      obtain ⟨m, S', s', q1, q2, q18, q19, q21, qp, qm, q34, qd⟩ := key
      refine ⟨(S' : Int), (i : Int) + 1, s', q1, ⟨q2, q18, q19, q21, i + 1, S', by omega, rfl, by omega, ?_⟩, by omega⟩
      have ed : dn (na d a) (na d b) (wm d σ) ((i + 1 : Nat) : Int) = dn (na d a) (na d b) (wm d σ) i + (if dg (na d a) (na d b) (wm d σ) i = 0 then 0 else 1) := by
        unfold dn
        rw [show ((i + 1 : Nat) : Int) = (i : Int) + 1 by omega, S_s _ (by omega)]; rfl
      rcases qd with ⟨m1, m2, m3⟩ | ⟨n, m1, m2, m3, m4, m5⟩
      · obtain ⟨p1, p2⟩ := PA_n (by omega) (by omega) (by omega) hPA m3
        refine ⟨by rw [m2]; exact p1, fun x hx => ?_, by rw [q34, h34, ed, if_pos m1, if_pos p2]⟩
        by_cases e : x = i
        · rw [e, qm]; exact Or.inl ⟨m1, p2⟩
        · rw [qp x (by omega)]; exact hD x (by omega)
      · obtain ⟨p1, p2⟩ := PA_s (by omega) (by omega) (by omega) hPA m2 m4 m5
        refine ⟨by rw [m3]; exact p1, fun x hx => ?_, by rw [q34, h34, ed, if_neg (by omega), if_neg (by omega)]⟩
        by_cases e : x = i
        · rw [e, qm]; exact Or.inr ⟨n, m1, m2, p2⟩
        · rw [qp x (by omega)]; exact hD x (by omega)
  · rintro u v s ⟨-, -, -, -, i, V, rfl, -, hi, -⟩; omega
