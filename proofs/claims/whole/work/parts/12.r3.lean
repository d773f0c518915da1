/-! CHANCES, ODDS, BELIEF -/
def Pm (f : Int → Int) : Nat → Int
  | 0 => 1
  | n + 1 => Pm f n * f n
def Pr (f : Int → Int) (n : Int) : Int := Pm f n.toNat
theorem Pr_s (f : Int → Int) {n : Int} (h : 0 ≤ n) : Pr f (n + 1) = Pr f n * f n := by
  obtain ⟨m, rfl⟩ := Int.eq_ofNat_of_zero_le h
  rfl
theorem mul_r {a b la ha lb hb : Int} (h1 : la ≤ a) (h2 : a ≤ ha) (h3 : lb ≤ b) (h4 : b ≤ hb) (h5 : 0 ≤ la) (h6 : 0 ≤ lb) : la * lb ≤ a * b ∧ a * b ≤ ha * hb :=
  ⟨Int.mul_le_mul h1 h3 h6 (by omega), Int.mul_le_mul h2 h4 (by omega) (by omega)⟩
/-- CHANCE of a FIELD of a pair (one: 1), all of them multiplied -/
def cf (d : St) (o a b f : Int) : Int := if lv d a b f = -1 then 1 else d 16 (16 * o + 4 * f + lv d a b f)
def ch (d : St) (o a b : Int) : Int := Pr (cf d o a b) 4
theorem cf_r {d : St} (hd : DI d) {o a b f : Int} (ho : o = 0 ∨ o = 1) (ha : 0 ≤ a ∧ a < d 0 1) (hb : 0 ≤ b ∧ b < d 0 1) (hf : 0 ≤ f ∧ f < 4) : 1 ≤ cf d o a b f ∧ cf d o a b f ≤ 1000 := by
  have := lv_r (f := f) hd ha hb
  unfold cf
  split
  · omega
  · exact hd.chc _ (by omega) (by omega)
theorem ch_r {d : St} (hd : DI d) {o a b : Int} (ho : o = 0 ∨ o = 1) (ha : 0 ≤ a ∧ a < d 0 1) (hb : 0 ≤ b ∧ b < d 0 1) : 1 ≤ ch d o a b ∧ ch d o a b ≤ 1000000000000 := by
  have c0 := cf_r hd ho ha hb (f := 0) (by omega)
  have c1 := cf_r hd ho ha hb (f := 1) (by omega)
  have c2 := cf_r hd ho ha hb (f := 2) (by omega)
  have c3 := cf_r hd ho ha hb (f := 3) (by omega)
  have e : ch d o a b = 1 * cf d o a b 0 * cf d o a b 1 * cf d o a b 2 * cf d o a b 3 := rfl
  have p1 := mul_r (a := 1) (b := cf d o a b 0) (la := 1) (ha := 1) (by omega) (by omega) c0.1 c0.2 (by omega) (by omega)
  have p2 := mul_r p1.1 p1.2 c1.1 c1.2 (by omega) (by omega)
  have p3 := mul_r p2.1 p2.2 c2.1 c2.2 (by omega) (by omega)
  have p4 := mul_r p3.1 p3.2 c3.1 c3.2 (by omega) (by omega)
  rw [e]; omega
theorem x_chancesOf_e (N : Nat) (hN : 100 < N) {d σ : St} (hx : RX d σ) (hd : DI d) {o a b : Int} (ho : o = 0 ∨ o = 1) (ha : 0 ≤ a ∧ a < d 0 1) (hb : 0 ≤ b ∧ b < d 0 1) (hab : a ≠ b) : x_Pairs_chancesOf N a b o σ = some (ch d o a b, σ) := by
  unfold x_Pairs_chancesOf
  refine lq2 (Out := fun x => x = some (ch d o a b, σ)) (Inv := fun v f s => s = σ ∧ 0 ≤ f ∧ f ≤ 4 ∧ v = Pr (cf d o a b) f) (fun _ f _ => 4 - f) ?_ ?_ N 1 0 σ ⟨rfl, by omega, by omega, rfl⟩ (by omega)
  · rintro k v f s ⟨rfl, h0, h4, rfl⟩
    unfold x_Pairs_chancesOf_6
    simp (disch := omega) only [le32_i]
    by_cases c : 4 ≤ f
    · left; rw [if_pos c, show f = 4 by omega]; rfl
    · right
      have hl := lv_r (f := f) hd ha hb
      have hc := cf_r hd ho ha hb (f := f) ⟨h0, by omega⟩
      rw [if_neg c, x_levelOf_e N hN hx hd ha hb hab ⟨h0, by omega⟩, bd_k]
      simp (disch := omega) only [eq32_i]
      refine ⟨Pr (cf d o a b) (f + 1), f + 1, s, ?_, ⟨rfl, by omega, by omega, rfl⟩, by omega⟩
      rw [Pr_s _ h0]
      unfold cf at hc
      unfold x_Pairs_chancesOf_46 x_Weights_chanceFor
      by_cases c2 : lv d a b f = -1
      · rw [if_pos c2]; unfold cf; rw [if_pos c2, Int.mul_one]
      · have hp := hx.pts (f * 4 + lv d a b f) (by omega) (by omega)
        rw [if_neg c2] at hc
        rw [if_neg c2]
        simp (disch := omega) only [eq32_i]
        rcases ho with e | e
        · subst e
          rw [if_pos rfl, gd_k (by omega), bd_k, hp.2.2]
          unfold cf
          rw [if_neg c2, show (16 : Int) * 0 + 4 * f + lv d a b f = f * 4 + lv d a b f by omega] at *
          rw [s32_i (by omega) (by omega)]
        · subst e
          rw [if_neg (by omega), gd_k (by omega), bd_k, hp.2.1]
          unfold cf
          rw [if_neg c2, show (16 : Int) * 1 + 4 * f + lv d a b f = 16 + (f * 4 + lv d a b f) by omega] at *
          rw [s32_i (by omega) (by omega)]
  · rintro v f s ⟨-, h0, h4, -⟩; omega
/-- Euclid's way ends within n steps with g -/
def EU : Nat → Nat → Nat → Nat → Prop
  | 0, x, y, g => y = 0 ∧ g = x
  | n + 1, x, y, g => (y = 0 ∧ g = x) ∨ (y ≠ 0 ∧ EU n y (x % y) g)
theorem gcd_step (x y : Nat) : Nat.gcd x y = Nat.gcd y (x % y) := by
  rw [Nat.gcd_comm x y, Nat.gcd_rec y x, Nat.gcd_comm]
theorem EU_lt : ∀ (n x y : Nat), y ≤ x → x * y < 2 ^ n → EU n x y (Nat.gcd x y) := by
  intro n
  induction n with
  | zero =>
    intro x y h1 h2
    have h0 : x * y = 0 := by simpa using h2
    have hy : y = 0 := by
      rcases Nat.mul_eq_zero.mp h0 with h | h
      · omega
      · exact h
    subst hy
    exact ⟨rfl, Nat.gcd_zero_right x⟩
  | succ n ih =>
    intro x y h1 h2
    by_cases hy : y = 0
    · subst hy; exact Or.inl ⟨rfl, Nat.gcd_zero_right x⟩
    · refine Or.inr ⟨hy, ?_⟩
      rw [gcd_step]
      refine ih y (x % y) (Nat.le_of_lt (Nat.mod_lt _ (by omega))) ?_
      have e := Nat.div_add_mod x y
      have q : 1 ≤ x / y := (Nat.le_div_iff_mul_le (by omega)).mpr (by omega)
      have q2 : y * 1 ≤ y * (x / y) := Nat.mul_le_mul (Nat.le_refl y) q
      have m := Nat.mod_lt x (show 0 < y by omega)
      have h3 : y * (2 * (x % y)) ≤ y * x := Nat.mul_le_mul (Nat.le_refl y) (by omega)
      have e1 : y * (2 * (x % y)) = 2 * (y * (x % y)) := by rw [Nat.mul_left_comm]
      have e2 : y * x = x * y := Nat.mul_comm y x
      have e3 : 2 ^ (n + 1) = 2 ^ n * 2 := Nat.pow_succ 2 n
      omega
theorem EU_all {n x y : Nat} (h : x * y < 2 ^ n) : EU (n + 1) x y (Nat.gcd x y) := by
  by_cases hy : y = 0
  · subst hy; exact Or.inl ⟨rfl, Nat.gcd_zero_right x⟩
  · refine Or.inr ⟨hy, ?_⟩
    rw [gcd_step]
    refine EU_lt n y (x % y) (Nat.le_of_lt (Nat.mod_lt _ (by omega))) ?_
    have h3 : y * (x % y) ≤ y * x := Nat.mul_le_mul (Nat.le_refl y) (Nat.mod_le x y)
    rw [Nat.mul_comm y x] at h3
    omega
theorem rem_i {x y : Nat} (hx : x < 9223372036854775808) (hy : y < 9223372036854775808) (h0 : y ≠ 0) : (x : Int) - dv64 x y * y = ((x % y : Nat) : Int) := by
  rw [dv64_i (by omega) (by omega) (by omega) (by omega), Int.natCast_emod, Int.emod_def, Int.mul_comm]
theorem ne64_i {x : Int} (a : -9223372036854775808 ≤ x) (b : x < 9223372036854775808) (h : x ≠ 0) : ¬ eq64 x 0 := fun z => h ((eq64_i a b (by omega) (by omega)).mp z)
theorem m_div_in (N : Nat) (s : St) : ∀ (n x y g : Nat), EU n x y g → x < 9223372036854775808 → y < 9223372036854775808 → ∀ m : Nat, n < m → itr (m_divisor_6 N) (fun _ _ _ => none) m (x : Int) (y : Int) s = some ((g : Int), s) := by
  intro n
  induction n with
  | zero =>
    rintro x y g ⟨rfl, rfl⟩ h1 h2 m hm
    obtain ⟨m, rfl⟩ : ∃ m', m = m' + 1 := ⟨m - 1, by omega⟩
    rw [itr_k, m_divisor_6, if_pos (by rfl)]
  | succ n ih =>
    intro x y g h h1 h2 m hm
    obtain ⟨m, rfl⟩ : ∃ m', m = m' + 1 := ⟨m - 1, by omega⟩
    rw [itr_k, m_divisor_6]
    rcases h with ⟨rfl, rfl⟩ | ⟨hy, h⟩
    · rw [if_pos (by rfl)]
    · have hn := ne64_i (x := (y : Int)) (by omega) (by omega) (by omega)
      have hl := Nat.mod_lt x (show 0 < y by omega)
      rw [if_neg hn, gd_k hn, rem_i h1 h2 hy]
      exact ih y (x % y) g h h2 (by omega) m (by omega)
theorem mx64_i {x y : Int} (a : -9223372036854775808 ≤ x) (b : x < 9223372036854775808) (c : -9223372036854775808 ≤ y) (d : y < 9223372036854775808) : mx64 x y = max x y := by
  unfold mx64
  by_cases h : y < x
  · rw [if_pos ((lt64_i c d a b).mpr h)]; omega
  · rw [if_neg (fun z => h ((lt64_i c d a b).mp z))]; omega
theorem x_div_in (N : Nat) (s : St) : ∀ (n x y g : Nat), EU n x y g → x < 9223372036854775808 → y < 9223372036854775808 → g < 9223372036854775808 → ∀ (m : Nat) (t : Int), n < m → 0 ≤ t → t + n < 200 → itr (x_Pairs_greatestDivisor_9 N) (fun _ _ _ _ => none) m (x : Int) (y : Int) t s = some (max 1 (g : Int), s) := by
  intro n
  induction n with
  | zero =>
    rintro x y g ⟨rfl, rfl⟩ h1 h2 h3 m t hm h4 h5
    obtain ⟨m, rfl⟩ : ∃ m', m = m' + 1 := ⟨m - 1, by omega⟩
    rw [itr_k, x_Pairs_greatestDivisor_9, if_neg (fun z => by rw [le32_i (by omega) (by omega) (by omega) (by omega)] at z; omega), if_pos (by rfl), x_Pairs_greatestDivisor_45, mx64_i (by omega) (by omega) (by omega) (by omega)]
  | succ n ih =>
    intro x y g h h1 h2 h3 m t hm h4 h5
    obtain ⟨m, rfl⟩ : ∃ m', m = m' + 1 := ⟨m - 1, by omega⟩
    rw [itr_k, x_Pairs_greatestDivisor_9, if_neg (fun z => by rw [le32_i (by omega) (by omega) (by omega) (by omega)] at z; omega)]
    rcases h with ⟨rfl, rfl⟩ | ⟨hy, h⟩
    · rw [if_pos (by rfl), x_Pairs_greatestDivisor_45, mx64_i (by omega) (by omega) (by omega) (by omega)]
    · have hn := ne64_i (x := (y : Int)) (by omega) (by omega) (by omega)
      have hl := Nat.mod_lt x (show 0 < y by omega)
      rw [if_neg hn, gd_k hn, rem_i h1 h2 hy]
      exact ih y (x % y) g h h2 (by omega) h3 m (t + 1) (by omega) (by omega) (by omega)
/-- the greatest divisor of both -/
def gg (x y : Int) : Int := ((Nat.gcd x.toNat y.toNat : Nat) : Int)
theorem gg_r {x y : Int} (h : 1 ≤ x) (hy : 1 ≤ y) : 1 ≤ gg x y ∧ gg x y ≤ x ∧ gg x y ≤ y ∧ x / gg x y * gg x y = x ∧ y / gg x y * gg x y = y := by
  have a := Nat.gcd_pos_of_pos_left y.toNat (show 0 < x.toNat by omega)
  have b := Nat.gcd_le_left y.toNat (show 0 < x.toNat by omega)
  have b2 := Nat.gcd_le_right x.toNat (show 0 < y.toNat by omega)
  have c : (gg x y) ∣ x := by
    have h1 : ((Nat.gcd x.toNat y.toNat : Nat) : Int) ∣ ((x.toNat : Nat) : Int) := Int.natCast_dvd_natCast.mpr (Nat.gcd_dvd_left _ _)
    rw [show ((x.toNat : Nat) : Int) = x by omega] at h1
    exact h1
  have c2 : (gg x y) ∣ y := by
    have h1 : ((Nat.gcd x.toNat y.toNat : Nat) : Int) ∣ ((y.toNat : Nat) : Int) := Int.natCast_dvd_natCast.mpr (Nat.gcd_dvd_right _ _)
    rw [show ((y.toNat : Nat) : Int) = y by omega] at h1
    exact h1
  refine ⟨?_, ?_, ?_, Int.ediv_mul_cancel c, Int.ediv_mul_cancel c2⟩ <;> unfold gg <;> omega
theorem EU_go {x y : Int} (hx : 1 ≤ x ∧ x ≤ 1000000000000) (hy : 1 ≤ y ∧ y ≤ 1000000000000) : EU 81 x.toNat y.toNat (Nat.gcd x.toNat y.toNat) := by
  refine EU_all (n := 80) ?_
  have h : x.toNat * y.toNat ≤ 1000000000000 * 1000000000000 := Nat.mul_le_mul (by omega) (by omega)
  have h2 : (1000000000000 * 1000000000000 : Nat) < 2 ^ 80 := by decide
  omega
theorem m_divisor_e (N : Nat) (hN : 100 < N) {x y : Int} (s : St) (hx : 1 ≤ x ∧ x ≤ 1000000000000) (hy : 1 ≤ y ∧ y ≤ 1000000000000) : m_divisor N x y s = some (gg x y, s) := by
  have h := m_div_in N s 81 x.toNat y.toNat _ (EU_go hx hy) (by omega) (by omega) N (by omega)
  rw [show ((x.toNat : Nat) : Int) = x by omega, show ((y.toNat : Nat) : Int) = y by omega] at h
  exact h
theorem x_divisor_e (N : Nat) (hN : 100 < N) {x y : Int} (s : St) (hx : 1 ≤ x ∧ x ≤ 1000000000000) (hy : 1 ≤ y ∧ y ≤ 1000000000000) : x_Pairs_greatestDivisor N x y s = some (gg x y, s) := by
  have hg := gg_r hx.1 hy.1
  have h := x_div_in N s 81 x.toNat y.toNat _ (EU_go hx hy) (by omega) (by omega) (by unfold gg at hg; omega) N 0 (by omega) (by omega) (by omega)
  rw [show ((x.toNat : Nat) : Int) = x by omega, show ((y.toNat : Nat) : Int) = y by omega] at h
  unfold x_Pairs_greatestDivisor
  rw [h, show max (1 : Int) ((Nat.gcd x.toNat y.toNat : Nat) : Int) = gg x y by unfold gg at hg ⊢; omega]
theorem RM_22 {d σ : St} {v : Int} (h : RM d σ) : RM d (su σ 0 22 v) := RM_j (by decide) (by decide) (by decide) h
theorem RM_23 {d σ : St} {v : Int} (h : RM d σ) : RM d (su σ 0 23 v) := RM_j (by decide) (by decide) (by decide) h
theorem m_oddsOf_e (N : Nat) (hN : 100 < N) {d σ : St} (hm : RM d σ) (hd : DI d) {a b : Int} (ha : 0 ≤ a ∧ a < d 0 1) (hb : 0 ≤ b ∧ b < d 0 1) : ∃ σ', m_oddsOf N a b σ = some (0, σ') ∧ RM d σ' ∧ σ' 0 22 = ch d 1 a b / gg (ch d 1 a b) (ch d 0 a b) ∧ σ' 0 23 = ch d 0 a b / gg (ch d 1 a b) (ch d 0 a b) := by
  unfold m_oddsOf
  refine lq1 (Out := fun x => ∃ σ', x = some (0, σ') ∧ RM d σ' ∧ σ' 0 22 = ch d 1 a b / gg (ch d 1 a b) (ch d 0 a b) ∧ σ' 0 23 = ch d 0 a b / gg (ch d 1 a b) (ch d 0 a b)) (Inv := fun f s => RM d s ∧ 0 ≤ f ∧ f ≤ 4 ∧ s 0 22 = Pr (cf d 1 a b) f ∧ s 0 23 = Pr (cf d 0 a b) f) (fun f _ => 4 - f) ?_ ?_ N 0 _ ⟨RM_23 (RM_22 hm), by omega, by omega, by rw [su_n _ _ _ _ _ (by decide), su_e]; rfl, by rw [su_e]; rfl⟩ (by omega)
  · rintro k f s ⟨hs, h0, h4, e22, e23⟩
    unfold m_oddsOf_12
    simp (disch := omega) only [le32_i]
    by_cases c : 4 ≤ f
    · left
      have c1 := ch_r hd (o := 1) (Or.inr rfl) ha hb
      have c0 := ch_r hd (o := 0) (Or.inl rfl) ha hb
      have hg := gg_r c1.1 c0.1
      rw [show f = 4 by omega] at e22 e23
      have hn := ne64_i (x := gg (ch d 1 a b) (ch d 0 a b)) (by omega) (by omega) (by omega)
      have e22 : s 0 22 = ch d 1 a b := e22
      have e23 : s 0 23 = ch d 0 a b := e23
      rw [if_pos c, e22, e23, m_divisor_e N hN s c1 c0, bd_k, gd_k hn, gd_k hn]
      refine ⟨_, rfl, RM_23 (RM_22 hs), ?_, ?_⟩
      · rw [su_n _ _ _ _ _ (by decide), su_e, e22, dv64_i (by omega) (by omega) (by omega) (by omega)]
      · rw [su_e, su_n _ _ _ _ _ (by decide), e23, dv64_i (by omega) (by omega) (by omega) (by omega)]
    · right
      have hl := lv_r (f := f) hd ha hb
      obtain ⟨s', e1, e2, e3⟩ := m_level_q N hN hs hd ha hb (f := f) ⟨h0, by omega⟩
      have q1 := cf_r hd (o := 1) (Or.inr rfl) ha hb (f := f) ⟨h0, by omega⟩
      have q0 := cf_r hd (o := 0) (Or.inl rfl) ha hb (f := f) ⟨h0, by omega⟩
      have g22 : s' 0 22 = Pr (cf d 1 a b) f := (e3.2.1 22 (by decide) (by decide)).trans e22
      have g23 : s' 0 23 = Pr (cf d 0 a b) f := (e3.2.1 23 (by decide) (by decide)).trans e23
      rw [if_neg c, e1, bd_k]
      simp (disch := omega) only [eq32_i]
      refine ⟨f + 1, su (su s' 0 22 (Pr (cf d 1 a b) (f + 1))) 0 23 (Pr (cf d 0 a b) (f + 1)), ?_, ⟨RM_23 (RM_22 e2), by omega, by omega, by rw [su_n _ _ _ _ _ (by decide), su_e], by rw [su_e]⟩, by omega⟩
      rw [Pr_s _ h0, Pr_s _ h0]
      unfold m_oddsOf_56 m_oddsOf_87
      simp (disch := omega) only [eq32_i]
      simp (disch := decide) only [su_k, su_n]
      rw [g22, g23, e2.1 16 rfl]
      by_cases c2 : lv d a b f = -1
      · rw [if_pos c2, if_pos c2, show cf d 1 a b f = 1 from if_pos c2, show cf d 0 a b f = 1 from if_pos c2]
      · have u1 : cf d 1 a b f = d 16 (16 + 4 * f + lv d a b f) := by
          unfold cf
          rw [if_neg c2, show (16 : Int) * 1 + 4 * f + lv d a b f = 16 + 4 * f + lv d a b f by omega]
        have u0 : cf d 0 a b f = d 16 (4 * f + lv d a b f) := by
          unfold cf
          rw [if_neg c2, show (16 : Int) * 0 + 4 * f + lv d a b f = 4 * f + lv d a b f by omega]
        rw [u1] at q1 ⊢
        rw [u0] at q0 ⊢
        rw [if_neg c2, if_neg c2, gd_k (by omega), gd_k (by omega), s32_i (by omega) (by omega), s32_i (by omega) (by omega)]
  · rintro f s ⟨-, h0, h4, -⟩; omega
theorem sim_odds {N : Nat} (hN : 100 < N) {σx σm : St} (h : RR σx σm) : ∀ a : Int, i32 a → ∀ b : Int, i32 b → ∀ f : Int, i32 f → OKp RR (x_odds N a b f σx) (m_odds N a b f σm) := by
  obtain ⟨d, hx, hm, hd⟩ := h
  intro a ha b hb f hf
  unfold x_odds m_odds
  rw [x_Rows_arePair_e N ha hb hx hd, m_areTwo_e N ha hb hm hd, bd_k, bd_k]
  simp only [b01_0, itn]
  by_cases c : two d a b
  · rw [if_pos c, if_pos c, x_isBelow_e N σx hf.1 hf.2 (by omega) (by omega), m_in_e N σm hf.1 hf.2 (by omega) (by omega) (by omega) (by omega), bd_k, bd_k]
    simp only [b01_0, itn]
    by_cases cf : 0 ≤ f ∧ f < 2
    · obtain ⟨σ', e1, e2, e3, e4⟩ := m_oddsOf_e N hN hm hd c.1 c.2.1
      have c1 := ch_r hd (o := 1) (Or.inr rfl) c.1 c.2.1
      have c0 := ch_r hd (o := 0) (Or.inl rfl) c.1 c.2.1
      have hg := gg_r c1.1 c0.1
      have hn := ne64_i (x := gg (ch d 1 a b) (ch d 0 a b)) (by omega) (by omega) (by omega)
      rw [if_pos cf, if_pos (by omega), x_chancesOf_e N hN hx hd (Or.inr rfl) c.1 c.2.1 c.2.2, e1, bd_k, bd_k, x_chancesOf_e N hN hx hd (Or.inl rfl) c.1 c.2.1 c.2.2, bd_k, x_divisor_e N hN σx c1 c0, bd_k, gd_k hn, gd_k hn, e3, e4, dv64_i (by omega) (by omega) (by omega) (by omega), dv64_i (by omega) (by omega) (by omega) (by omega)]
      simp (disch := omega) only [eq32_i]
      by_cases c3 : f = 0
      · rw [if_pos c3, if_pos c3]
        exact ⟨_, _, _, rfl, rfl, d, hx, e2, hd⟩
      · rw [if_neg c3, if_neg c3]
        exact ⟨_, _, _, rfl, rfl, d, hx, e2, hd⟩
    · rw [if_neg cf, if_neg (by omega)]
      exact ⟨_, _, _, rfl, rfl, d, hx, hm, hd⟩
  · rw [if_neg c, if_neg c]
    exact ⟨_, _, _, rfl, rfl, d, hx, hm, hd⟩
/-- the first n figures of r by w, and what rests -/
def mi (w r : Int) : Nat → Int × Int
  | 0 => (0, r)
  | n + 1 => (10 * (mi w r n).1 + (mi w r n).2 * 10 / w, (mi w r n).2 * 10 % w)
theorem mi_r {w r : Int} (hr : 0 ≤ r) (hw : r < w) : ∀ n : Nat, 0 ≤ (mi w r n).2 ∧ (mi w r n).2 < w ∧ 0 ≤ (mi w r n).1 ∧ (mi w r n).1 < 10 ^ n := by
  intro n
  induction n with
  | zero => exact ⟨hr, hw, Int.le_refl 0, by rw [Int.pow_zero]; exact (by decide : (0 : Int) < 1)⟩
  | succ n ih =>
    obtain ⟨h1, h2, h3, h4⟩ := ih
    have q0 : 0 ≤ (mi w r n).2 * 10 / w := Int.ediv_nonneg (by omega) (by omega)
    have q1 : (mi w r n).2 * 10 / w < 10 := Int.ediv_lt_of_lt_mul (by omega) (by omega)
    refine ⟨Int.emod_nonneg _ (by omega), Int.emod_lt_of_pos _ (by omega), ?_, ?_⟩
    · show 0 ≤ 10 * (mi w r n).1 + (mi w r n).2 * 10 / w
      omega
    · show 10 * (mi w r n).1 + (mi w r n).2 * 10 / w < 10 ^ (n + 1)
      rw [Int.pow_succ]; omega
theorem mi_g {w r g : Int} (hg : 0 < g) : ∀ n : Nat, mi (g * w) (g * r) n = ((mi w r n).1, g * (mi w r n).2) := by
  intro n
  induction n with
  | zero => rfl
  | succ n ih =>
    rw [mi, ih, mi]
    show (10 * (mi w r n).1 + g * (mi w r n).2 * 10 / (g * w), g * (mi w r n).2 * 10 % (g * w)) = _
    rw [Int.mul_assoc, Int.mul_ediv_mul_of_pos _ _ hg, Int.mul_emod_mul_of_pos _ _ hg]
theorem rem64 {x w : Int} (h0 : 0 ≤ x) (h1 : x < 9223372036854775808) (h2 : 0 < w) (h3 : w < 9223372036854775808) : x - dv64 x w * w = x % w := by
  rw [dv64_i h0 h1 h2 h3, Int.emod_def, Int.mul_comm]
theorem x_mill_in (N : Nat) {w r : Int} (s : St) (h0 : 0 ≤ r) (h1 : r < w) (h2 : w < 900000000000000000) : ∀ (m j n : Nat), n + j = 6 → j < m → itr (x_Pairs_millionths_17 N w) (fun _ _ _ _ => none) m (mi w r n).1 (mi w r n).2 n s = some ((mi w r 6).1, s) := by
  intro m
  induction m with
  | zero => intro j n h3 h4; omega
  | succ m ih =>
    intro j n h3 h4
    have hr := mi_r h0 h1 n
    have hn := ne64_i (x := w) (by omega) (by omega) (by omega)
    rw [itr_k, x_Pairs_millionths_17]
    simp (disch := omega) only [le32_i]
    by_cases c : 6 ≤ (n : Int)
    · rw [if_pos c, show n = 6 by omega]
    · rw [if_neg c, gd_k hn, gd_k hn, rem64 (by omega) (by omega) (by omega) (by omega), dv64_i (by omega) (by omega) (by omega) (by omega)]
      have := ih (j - 1) (n + 1) (by omega) (by omega)
      rw [mi] at this
      rw [show (mi w r n).1 * 10 + (mi w r n).2 * 10 / w = 10 * (mi w r n).1 + (mi w r n).2 * 10 / w by omega]
      exact this
theorem m_mill_in (N : Nat) {w r : Int} (s : St) (h0 : 0 ≤ r) (h1 : r < w) (h2 : w < 900000000000000000) : ∀ (m j n : Nat), n + j = 6 → j < m → itr (m_belief_72 N w) (fun _ _ _ _ => none) m (mi w r n).2 (mi w r n).1 n s = some ((mi w r 6).1, s) := by
  intro m
  induction m with
  | zero => intro j n h3 h4; omega
  | succ m ih =>
    intro j n h3 h4
    have hr := mi_r h0 h1 n
    have hn := ne64_i (x := w) (by omega) (by omega) (by omega)
    rw [itr_k, m_belief_72]
    simp (disch := omega) only [le32_i]
    by_cases c : 6 ≤ (n : Int)
    · rw [if_pos c, show n = 6 by omega]
    · rw [if_neg c, gd_k hn, gd_k hn, rem64 (by omega) (by omega) (by omega) (by omega), dv64_i (by omega) (by omega) (by omega) (by omega)]
      exact ih (j - 1) (n + 1) (by omega) (by omega)
theorem sim_belief {N : Nat} (hN : 100 < N) {σx σm : St} (h : RR σx σm) : ∀ a : Int, i32 a → ∀ b : Int, i32 b → ∀ p : Int, i32 p → ∀ q : Int, i32 q → OKp RR (x_belief N a b p q σx) (m_belief N a b p q σm) := by
  obtain ⟨d, hx, hm, hd⟩ := h
  intro a ha b hb p hp q hq
  unfold x_belief m_belief
  rw [x_Rows_arePair_e N ha hb hx hd, m_areTwo_e N ha hb hm hd, bd_k, bd_k]
  simp only [b01_0, itn]
  by_cases c : two d a b
  · rw [if_pos c, if_pos c, x_isWithin_e N σx hp.1 hp.2 (by omega) (by omega) (by omega) (by omega), m_in_e N σm hp.1 hp.2 (by omega) (by omega) (by omega) (by omega), bd_k, bd_k]
    simp only [b01_0, itn]
    by_cases cp : 1 ≤ p ∧ p ≤ 1000
    · rw [if_pos cp, if_pos cp, x_isWithin_e N σx hq.1 hq.2 (by omega) (by omega) (by omega) (by omega), m_in_e N σm hq.1 hq.2 (by omega) (by omega) (by omega) (by omega), bd_k, bd_k]
      simp only [b01_0, itn]
      by_cases cq : p + 1 ≤ q ∧ q ≤ 100000
      · obtain ⟨σ', e1, e2, e3, e4⟩ := m_oddsOf_e N hN hm hd c.1 c.2.1
        have c1 := ch_r hd (o := 1) (Or.inr rfl) c.1 c.2.1
        have c0 := ch_r hd (o := 0) (Or.inl rfl) c.1 c.2.1
        have hg := gg_r c1.1 c0.1
        rw [if_pos cq, if_pos cq, x_chancesOf_e N hN hx hd (Or.inr rfl) c.1 c.2.1 c.2.2, e1, bd_k, bd_k, x_chancesOf_e N hN hx hd (Or.inl rfl) c.1 c.2.1 c.2.2, bd_k, e3, e4, s32_i (by omega) (by omega), s32_i (by omega) (by omega)]
        refine ⟨(mi (p * (ch d 1 a b / gg (ch d 1 a b) (ch d 0 a b)) + (q - p) * (ch d 0 a b / gg (ch d 1 a b) (ch d 0 a b))) (p * (ch d 1 a b / gg (ch d 1 a b) (ch d 0 a b))) 6).1, σx, σ', ?_, ?_, d, hx, e2, hd⟩
        · have m1 := mul_r (a := p) (b := ch d 1 a b) cp.1 cp.2 c1.1 c1.2 (by omega) (by omega)
          have m2 := mul_r (a := q - p) (b := ch d 0 a b) (la := 1) (ha := 100000) (by omega) (by omega) c0.1 c0.2 (by omega) (by omega)
          unfold x_Pairs_millionths
          rw [if_pos ((le64_i (by omega) (by omega) (by omega) (by omega)).mpr (by omega))]
          have h := x_mill_in N σx (r := p * ch d 1 a b) (w := p * ch d 1 a b + (q - p) * ch d 0 a b) (by omega) (by omega) (by omega) N 6 0 (by omega) (by omega)
          have h : itr (x_Pairs_millionths_17 N (p * ch d 1 a b + (q - p) * ch d 0 a b)) (fun _ _ _ _ => none) N 0 (p * ch d 1 a b) 0 σx = _ := h
          rw [h, bd_k]
          have k1 : p * ch d 1 a b = gg (ch d 1 a b) (ch d 0 a b) * (p * (ch d 1 a b / gg (ch d 1 a b) (ch d 0 a b))) := by
            rw [Int.mul_left_comm, Int.mul_comm (gg (ch d 1 a b) (ch d 0 a b)), hg.2.2.2.1]
          have k2 : (q - p) * ch d 0 a b = gg (ch d 1 a b) (ch d 0 a b) * ((q - p) * (ch d 0 a b / gg (ch d 1 a b) (ch d 0 a b))) := by
            rw [Int.mul_left_comm, Int.mul_comm (gg (ch d 1 a b) (ch d 0 a b)), hg.2.2.2.2]
          have k3 : mi (p * ch d 1 a b + (q - p) * ch d 0 a b) (p * ch d 1 a b) 6 = mi (gg (ch d 1 a b) (ch d 0 a b) * (p * (ch d 1 a b / gg (ch d 1 a b) (ch d 0 a b)) + (q - p) * (ch d 0 a b / gg (ch d 1 a b) (ch d 0 a b)))) (gg (ch d 1 a b) (ch d 0 a b) * (p * (ch d 1 a b / gg (ch d 1 a b) (ch d 0 a b)))) 6 := by
            rw [Int.mul_add, ← k1, ← k2]
          rw [k3, mi_g (by omega)]
        · have t1 : 1 ≤ ch d 1 a b / gg (ch d 1 a b) (ch d 0 a b) := Int.le_ediv_of_mul_le (by omega) (by omega)
          have t2 : ch d 1 a b / gg (ch d 1 a b) (ch d 0 a b) ≤ ch d 1 a b := Int.ediv_le_self _ (by omega)
          have u1 : 1 ≤ ch d 0 a b / gg (ch d 1 a b) (ch d 0 a b) := Int.le_ediv_of_mul_le (by omega) (by omega)
          have u2 : ch d 0 a b / gg (ch d 1 a b) (ch d 0 a b) ≤ ch d 0 a b := Int.ediv_le_self _ (by omega)
          have m1 := mul_r cp.1 cp.2 t1 (Int.le_trans t2 c1.2) (by omega) (by omega)
          have m2 := mul_r (a := q - p) (la := 1) (ha := 100000) (by omega) (by omega) u1 (Int.le_trans u2 c0.2) (by omega) (by omega)
          exact m_mill_in N σ' (by omega) (by omega) (by omega) N 6 0 (by omega) (by omega)
      · rw [if_neg cq, if_neg cq]
        exact ⟨_, _, _, rfl, rfl, d, hx, hm, hd⟩
    · rw [if_neg cp, if_neg cp]
      exact ⟨_, _, _, rfl, rfl, d, hx, hm, hd⟩
  · rw [if_neg c, if_neg c]
    exact ⟨_, _, _, rfl, rfl, d, hx, hm, hd⟩
