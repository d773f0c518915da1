/-! bits of numbers from 0 on -/
theorem bn_i (a : Nat) : Int32.ofInt (a : Int) = nI a := Int32.ofInt_eq_ofNat
theorem bn_and (a b : Nat) : nI a &&& nI b = nI (a &&& b) := by
  apply Int32.toBitVec_inj.1
  show BitVec.ofNat 32 a &&& BitVec.ofNat 32 b = BitVec.ofNat 32 (a &&& b)
  apply BitVec.eq_of_getLsbD_eq
  intro i hi
  simp [hi]
theorem bn_or (a b : Nat) : nI a ||| nI b = nI (a ||| b) := by
  apply Int32.toBitVec_inj.1
  show BitVec.ofNat 32 a ||| BitVec.ofNat 32 b = BitVec.ofNat 32 (a ||| b)
  apply BitVec.eq_of_getLsbD_eq
  intro i hi
  simp [hi]
theorem bn_xor (a b : Nat) : nI a ^^^ nI b = nI (a ^^^ b) := by
  apply Int32.toBitVec_inj.1
  show BitVec.ofNat 32 a ^^^ BitVec.ofNat 32 b = BitVec.ofNat 32 (a ^^^ b)
  apply BitVec.eq_of_getLsbD_eq
  intro i hi
  simp [hi]
theorem bi_and {a b : Nat} (ha : a < 2 ^ 31) : an32 (a : Int) (b : Int) = ((a &&& b : Nat) : Int) := by
  unfold an32
  rw [bn_i, bn_i, bn_and, nI_toInt (Nat.lt_of_le_of_lt Nat.and_le_left ha)]
theorem bi_or {a b : Nat} (ha : a < 2 ^ 31) (hb : b < 2 ^ 31) : or32 (a : Int) (b : Int) = ((a ||| b : Nat) : Int) := by
  unfold or32
  rw [bn_i, bn_i, bn_or, nI_toInt (Nat.or_lt_two_pow ha hb)]
theorem bi_xor {a b : Nat} (ha : a < 2 ^ 31) (hb : b < 2 ^ 31) : xo32 (a : Int) (b : Int) = ((a ^^^ b : Nat) : Int) := by
  unfold xo32
  rw [bn_i, bn_i, bn_xor, nI_toInt (Nat.xor_lt_two_pow ha hb)]
theorem bi_sl : ∀ n : Nat, n < 31 → sl32 1 (n : Int) = ((2 ^ n : Nat) : Int) := by decide +kernel
theorem bn_s : ∀ n, n < 32 → ((nI n &&& 31).toBitVec.smod 32).toNat = n := by decide +kernel
theorem bi_sr {a n : Nat} (ha : a < 2 ^ 31) (hn : n < 32) : sr32 (a : Int) (n : Int) = ((a / 2 ^ n : Nat) : Int) := by
  unfold sr32
  rw [bn_i, bn_i]
  have e : nI a >>> (nI n &&& 31) = nI (a / 2 ^ n) := pk_shrN ha _ n (bn_s n hn)
  rw [e, nI_toInt (Nat.lt_of_le_of_lt (Nat.div_le_self _ _) ha)]
theorem bi_bit {a n : Nat} (ha : a < 2 ^ 31) (hn : n < 32) : an32 (sr32 (a : Int) (n : Int)) 1 = if a.testBit n = true then 1 else 0 := by
  rw [bi_sr ha hn, show (1 : Int) = ((1 : Nat) : Int) from rfl, bi_and (Nat.lt_of_le_of_lt (Nat.div_le_self _ _) ha), Nat.and_one_is_mod, Nat.testBit_eq_decide_div_mod_eq]
  have := Nat.mod_two_eq_zero_or_one (a / 2 ^ n)
  by_cases c : a / 2 ^ n % 2 = 1
  · rw [if_pos (decide_eq_true c), c]
  · rw [if_neg (by rw [decide_eq_false c]; decide)]; omega
theorem and_2p (a n : Nat) : a &&& 2 ^ n = if a.testBit n = true then 2 ^ n else 0 := by
  apply Nat.eq_of_testBit_eq
  intro i
  rw [Nat.testBit_and, Nat.testBit_two_pow]
  by_cases e : n = i
  · subst e
    rw [decide_eq_true rfl, Bool.and_true]
    cases h : a.testBit n
    · rw [if_neg (by decide), Nat.zero_testBit]
    · rw [if_pos rfl, Nat.testBit_two_pow_self]
  · rw [decide_eq_false e, Bool.and_false]
    by_cases h : a.testBit n = true
    · rw [if_pos h, Nat.testBit_two_pow_of_ne e]
    · rw [if_neg h, Nat.zero_testBit]
theorem bi_tst {a n : Nat} (ha : a < 2 ^ 31) (hn : n < 31) : an32 (a : Int) (sl32 1 (n : Int)) = 0 ↔ a.testBit n = false := by
  rw [bi_sl n hn, bi_and ha, and_2p]
  have := Nat.two_pow_pos n
  cases h : a.testBit n
  · exact ⟨fun _ => rfl, fun _ => rfl⟩
  · rw [if_pos rfl]
    exact ⟨fun z => by omega, fun z => by cases z⟩
theorem bi_tstr {a n : Nat} (ha : a < 2 ^ 30) (hn : n < 31) : 0 ≤ an32 (a : Int) (sl32 1 (n : Int)) ∧ an32 (a : Int) (sl32 1 (n : Int)) < 2147483648 := by
  rw [bi_sl n hn, bi_and (by omega)]
  have := Nat.and_le_left (n := a) (m := 2 ^ n)
  omega
/-- the number whose bits are those of p, below n -/
def mk (p : Nat → Bool) : Nat → Nat
  | 0 => 0
  | n + 1 => if p n then mk p n + 2 ^ n else mk p n
theorem mk_lt (p : Nat → Bool) : ∀ n, mk p n < 2 ^ n := by
  intro n
  induction n with
  | zero => show 0 < 1; omega
  | succ n ih =>
    rw [mk, Nat.pow_succ]
    split <;> omega
theorem mk_bit (p : Nat → Bool) : ∀ n i, i < n → (mk p n).testBit i = p i := by
  intro n
  induction n with
  | zero => intro i h; omega
  | succ n ih =>
    intro i h
    have hl := mk_lt p n
    rw [mk]
    by_cases e : i = n
    · subst e
      cases hp : p i
      · rw [if_neg (by decide)]
        exact Nat.testBit_lt_two_pow hl
      · rw [if_pos rfl, Nat.add_comm, Nat.testBit_two_pow_add_eq, Nat.testBit_lt_two_pow hl]; rfl
    · by_cases hp : p n = true
      · rw [if_pos hp, Nat.add_comm, Nat.testBit_two_pow_add_gt (by omega)]
        exact ih i (by omega)
      · rw [if_neg hp]; exact ih i (by omega)
