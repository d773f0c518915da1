/-! numbers: what the machine's comparisons say of integers in range -/
theorem t32 {x : Int} (a : -2147483648 ≤ x) (b : x < 2147483648) : (Int32.ofInt x).toInt = x := Int32.toInt_ofInt_of_le (by omega) (by omega)
theorem t64 {x : Int} (a : -9223372036854775808 ≤ x) (b : x < 9223372036854775808) : (Int64.ofInt x).toInt = x := Int64.toInt_ofInt_of_le (by omega) (by omega)
theorem lt32_i {x y : Int} (a : -2147483648 ≤ x) (b : x < 2147483648) (c : -2147483648 ≤ y) (d : y < 2147483648) : lt32 x y ↔ x < y := by
  unfold lt32; rw [Int32.lt_iff_toInt_lt, t32 a b, t32 c d]
theorem le32_i {x y : Int} (a : -2147483648 ≤ x) (b : x < 2147483648) (c : -2147483648 ≤ y) (d : y < 2147483648) : le32 x y ↔ x ≤ y := by
  unfold le32; rw [Int32.le_iff_toInt_le, t32 a b, t32 c d]
theorem eq32_i {x y : Int} (a : -2147483648 ≤ x) (b : x < 2147483648) (c : -2147483648 ≤ y) (d : y < 2147483648) : eq32 x y ↔ x = y := by
  unfold eq32; rw [← Int32.toInt_inj, t32 a b, t32 c d]
theorem lt64_i {x y : Int} (a : -9223372036854775808 ≤ x) (b : x < 9223372036854775808) (c : -9223372036854775808 ≤ y) (d : y < 9223372036854775808) : lt64 x y ↔ x < y := by
  unfold lt64; rw [Int64.lt_iff_toInt_lt, t64 a b, t64 c d]
theorem le64_i {x y : Int} (a : -9223372036854775808 ≤ x) (b : x < 9223372036854775808) (c : -9223372036854775808 ≤ y) (d : y < 9223372036854775808) : le64 x y ↔ x ≤ y := by
  unfold le64; rw [Int64.le_iff_toInt_le, t64 a b, t64 c d]
theorem eq64_i {x y : Int} (a : -9223372036854775808 ≤ x) (b : x < 9223372036854775808) (c : -9223372036854775808 ≤ y) (d : y < 9223372036854775808) : eq64 x y ↔ x = y := by
  unfold eq64; rw [← Int64.toInt_inj, t64 a b, t64 c d]
theorem s32_i {x : Int} (a : -2147483648 ≤ x) (b : x < 2147483648) : s32 x = x := t32 a b
theorem dv32_i {x y : Int} (a : 0 ≤ x) (b : x < 2147483648) (c : 0 < y) (d : y < 2147483648) : dv32 x y = x / y := by
  unfold dv32
  rw [Int32.toInt_div_of_ne_right _ _ (by intro h; have := congrArg Int32.toInt h; rw [t32 (by omega) d] at this; simp at this; omega), t32 (by omega) b, t32 (by omega) d, Int.tdiv_eq_ediv_of_nonneg a]
theorem dv64_i {x y : Int} (a : 0 ≤ x) (b : x < 9223372036854775808) (c : 0 < y) (d : y < 9223372036854775808) : dv64 x y = x / y := by
  unfold dv64
  rw [Int64.toInt_div_of_ne_right _ _ (by intro h; have := congrArg Int64.toInt h; rw [t64 (by omega) d] at this; simp at this; omega), t64 (by omega) b, t64 (by omega) d, Int.tdiv_eq_ediv_of_nonneg a]
theorem bd_k {r : Int} {s : St} {k : Int → St → MM} : bd (some (r, s)) k = k r s := rfl
theorem bd_e {x : MM} {r : Int} {s : St} {k : Int → St → MM} (h : x = some (r, s)) : bd x k = k r s := by rw [h]; rfl
theorem gd_k {c : Prop} [Decidable c] {k : MM} (h : c) : gd c k = k := by unfold gd; rw [if_pos h]
theorem itr_k {α : Type} (b : α → α) (z : α) (n : Nat) : itr b z (n + 1) = b (itr b z n) := rfl
/-- 0 or 1 for a truth -/
def b01 (p : Prop) [Decidable p] : Int := if p then 1 else 0
theorem b01_0 {p : Prop} [Decidable p] : eq32 (b01 p) 0 ↔ ¬ p := by
  unfold b01
  by_cases h : p
  · rw [if_pos h, eq32_i (by omega) (by omega) (by omega) (by omega)]; constructor
    · intro e; omega
    · intro e; exact absurd h e
  · rw [if_neg h, eq32_i (by omega) (by omega) (by omega) (by omega)]; constructor
    · intro _; exact h
    · intro _; rfl
theorem b01_bit {p : Prop} [Decidable p] : bit1 (b01 p) := by
  unfold b01; by_cases h : p
  · rw [if_pos h]; exact Or.inr rfl
  · rw [if_neg h]; exact Or.inl rfl
theorem b01_t {p : Prop} [Decidable p] (h : p) : b01 p = 1 := by unfold b01; rw [if_pos h]
theorem b01_f {p : Prop} [Decidable p] (h : ¬ p) : b01 p = 0 := by unfold b01; rw [if_neg h]
theorem b01_r {p : Prop} [Decidable p] : 0 ≤ b01 p ∧ b01 p ≤ 1 := by rcases @b01_bit p _ with h | h <;> rw [h] <;> omega
theorem su_e (σ : St) (k : Nat) (i v : Int) : su σ k i v k i = v := by rw [su_s]; simp
theorem su_n (σ : St) (k : Nat) (i v j : Int) (h : j ≠ i) : su σ k i v k j = σ k j := by rw [su_s]; simp [h]
theorem su_k (σ : St) {k k' : Nat} (i v : Int) (h : k' ≠ k) : su σ k i v k' = σ k' := su_o σ k i v k' h
theorem su_r (σ : St) (k : Nat) (i v j : Int) : su σ k i v k j = if j = i then v else σ k j := by rw [su_s]
/-! the methods that only compare -/
theorem m_in_e (N : Nat) {a b c : Int} (s : St) (h1 : -2147483648 ≤ a) (h2 : a < 2147483648) (h3 : -2147483648 ≤ b) (h4 : b < 2147483648) (h5 : -2147483648 ≤ c) (h6 : c < 2147483648) : m_in N a b c s = some (b01 (b ≤ a ∧ a ≤ c), s) := by
  unfold m_in
  simp (disch := omega) only [lt32_i]
  by_cases x : a < b
  · rw [if_pos x, b01_f (by omega)]
  · by_cases y : c < a
    · rw [if_neg x, if_pos y, b01_f (by omega)]
    · rw [if_neg x, if_neg y, b01_t (by omega)]
theorem x_isWithin_e (N : Nat) {a b c : Int} (s : St) (h1 : -2147483648 ≤ a) (h2 : a < 2147483648) (h3 : -2147483648 ≤ b) (h4 : b < 2147483648) (h5 : -2147483648 ≤ c) (h6 : c < 2147483648) : x_isWithin N a b c s = some (b01 (b ≤ a ∧ a ≤ c), s) := m_in_e N s h1 h2 h3 h4 h5 h6
theorem x_isBelow_e (N : Nat) {a b : Int} (s : St) (h1 : -2147483648 ≤ a) (h2 : a < 2147483648) (h3 : -2147483648 ≤ b) (h4 : b < 2147483648) : x_isBelow N a b s = some (b01 (0 ≤ a ∧ a < b), s) := by
  unfold x_isBelow
  simp (disch := omega) only [lt32_i, le32_i]
  by_cases x : a < 0
  · rw [if_pos x, b01_f (by omega)]
  · by_cases y : b ≤ a
    · rw [if_neg x, if_pos y, b01_f (by omega)]
    · rw [if_neg x, if_neg y, b01_t (by omega)]
/-! the state that both sides speak of: numbered as the reference's lasting cells -/
def pk (k : Nat) : Bool := (decide (1 ≤ k) && decide (k ≤ 10)) || k == 15 || k == 16 || k == 25 || k == 26 || k == 27 || (decide (33 ≤ k) && decide (k ≤ 36))
def pj (j : Int) : Bool := j == 0 || j == 1 || j == 10 || j == 12 || j == 24 || j == 37 || j == 51
/-- SOUNDS: the machine that reads the text (0 a group is due, 1 a letter or =, 2 a figure, 3 ; or the end) -/
def nx (q b : Int) : Int := if (q = 0 ∨ q = 1) ∧ 97 ≤ b ∧ b ≤ 122 then 1 else if q = 1 ∧ b = 61 then 2 else if q = 2 ∧ 48 ≤ b ∧ b ≤ 57 then 3 else if q = 3 ∧ b = 59 then 0 else -1
/-- is text[i] among the n first bytes' letters -/
def sn (t : Int → Int) (c : Int) : Nat → Bool
  | 0 => false
  | n + 1 => sn t c n || (decide (t n = c))
/-- what is due behind n bytes; -1: they can't go on so -/
def du (t : Int → Int) : Nat → Int
  | 0 => 0
  | n + 1 => if du t n = -1 then -1 else if nx (du t n) (t n) = -1 ∨ (97 ≤ t n ∧ t n ≤ 122 ∧ sn t (t n) n = true) then -1 else nx (du t n) (t n)
/-- the first place with which it can't go on, among n; n: none -/
def ff (t : Int → Int) : Nat → Nat
  | 0 => 0
  | n + 1 => if du t n = -1 then ff t n else if du t (n + 1) = -1 then n else n + 1
def ft (d : St) : Int := if du (d 10) (d 0 12).toNat = -1 then ff (d 10) (d 0 12).toNat else if du (d 10) (d 0 12).toNat = 3 then -1 else d 0 12
/-- the first figure among the m bytes from n on; -1: none -/
def fd (t : Int → Int) (n : Int) : Nat → Int
  | 0 => -1
  | m + 1 => if 48 ≤ t n ∧ t n ≤ 57 then t n else fd t (n + 1) m
/-- the first figure behind the first byte that is letter c, among the m bytes from n on -/
def gF (t : Int → Int) (c n : Int) : Nat → Int
  | 0 => -1
  | m + 1 => if t n = c + 97 then fd t (n + 1) m else gF t c (n + 1) m
def fg (d : St) (c : Int) : Int := if ft d = -1 then (if gF (d 10) c 0 (d 0 12).toNat = -1 then 0 else gF (d 10) c 0 (d 0 12).toNat) else 0
def RM (d σ : St) : Prop := (∀ k, pk k = true → σ k = d k) ∧ (∀ j, pj j = true → σ 0 j = d 0 j) ∧ (σ 0 15 = 0 ∨ (σ 0 15 = 1 ∧ σ 0 16 = ft d ∧ ∀ c, 0 ≤ c → c < 26 → σ 11 c = fg d c))
def DI (d : St) : Prop := (0 ≤ d 0 0 ∧ d 0 0 ≤ 399) ∧ (0 ≤ d 0 1 ∧ d 0 1 ≤ 36) ∧ (-1 ≤ d 0 10 ∧ d 0 10 ≤ 399) ∧ (0 ≤ d 0 12 ∧ d 0 12 ≤ 80) ∧ (-400 ≤ d 0 24 ∧ d 0 24 ≤ 400) ∧ (0 ≤ d 0 37 ∧ d 0 37 ≤ 40) ∧
  (∀ r, 0 ≤ r → r < d 0 1 → (0 ≤ d 1 r ∧ d 1 r ≤ 2) ∧ (1 ≤ d 3 r ∧ d 3 r ≤ 10) ∧ (d 4 r = -1 ∨ (1500 ≤ d 4 r ∧ d 4 r ≤ 1999)) ∧ (-1 ≤ d 5 r ∧ d 5 r ≤ 7) ∧ (-1 ≤ d 6 r ∧ d 6 r ≤ 1) ∧ (0 ≤ d 7 r ∧ d 7 r ≤ 399) ∧ (-1 ≤ d 8 r ∧ d 8 r ≤ 399)) ∧
  (∀ r k, 0 ≤ r → r < d 0 1 → 0 ≤ k → k < d 3 r → 97 ≤ d 2 (10 * r + k) ∧ d 2 (10 * r + k) ≤ 122) ∧
  (∀ i, 0 ≤ i → i < 64 → 0 ≤ d 9 i ∧ d 9 i ≤ 99) ∧ (∀ a b, 0 ≤ a → a < 8 → 0 ≤ b → b < 8 → d 9 (8 * a + b) = d 9 (8 * b + a)) ∧
  (∀ k, 0 ≤ k → k < d 0 12 → 0 ≤ d 10 k ∧ d 10 k ≤ 255) ∧
  (∀ i, 0 ≤ i → i < 16 → -100 ≤ d 15 i ∧ d 15 i ≤ 100) ∧ (∀ i, 0 ≤ i → i < 32 → 1 ≤ d 16 i ∧ d 16 i ≤ 1000) ∧
  (∀ k, 0 ≤ k → k < d 0 37 → (0 ≤ d 25 k ∧ d 25 k < d 0 1) ∧ (0 ≤ d 26 k ∧ d 26 k < d 0 1) ∧ d 25 k ≠ d 26 k ∧ (d 27 k = 0 ∨ d 27 k = 1)) ∧
  (∀ i, 0 ≤ i → i < 4 → (d 33 i = 0 ∨ d 33 i = 1) ∧ (0 ≤ d 34 i ∧ d 34 i ≤ 2) ∧ (0 ≤ d 35 i ∧ d 35 i ≤ 40)) ∧
  (∀ i, 0 ≤ i → i < 160 → -2147483648 ≤ d 36 i ∧ d 36 i < 2147483648)
section DIS
variable {d : St}
theorem DI.day (h : DI d) : 0 ≤ d 0 0 ∧ d 0 0 ≤ 399 := h.1
theorem DI.rows (h : DI d) : 0 ≤ d 0 1 ∧ d 0 1 ≤ 36 := h.2.1
theorem DI.asof (h : DI d) : -1 ≤ d 0 10 ∧ d 0 10 ≤ 399 := h.2.2.1
theorem DI.typed (h : DI d) : 0 ≤ d 0 12 ∧ d 0 12 ≤ 80 := h.2.2.2.1
theorem DI.line (h : DI d) : -400 ≤ d 0 24 ∧ d 0 24 ≤ 400 := h.2.2.2.2.1
theorem DI.chk (h : DI d) : 0 ≤ d 0 37 ∧ d 0 37 ≤ 40 := h.2.2.2.2.2.1
theorem DI.row (h : DI d) : ∀ r, 0 ≤ r → r < d 0 1 → (0 ≤ d 1 r ∧ d 1 r ≤ 2) ∧ (1 ≤ d 3 r ∧ d 3 r ≤ 10) ∧ (d 4 r = -1 ∨ (1500 ≤ d 4 r ∧ d 4 r ≤ 1999)) ∧ (-1 ≤ d 5 r ∧ d 5 r ≤ 7) ∧ (-1 ≤ d 6 r ∧ d 6 r ≤ 1) ∧ (0 ≤ d 7 r ∧ d 7 r ≤ 399) ∧ (-1 ≤ d 8 r ∧ d 8 r ≤ 399) := h.2.2.2.2.2.2.1
theorem DI.let (h : DI d) : ∀ r k, 0 ≤ r → r < d 0 1 → 0 ≤ k → k < d 3 r → 97 ≤ d 2 (10 * r + k) ∧ d 2 (10 * r + k) ≤ 122 := h.2.2.2.2.2.2.2.1
theorem DI.way (h : DI d) : ∀ i, 0 ≤ i → i < 64 → 0 ≤ d 9 i ∧ d 9 i ≤ 99 := h.2.2.2.2.2.2.2.2.1
theorem DI.ways (h : DI d) : ∀ a b, 0 ≤ a → a < 8 → 0 ≤ b → b < 8 → d 9 (8 * a + b) = d 9 (8 * b + a) := h.2.2.2.2.2.2.2.2.2.1
theorem DI.txt (h : DI d) : ∀ k, 0 ≤ k → k < d 0 12 → 0 ≤ d 10 k ∧ d 10 k ≤ 255 := h.2.2.2.2.2.2.2.2.2.2.1
theorem DI.pts (h : DI d) : ∀ i, 0 ≤ i → i < 16 → -100 ≤ d 15 i ∧ d 15 i ≤ 100 := h.2.2.2.2.2.2.2.2.2.2.2.1
theorem DI.chc (h : DI d) : ∀ i, 0 ≤ i → i < 32 → 1 ≤ d 16 i ∧ d 16 i ≤ 1000 := h.2.2.2.2.2.2.2.2.2.2.2.2.1
theorem DI.chks (h : DI d) : ∀ k, 0 ≤ k → k < d 0 37 → (0 ≤ d 25 k ∧ d 25 k < d 0 1) ∧ (0 ≤ d 26 k ∧ d 26 k < d 0 1) ∧ d 25 k ≠ d 26 k ∧ (d 27 k = 0 ∨ d 27 k = 1) := h.2.2.2.2.2.2.2.2.2.2.2.2.2.1
theorem DI.sh (h : DI d) : ∀ i, 0 ≤ i → i < 4 → (d 33 i = 0 ∨ d 33 i = 1) ∧ (0 ≤ d 34 i ∧ d 34 i ≤ 2) ∧ (0 ≤ d 35 i ∧ d 35 i ≤ 40) := h.2.2.2.2.2.2.2.2.2.2.2.2.2.2.1
theorem DI.itm (h : DI d) : ∀ i, 0 ≤ i → i < 160 → -2147483648 ≤ d 36 i ∧ d 36 i < 2147483648 := h.2.2.2.2.2.2.2.2.2.2.2.2.2.2.2
end DIS
