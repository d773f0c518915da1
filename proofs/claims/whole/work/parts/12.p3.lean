theorem b01_c {p q : Prop} [Decidable p] [Decidable q] (h : p ↔ q) : b01 p = b01 q := by
  by_cases c : p
  · rw [b01_t c, b01_t (h.mp c)]
  · rw [b01_f c, b01_f (fun z => c (h.mpr z))]
theorem itn {p : Prop} [Decidable p] {α : Type} {a b : α} : (if ¬ p then a else b) = if p then b else a := by
  by_cases c : p
  · rw [if_neg (fun z => z c), if_pos c]
  · rw [if_pos c, if_neg c]
def tw (d : St) : Int := if d 0 10 = -1 then d 0 0 else d 0 10
/-- KNOWN -/
def kn (d : St) (r : Int) : Int := b01 (d 7 r ≤ tw d ∧ (d 8 r = -1 ∨ tw d < d 8 r))
theorem kn_r (d : St) (r : Int) : 0 ≤ kn d r ∧ kn d r ≤ 1 := b01_r
theorem x_Sheets_isSheet_e (N : Nat) {a : Int} (s : St) (h : i32 a) : x_Sheets_isSheet N a s = some (b01 (0 ≤ a ∧ a < 4), s) := by
  unfold x_Sheets_isSheet
  rw [x_isBelow_e N s h.1 h.2 (by omega) (by omega), bd_k, gd_k b01_bit]
theorem x_Sheets_isType_e (N : Nat) {a : Int} (s : St) (h : i32 a) : x_Sheets_isType N a s = some (b01 (0 ≤ a ∧ a < 3), s) := by
  unfold x_Sheets_isType
  rw [x_isBelow_e N s h.1 h.2 (by omega) (by omega), bd_k, gd_k b01_bit]
theorem m_isSheet_e (N : Nat) {a : Int} (s : St) (h : i32 a) : m_isSheet N a s = some (b01 (0 ≤ a ∧ a < 4), s) := by
  unfold m_isSheet
  rw [m_in_e N s h.1 h.2 (by omega) (by omega) (by omega) (by omega), bd_k, gd_k b01_bit, b01_c (show (0 ≤ a ∧ a ≤ 3) ↔ (0 ≤ a ∧ a < 4) by omega)]
theorem x_Rows_has_e (N : Nat) {a : Int} {d σ : St} (h : i32 a) (hx : RX d σ) (hd : DI d) : x_Rows_has N a σ = some (b01 (0 ≤ a ∧ a < d 0 1), σ) := by
  have := hd.rows
  unfold x_Rows_has
  rw [hx.rows, x_isBelow_e N σ h.1 h.2 (by omega) (by omega), bd_k, gd_k b01_bit]
theorem m_isRow_e (N : Nat) {a : Int} {d σ : St} (h : i32 a) (hm : RM d σ) (hd : DI d) : m_isRow N a σ = some (b01 (0 ≤ a ∧ a < d 0 1), σ) := by
  have := hd.rows
  unfold m_isRow
  rw [hm.2.1 1 rfl, m_in_e N σ h.1 h.2 (by omega) (by omega) (by omega) (by omega), bd_k, gd_k b01_bit, b01_c (show (0 ≤ a ∧ a ≤ d 0 1 - 1) ↔ (0 ≤ a ∧ a < d 0 1) by omega)]
abbrev two (d : St) (a b : Int) : Prop := (0 ≤ a ∧ a < d 0 1) ∧ (0 ≤ b ∧ b < d 0 1) ∧ a ≠ b
theorem x_Rows_arePair_e (N : Nat) {a b : Int} {d σ : St} (h : i32 a) (g : i32 b) (hx : RX d σ) (hd : DI d) : x_Rows_arePair N a b σ = some (b01 (two d a b), σ) := by
  unfold x_Rows_arePair
  rw [x_Rows_has_e N h hx hd, bd_k]
  simp only [b01_0, itn]
  by_cases c : 0 ≤ a ∧ a < d 0 1
  · rw [if_pos c, x_Rows_has_e N g hx hd, bd_k]
    simp only [b01_0, itn]
    by_cases c2 : 0 ≤ b ∧ b < d 0 1
    · rw [if_pos c2]
      simp (disch := omega) only [eq32_i]
      by_cases c3 : a = b
      · rw [if_pos c3, b01_f (fun z => z.2.2 c3)]
      · rw [if_neg c3, b01_t ⟨c, c2, c3⟩]
    · rw [if_neg c2, b01_f (fun z => c2 z.2.1)]
  · rw [if_neg c, b01_f (fun z => c z.1)]
theorem m_areTwo_e (N : Nat) {a b : Int} {d σ : St} (h : i32 a) (g : i32 b) (hm : RM d σ) (hd : DI d) : m_areTwo N a b σ = some (b01 (two d a b), σ) := by
  unfold m_areTwo
  rw [m_isRow_e N h hm hd, bd_k]
  simp only [b01_0, itn]
  by_cases c : 0 ≤ a ∧ a < d 0 1
  · rw [if_pos c, m_isRow_e N g hm hd, bd_k]
    simp only [b01_0, itn]
    by_cases c2 : 0 ≤ b ∧ b < d 0 1
    · rw [if_pos c2]
      simp (disch := omega) only [eq32_i]
      by_cases c3 : a = b
      · rw [if_pos c3, b01_f (fun z => z.2.2 c3)]
      · rw [if_neg c3, b01_t ⟨c, c2, c3⟩]
    · rw [if_neg c2, b01_f (fun z => c2 z.2.1)]
  · rw [if_neg c, b01_f (fun z => c z.1)]
section FA
variable {d σ : St} {r : Int} (N : Nat) (hx : RX d σ) (hd : DI d) (h0 : 0 ≤ r) (h1 : r < d 0 1)
theorem xf_0 {d σ : St} {r : Int} (N : Nat) (hx : RX d σ) (hd : DI d) (h0 : 0 ≤ r) (h1 : r < d 0 1) : x_Rows_fact N r 0 σ = some (d 1 r, σ) := by
  have := hd.rows
  unfold x_Rows_fact
  rw [gd_k (by omega), (hx.row r h0 h1).1]
theorem xf_1 {d σ : St} {r : Int} (N : Nat) (hx : RX d σ) (hd : DI d) (h0 : 0 ≤ r) (h1 : r < d 0 1) : x_Rows_fact N r 1 σ = some (d 4 r, σ) := by
  have := hd.rows
  unfold x_Rows_fact
  rw [gd_k (by omega), (hx.row r h0 h1).2.1]
theorem xf_2 {d σ : St} {r : Int} (N : Nat) (hx : RX d σ) (hd : DI d) (h0 : 0 ≤ r) (h1 : r < d 0 1) : x_Rows_fact N r 2 σ = some (d 5 r, σ) := by
  have := hd.rows
  unfold x_Rows_fact
  rw [gd_k (by omega), (hx.row r h0 h1).2.2.1]
theorem xf_3 {d σ : St} {r : Int} (N : Nat) (hx : RX d σ) (hd : DI d) (h0 : 0 ≤ r) (h1 : r < d 0 1) : x_Rows_fact N r 3 σ = some (d 6 r, σ) := by
  have := hd.rows
  unfold x_Rows_fact
  rw [gd_k (by omega), (hx.row r h0 h1).2.2.2.1]
theorem xf_4 {d σ : St} {r : Int} (N : Nat) (hx : RX d σ) (hd : DI d) (h0 : 0 ≤ r) (h1 : r < d 0 1) : x_Rows_fact N r 4 σ = some (d 3 r, σ) := by
  have := hd.rows
  unfold x_Rows_fact
  rw [gd_k (by omega), (hx.row r h0 h1).2.2.2.2.1]
theorem xf_5 {d σ : St} {r : Int} (N : Nat) (hx : RX d σ) (hd : DI d) (h0 : 0 ≤ r) (h1 : r < d 0 1) : x_Rows_fact N r 5 σ = some (d 7 r, σ) := by
  have := hd.rows
  unfold x_Rows_fact
  rw [gd_k (by omega), (hx.row r h0 h1).2.2.2.2.2.1]
theorem xf_6 {d σ : St} {r : Int} (N : Nat) (hx : RX d σ) (hd : DI d) (h0 : 0 ≤ r) (h1 : r < d 0 1) : x_Rows_fact N r 6 σ = some (d 8 r, σ) := by
  have := hd.rows
  unfold x_Rows_fact
  rw [gd_k (by omega), (hx.row r h0 h1).2.2.2.2.2.2]
end FA
theorem x_Rows_isKnown_e (N : Nat) {r : Int} {d σ : St} (hx : RX d σ) (hd : DI d) (h0 : 0 ≤ r) (h1 : r < d 0 1) : x_Rows_isKnown N r σ = some (kn d r, σ) := by
  have hr := hd.row r h0 h1
  have h2 := hd.day
  have h3 := hd.asof
  have key : ∀ t : Int, t = tw d → -1 ≤ t → t ≤ 399 → x_Rows_isKnown_19 N r t σ = some (kn d r, σ) := by
    intro t ht a1 a2
    unfold x_Rows_isKnown_19 x_Rows_isKnown_48
    rw [xf_6 N hx hd h0 h1, bd_k, xf_5 N hx hd h0 h1, bd_k]
    simp (disch := omega) only [lt32_i, eq32_i, le32_i]
    unfold kn
    rw [← ht]
    by_cases c : t < d 7 r
    · rw [if_pos c, b01_f (by omega)]
    · rw [if_neg c]
      by_cases c2 : d 8 r = -1
      · rw [if_pos c2, b01_t (by omega)]
      · rw [if_neg c2]
        by_cases c3 : d 8 r ≤ t
        · rw [if_pos c3, b01_f (by omega)]
        · rw [if_neg c3, b01_t (by omega)]
  unfold x_Rows_isKnown
  rw [hx.asof, hx.day]
  simp (disch := omega) only [eq32_i]
  by_cases c : d 0 10 = -1
  · rw [if_pos c, key _ (by unfold tw; rw [if_pos c]) (by omega) (by omega)]
  · rw [if_neg c, key _ (by unfold tw; rw [if_neg c]) (by omega) (by omega)]
theorem m_isKnown_e (N : Nat) {r : Int} {d σ : St} (hm : RM d σ) (hd : DI d) (h0 : 0 ≤ r) (h1 : r < d 0 1) : m_isKnown N r σ = some (kn d r, σ) := by
  have hr := hd.row r h0 h1
  have h2 := hd.day
  have h3 := hd.asof
  have h4 := hd.rows
  have key : ∀ t : Int, t = tw d → -1 ≤ t → t ≤ 399 → m_isKnown_19 N r t σ = some (kn d r, σ) := by
    intro t ht a1 a2
    unfold m_isKnown_19 m_isKnown_50
    rw [hm.1 7 rfl, hm.1 8 rfl]
    have g : inb r 36 := by omega
    simp only [gd_k g]
    simp (disch := omega) only [lt32_i, eq32_i, le32_i]
    unfold kn
    rw [← ht]
    by_cases c : t < d 7 r
    · rw [if_pos c, b01_f (by omega)]
    · rw [if_neg c]
      by_cases c2 : d 8 r = -1
      · rw [if_pos c2, b01_t (by omega)]
      · rw [if_neg c2]
        by_cases c3 : d 8 r ≤ t
        · rw [if_pos c3, b01_f (by omega)]
        · rw [if_neg c3, b01_t (by omega)]
  unfold m_isKnown
  rw [hm.2.1 10 rfl, hm.2.1 0 rfl]
  simp (disch := omega) only [eq32_i]
  by_cases c : d 0 10 = -1
  · rw [if_pos c, key _ (by unfold tw; rw [if_pos c]) (by omega) (by omega)]
  · rw [if_neg c, key _ (by unfold tw; rw [if_neg c]) (by omega) (by omega)]
theorem sim_asOf {N : Nat} {σx σm : St} (h : RR σx σm) : ∀ a : Int, i32 a → OKp RR (x_asOf N a σx) (m_asOf N a σm) := by
  obtain ⟨d, hx, hm, hd⟩ := h
  intro a ha
  have h1 := hd.day
  unfold x_asOf m_asOf
  rw [hx.day, hm.2.1 0 rfl, x_isWithin_e N σx (by omega) (by omega) (by omega) (by omega) (by omega) (by omega), m_in_e N σm (by omega) (by omega) (by omega) (by omega) (by omega) (by omega)]
  simp only [bd_k, b01_0, itn, hx.asof, hm.2.1 10 rfl]
  by_cases c : -1 ≤ a ∧ a ≤ d 0 0
  · rw [if_pos c, if_pos c]
    refine ⟨_, _, _, rfl, rfl, su d 0 10 a, RX_asof hx, RM_uj (by decide) (by decide) (by decide) hm, ?_⟩
    unfold DI at hd ⊢
    simp (disch := decide) only [su_k, su_e, su_n]
    exact ⟨hd.1, hd.2.1, by omega, hd.2.2.2⟩
  · rw [if_neg c, if_neg c]
    exact ⟨_, _, _, rfl, rfl, d, hx, hm, hd⟩
theorem sim_line {N : Nat} {σx σm : St} (h : RR σx σm) : ∀ a : Int, i32 a → OKp RR (x_line N a σx) (m_line N a σm) := by
  obtain ⟨d, hx, hm, hd⟩ := h
  intro a ha
  unfold x_line m_line
  rw [x_isWithin_e N σx (by omega) (by omega) (by omega) (by omega) (by omega) (by omega), m_in_e N σm (by omega) (by omega) (by omega) (by omega) (by omega) (by omega)]
  simp only [bd_k, b01_0, itn, hx.line, hm.2.1 24 rfl]
  by_cases c : -400 ≤ a ∧ a ≤ 400
  · rw [if_pos c, if_pos c]
    refine ⟨_, _, _, rfl, rfl, su d 0 24 a, RX_line hx, RM_uj (by decide) (by decide) (by decide) hm, ?_⟩
    unfold DI at hd ⊢
    simp (disch := decide) only [su_k, su_e, su_n]
    exact ⟨hd.1, hd.2.1, hd.2.2.1, hd.2.2.2.1, by omega, hd.2.2.2.2.2⟩
  · rw [if_neg c, if_neg c]
    exact ⟨_, _, _, rfl, rfl, d, hx, hm, hd⟩
