/-! KEYS -/
theorem or_f : ∀ n : Fin 64, or32 (n.val : Int) 0 = n.val ∧ (n.val < 2 → or32 (n.val : Int) 2 = n.val + 2) ∧ (n.val < 4 → or32 (n.val : Int) 4 = n.val + 4) ∧ (n.val < 8 → or32 (n.val : Int) 8 = n.val + 8) ∧ (n.val < 16 → or32 (n.val : Int) 16 = n.val + 16) ∧ (n.val < 32 → or32 (n.val : Int) 32 = n.val + 32) := by decide +kernel
theorem or_0 {x : Int} (h : 0 ≤ x) (h2 : x < 64) : or32 x 0 = x := by
  obtain ⟨n, rfl⟩ := Int.eq_ofNat_of_zero_le h
  exact (or_f ⟨n, by omega⟩).1
theorem or_2 {x : Int} (h : 0 ≤ x) (h2 : x < 2) : or32 x 2 = x + 2 := by
  obtain ⟨n, rfl⟩ := Int.eq_ofNat_of_zero_le h
  exact (or_f ⟨n, by omega⟩).2.1 (by show n < 2; omega)
theorem or_4 {x : Int} (h : 0 ≤ x) (h2 : x < 4) : or32 x 4 = x + 4 := by
  obtain ⟨n, rfl⟩ := Int.eq_ofNat_of_zero_le h
  exact (or_f ⟨n, by omega⟩).2.2.1 (by show n < 4; omega)
theorem or_8 {x : Int} (h : 0 ≤ x) (h2 : x < 8) : or32 x 8 = x + 8 := by
  obtain ⟨n, rfl⟩ := Int.eq_ofNat_of_zero_le h
  exact (or_f ⟨n, by omega⟩).2.2.2.1 (by show n < 8; omega)
theorem or_16 {x : Int} (h : 0 ≤ x) (h2 : x < 16) : or32 x 16 = x + 16 := by
  obtain ⟨n, rfl⟩ := Int.eq_ofNat_of_zero_le h
  exact (or_f ⟨n, by omega⟩).2.2.2.2.1 (by show n < 16; omega)
theorem or_32 {x : Int} (h : 0 ≤ x) (h2 : x < 32) : or32 x 32 = x + 32 := by
  obtain ⟨n, rfl⟩ := Int.eq_ofNat_of_zero_le h
  exact (or_f ⟨n, by omega⟩).2.2.2.2.2 (by show n < 32; omega)
/-- first letters alike; tens of years; places; last letters; sorts -/
def k1 (d : St) (a b : Int) : Int := b01 (d 2 (10 * a) = d 2 (10 * b))
def k2 (d : St) (a b : Int) : Int := b01 ((d 4 a ≠ -1 ∧ d 4 b ≠ -1) ∧ d 4 a / 10 = d 4 b / 10)
def k3 (d : St) (a b : Int) : Int := b01 (d 5 a ≠ -1 ∧ d 5 a = d 5 b)
def k4 (d : St) (a b : Int) : Int := b01 (d 2 (10 * a + (d 3 a - 1)) = d 2 (10 * b + (d 3 b - 1)))
def k5 (d : St) (a b : Int) : Int := b01 (d 2 (10 * a) = d 2 (10 * b) ∧ d 6 a ≠ -1 ∧ d 6 a = d 6 b)
def ak (d : St) (a b : Int) : Int := al d a b + 2 * k1 d a b + 4 * k2 d a b + 8 * k3 d a b + 16 * k4 d a b + 32 * k5 d a b
theorem ak_r (d : St) (a b : Int) : 0 ≤ ak d a b ∧ ak d a b < 64 := by
  have h0 := al_r d a b
  have h1 : 0 ≤ k1 d a b ∧ k1 d a b ≤ 1 := b01_r
  have h2 : 0 ≤ k2 d a b ∧ k2 d a b ≤ 1 := b01_r
  have h3 : 0 ≤ k3 d a b ∧ k3 d a b ≤ 1 := b01_r
  have h4 : 0 ≤ k4 d a b ∧ k4 d a b ≤ 1 := b01_r
  have h5 : 0 ≤ k5 d a b ∧ k5 d a b ≤ 1 := b01_r
  unfold ak; omega
theorem ak_sym (d : St) (a b : Int) : ak d a b = ak d b a := by
  unfold ak
  rw [al_sym d a b, show k1 d a b = k1 d b a from b01_c ⟨fun h => h.symm, fun h => h.symm⟩, show k2 d a b = k2 d b a from b01_c ⟨fun h => ⟨⟨h.1.2, h.1.1⟩, h.2.symm⟩, fun h => ⟨⟨h.1.2, h.1.1⟩, h.2.symm⟩⟩, show k3 d a b = k3 d b a from b01_c ⟨fun h => ⟨h.2 ▸ h.1, h.2.symm⟩, fun h => ⟨h.2 ▸ h.1, h.2.symm⟩⟩, show k4 d a b = k4 d b a from b01_c ⟨fun h => h.symm, fun h => h.symm⟩, show k5 d a b = k5 d b a from b01_c ⟨fun h => ⟨h.1.symm, h.2.2 ▸ h.2.1, h.2.2.symm⟩, fun h => ⟨h.1.symm, h.2.2 ▸ h.2.1, h.2.2.symm⟩⟩]
theorem yr10 {x : Int} (h : x = -1 ∨ (1500 ≤ x ∧ x ≤ 1999)) (h2 : x ≠ -1) : dv32 x 10 = x / 10 ∧ 0 ≤ x / 10 ∧ x / 10 < 200 := by
  have e : dv32 x 10 = x / 10 := dv32_i (by omega) (by omega) (by omega) (by omega)
  exact ⟨e, by omega, by omega⟩
theorem x_areAlikeIn_2 (N : Nat) {d σ : St} (hx : RX d σ) (hd : DI d) {a b : Int} (ha : 0 ≤ a ∧ a < d 0 1) (hb : 0 ≤ b ∧ b < d 0 1) : x_Rows_areAlikeIn N a b 2 σ = some (k3 d a b, σ) := by
  have h1 := hd.row a ha.1 ha.2
  have h2 := hd.row b hb.1 hb.2
  unfold x_Rows_areAlikeIn k3
  rw [xf_2 N hx hd ha.1 ha.2, bd_k, xf_2 N hx hd ha.1 ha.2, bd_k, xf_2 N hx hd hb.1 hb.2, bd_k]
  simp (disch := omega) only [eq32_i]
  by_cases c2 : d 5 a = -1
  · rw [if_pos c2, b01_f (fun z => z.1 c2)]
  · rw [if_neg c2]
    by_cases c3 : d 5 a = d 5 b
    · rw [if_pos c3, b01_t ⟨c2, c3⟩]
    · rw [if_neg c3, b01_f (fun z => c3 z.2)]
theorem x_areAlikeIn_3 (N : Nat) {d σ : St} (hx : RX d σ) (hd : DI d) {a b : Int} (ha : 0 ≤ a ∧ a < d 0 1) (hb : 0 ≤ b ∧ b < d 0 1) : x_Rows_areAlikeIn N a b 3 σ = some (b01 (d 6 a ≠ -1 ∧ d 6 a = d 6 b), σ) := by
  have h1 := hd.row a ha.1 ha.2
  have h2 := hd.row b hb.1 hb.2
  unfold x_Rows_areAlikeIn
  rw [xf_3 N hx hd ha.1 ha.2, bd_k, xf_3 N hx hd ha.1 ha.2, bd_k, xf_3 N hx hd hb.1 hb.2, bd_k]
  simp (disch := omega) only [eq32_i]
  by_cases c2 : d 6 a = -1
  · rw [if_pos c2, b01_f (fun z => z.1 c2)]
  · rw [if_neg c2]
    by_cases c3 : d 6 a = d 6 b
    · rw [if_pos c3, b01_t ⟨c2, c3⟩]
    · rw [if_neg c3, b01_f (fun z => c3 z.2)]
theorem x_lastLetter_e (N : Nat) {d σ : St} (hx : RX d σ) (hd : DI d) {a : Int} (ha : 0 ≤ a ∧ a < d 0 1) : x_Rows_lastLetter N a σ = some (d 2 (10 * a + (d 3 a - 1)), σ) := by
  have hR := hd.rows
  have h1 := hd.row a ha.1 ha.2
  unfold x_Rows_lastLetter x_Rows_letterAt
  rw [xf_4 N hx hd ha.1 ha.2, bd_k, gd_k (by omega), bd_k, hx.let a _ ha.1 ha.2 (by omega) (by omega)]
theorem x_decade_e (N : Nat) {d σ : St} (hx : RX d σ) (hd : DI d) {a b : Int} (ha : 0 ≤ a ∧ a < d 0 1) (hb : 0 ≤ b ∧ b < d 0 1) : x_Pairs_areOfOneDecade N a b σ = some (k2 d a b, σ) := by
  have h1 := hd.row a ha.1 ha.2
  have h2 := hd.row b hb.1 hb.2
  unfold x_Pairs_areOfOneDecade k2
  rw [xf_1 N hx hd ha.1 ha.2, bd_k, xf_1 N hx hd hb.1 hb.2, bd_k]
  simp (disch := omega) only [eq32_i]
  by_cases c1 : d 4 a = -1
  · rw [if_pos c1, b01_f (fun z => z.1.1 c1)]
  rw [if_neg c1]
  by_cases c2 : d 4 b = -1
  · rw [if_pos c2, b01_f (fun z => z.1.2 c2)]
  rw [if_neg c2]
  have y1 := yr10 h1.2.2.1 c1
  have y2 := yr10 h2.2.2.1 c2
  rw [y1.1, y2.1]
  simp (disch := omega) only [eq32_i]
  by_cases c3 : d 4 a / 10 = d 4 b / 10
  · rw [if_pos c3, b01_t ⟨⟨c1, c2⟩, c3⟩]
  · rw [if_neg c3, b01_f (fun z => c3 z.2)]
theorem x_alikeBy_e (N : Nat) (hN : 100 < N) {d σ : St} (hx : RX d σ) (hd : DI d) {a b : Int} (ha : 0 ≤ a ∧ a < d 0 1) (hb : 0 ≤ b ∧ b < d 0 1) : x_Pairs_alikeBy N a b σ = some (ak d a b, σ) := by
  have hR := hd.rows
  have h1 := hd.row a ha.1 ha.2
  have h2 := hd.row b hb.1 hb.2
  have l1 := hd.let a 0 ha.1 ha.2 (by omega) (by omega)
  have l2 := hd.let b 0 hb.1 hb.2 (by omega) (by omega)
  have l3 := hd.let a (d 3 a - 1) ha.1 ha.2 (by omega) (by omega)
  have l4 := hd.let b (d 3 b - 1) hb.1 hb.2 (by omega) (by omega)
  rw [Int.add_zero] at l1 l2
  have e157 : ∀ t, 0 ≤ t → t < 64 → x_Pairs_alikeBy_157 N t σ = some (t, σ) := fun t h0 h1 => by unfold x_Pairs_alikeBy_157; rw [or_0 h0 h1]
  have e130 : ∀ t0 t1, t0 = 16 * k4 d a b → 0 ≤ t1 → t1 < 16 → x_Pairs_alikeBy_130 N a b (k1 d a b) t0 t1 σ = some (t1 + 16 * k4 d a b + 32 * k5 d a b, σ) := by
    intro t0 t1 ht h0 h1'
    have q : 0 ≤ k4 d a b ∧ k4 d a b ≤ 1 := b01_r
    have e : or32 t1 t0 = t1 + 16 * k4 d a b := by
      rcases (show k4 d a b = 0 ∨ k4 d a b = 1 by omega) with z | z
      · rw [ht, z, Int.mul_zero, or_0 h0 (by omega), Int.add_zero]
      · rw [ht, z, Int.mul_one, or_16 h0 h1']
    unfold x_Pairs_alikeBy_130
    rw [x_areAlikeIn_3 N hx hd ha hb, bd_k, e, e157 _ (by omega) (by omega), or_32 (by omega) (by omega)]
    unfold k1 k5
    simp only [b01_0, itn]
    by_cases c1 : d 2 (10 * a) = d 2 (10 * b)
    · rw [if_pos c1]
      by_cases c2 : d 6 a ≠ -1 ∧ d 6 a = d 6 b
      · rw [if_pos c2, b01_t ⟨c1, c2⟩, Int.mul_one]
      · rw [if_neg c2, b01_f (fun z => c2 z.2), Int.mul_zero, Int.add_zero]
    · rw [if_neg c1, b01_f (fun z => c1 z.1), Int.mul_zero, Int.add_zero]
  have e100 : ∀ t0 t1, t0 = 8 * k3 d a b → 0 ≤ t1 → t1 < 8 → x_Pairs_alikeBy_100 N a b (k1 d a b) t0 t1 σ = some (t1 + 8 * k3 d a b + 16 * k4 d a b + 32 * k5 d a b, σ) := by
    intro t0 t1 ht h0 h1'
    have q : 0 ≤ k3 d a b ∧ k3 d a b ≤ 1 := b01_r
    have e : or32 t1 t0 = t1 + 8 * k3 d a b := by
      rcases (show k3 d a b = 0 ∨ k3 d a b = 1 by omega) with z | z
      · rw [ht, z, Int.mul_zero, or_0 h0 (by omega), Int.add_zero]
      · rw [ht, z, Int.mul_one, or_8 h0 h1']
    unfold x_Pairs_alikeBy_100
    rw [x_lastLetter_e N hx hd ha, bd_k, x_lastLetter_e N hx hd hb, bd_k, e]
    simp (disch := omega) only [eq32_i]
    by_cases c : d 2 (10 * a + (d 3 a - 1)) = d 2 (10 * b + (d 3 b - 1))
    · rw [if_pos c]; exact e130 _ _ (by unfold k4; rw [b01_t c]; rfl) (by omega) (by omega)
    · rw [if_neg c]; exact e130 _ _ (by unfold k4; rw [b01_f c]; rfl) (by omega) (by omega)
  have e76 : ∀ t0 t1, t0 = 4 * k2 d a b → 0 ≤ t1 → t1 < 4 → x_Pairs_alikeBy_76 N a b (k1 d a b) t0 t1 σ = some (t1 + 4 * k2 d a b + 8 * k3 d a b + 16 * k4 d a b + 32 * k5 d a b, σ) := by
    intro t0 t1 ht h0 h1'
    have q : 0 ≤ k2 d a b ∧ k2 d a b ≤ 1 := b01_r
    have e : or32 t1 t0 = t1 + 4 * k2 d a b := by
      rcases (show k2 d a b = 0 ∨ k2 d a b = 1 by omega) with z | z
      · rw [ht, z, Int.mul_zero, or_0 h0 (by omega), Int.add_zero]
      · rw [ht, z, Int.mul_one, or_4 h0 h1']
    have q3 : 0 ≤ k3 d a b ∧ k3 d a b ≤ 1 := b01_r
    unfold x_Pairs_alikeBy_76
    rw [x_areAlikeIn_2 N hx hd ha hb, bd_k, e]
    simp (disch := omega) only [eq32_i]
    by_cases c : k3 d a b = 0
    · rw [if_pos c]; exact e100 _ _ (by rw [c]; rfl) (by omega) (by omega)
    · rw [if_neg c]; exact e100 _ _ (by rw [show k3 d a b = 1 by omega]; rfl) (by omega) (by omega)
  have e57 : ∀ t0 t1, t0 = 2 * k1 d a b → 0 ≤ t1 → t1 < 2 → x_Pairs_alikeBy_57 N a b (k1 d a b) t0 t1 σ = some (t1 + 2 * k1 d a b + 4 * k2 d a b + 8 * k3 d a b + 16 * k4 d a b + 32 * k5 d a b, σ) := by
    intro t0 t1 ht h0 h1'
    have q : 0 ≤ k1 d a b ∧ k1 d a b ≤ 1 := b01_r
    have e : or32 t1 t0 = t1 + 2 * k1 d a b := by
      rcases (show k1 d a b = 0 ∨ k1 d a b = 1 by omega) with z | z
      · rw [ht, z, Int.mul_zero, or_0 h0 (by omega), Int.add_zero]
      · rw [ht, z, Int.mul_one, or_2 h0 h1']
    have q3 : 0 ≤ k2 d a b ∧ k2 d a b ≤ 1 := b01_r
    unfold x_Pairs_alikeBy_57
    rw [x_decade_e N hx hd ha hb, bd_k, e]
    simp (disch := omega) only [eq32_i]
    by_cases c : k2 d a b = 0
    · rw [if_pos c]; exact e76 _ _ (by rw [c]; rfl) (by omega) (by omega)
    · rw [if_neg c]; exact e76 _ _ (by rw [show k2 d a b = 1 by omega]; rfl) (by omega) (by omega)
  have e44 : ∀ t, 0 ≤ t → t < 2 → x_Pairs_alikeBy_44 N a b (k1 d a b) t σ = some (t + 2 * k1 d a b + 4 * k2 d a b + 8 * k3 d a b + 16 * k4 d a b + 32 * k5 d a b, σ) := by
    intro t h0 h1'
    have q : 0 ≤ k1 d a b ∧ k1 d a b ≤ 1 := b01_r
    unfold x_Pairs_alikeBy_44
    by_cases c : k1 d a b = 0
    · rw [if_pos ((eq32_i (by omega) (by omega) (by omega) (by omega)).mpr c)]; exact e57 0 t (by rw [c]; rfl) h0 h1'
    · rw [if_neg (fun z => c ((eq32_i (by omega) (by omega) (by omega) (by omega)).mp z))]; exact e57 2 t (by rw [show k1 d a b = 1 by omega]; rfl) h0 h1'
  have e26 : x_Pairs_alikeBy_26 N a b (k1 d a b) σ = some (ak d a b, σ) := by
    have q := al_r d a b
    unfold x_Pairs_alikeBy_26 ak
    rw [x_areAlike_e N hN hx hd ha hb, bd_k]
    simp (disch := omega) only [eq32_i]
    by_cases c : al d a b = 0
    · rw [if_pos c, c]; exact e44 0 (by omega) (by omega)
    · rw [if_neg c, show al d a b = 1 by omega]; exact e44 1 (by omega) (by omega)
  have g1 := hx.let a 0 ha.1 ha.2 (by omega) (by omega)
  have g2 := hx.let b 0 hb.1 hb.2 (by omega) (by omega)
  unfold x_Pairs_alikeBy x_Rows_letterAt
  rw [gd_k (by omega), bd_k, gd_k (by omega), bd_k, g1, g2, Int.add_zero, Int.add_zero]
  simp (disch := omega) only [eq32_i]
  unfold k1 at e26
  by_cases c : d 2 (10 * a) = d 2 (10 * b)
  · rw [if_pos c]; rw [b01_t c] at e26; exact e26
  · rw [if_neg c]; rw [b01_f c] at e26; exact e26
theorem m_alikeBy_e (N : Nat) (hN : 100 < N) {d σ : St} (hm : RM d σ) (hd : DI d) {a b : Int} (ha : 0 ≤ a ∧ a < d 0 1) (hb : 0 ≤ b ∧ b < d 0 1) : ∃ σ', m_alikeBy N a b σ = some (ak d a b, σ') ∧ RM d σ' ∧ fr σ σ' := by
  have key : ∃ σ', m_alikeBy N a b σ = some (ak d a b, σ') ∧ RM d σ' := by
    have hR := hd.rows
    have h1 := hd.row a ha.1 ha.2
    have h2 := hd.row b hb.1 hb.2
    have l1 := hd.let a 0 ha.1 ha.2 (by omega) (by omega)
    have l2 := hd.let b 0 hb.1 hb.2 (by omega) (by omega)
    have l3 := hd.let a (d 3 a - 1) ha.1 ha.2 (by omega) (by omega)
    have l4 := hd.let b (d 3 b - 1) hb.1 hb.2 (by omega) (by omega)
    rw [Int.add_zero] at l1 l2
    obtain ⟨s, e1, e2⟩ := m_soundAlike_e N hN hm hd ha hb
    refine ⟨s, ?_, e2⟩
    have gA : inb a 36 := by omega
    have gB : inb b 36 := by omega
    have e185 : ∀ t0 t1, t0 = 16 * k4 d a b → 0 ≤ t1 → t1 < 16 → m_alikeBy_185 N a b (k1 d a b) t0 t1 s = some (t1 + 16 * k4 d a b + 32 * k5 d a b, s) := by
      intro t0 t1 ht h0 h1'
      have q : 0 ≤ k4 d a b ∧ k4 d a b ≤ 1 := b01_r
      have e : or32 t1 t0 = t1 + 16 * k4 d a b := by
        rcases (show k4 d a b = 0 ∨ k4 d a b = 1 by omega) with z | z
        · rw [ht, z, Int.mul_zero, or_0 h0 (by omega), Int.add_zero]
        · rw [ht, z, Int.mul_one, or_16 h0 h1']
      unfold m_alikeBy_185
      rw [e2.1 6 rfl, gd_k gA, gd_k gA, gd_k gB, e, or_0 (by omega) (by omega), or_32 (by omega) (by omega)]
      unfold k1 k5
      simp only [b01_0, itn]
      simp (disch := omega) only [eq32_i]
      by_cases c1 : d 2 (10 * a) = d 2 (10 * b)
      · rw [if_pos c1]
        by_cases c2 : d 6 a = -1
        · rw [if_pos c2, b01_f (fun z => z.2.1 c2), Int.mul_zero, Int.add_zero]
        · rw [if_neg c2]
          by_cases c3 : d 6 a = d 6 b
          · rw [if_pos c3, b01_t ⟨c1, c2, c3⟩, Int.mul_one]
          · rw [if_neg c3, b01_f (fun z => c3 z.2.2), Int.mul_zero, Int.add_zero]
      · rw [if_neg c1, b01_f (fun z => c1 z.1), Int.mul_zero, Int.add_zero]
    have e137 : ∀ t0 t1, t0 = 8 * k3 d a b → 0 ≤ t1 → t1 < 8 → m_alikeBy_137 N a b (k1 d a b) t0 t1 s = some (t1 + 8 * k3 d a b + 16 * k4 d a b + 32 * k5 d a b, s) := by
      intro t0 t1 ht h0 h1'
      have q : 0 ≤ k3 d a b ∧ k3 d a b ≤ 1 := b01_r
      have e : or32 t1 t0 = t1 + 8 * k3 d a b := by
        rcases (show k3 d a b = 0 ∨ k3 d a b = 1 by omega) with z | z
        · rw [ht, z, Int.mul_zero, or_0 h0 (by omega), Int.add_zero]
        · rw [ht, z, Int.mul_one, or_8 h0 h1']
      unfold m_alikeBy_137
      rw [e2.1 3 rfl, e2.1 2 rfl, gd_k gA, gd_k gB, gd_k (by omega), gd_k (by omega), e, show 10 * a + d 3 a - 1 = 10 * a + (d 3 a - 1) by omega, show 10 * b + d 3 b - 1 = 10 * b + (d 3 b - 1) by omega]
      simp (disch := omega) only [eq32_i]
      by_cases c : d 2 (10 * a + (d 3 a - 1)) = d 2 (10 * b + (d 3 b - 1))
      · rw [if_pos c]; exact e185 _ _ (by unfold k4; rw [b01_t c]; rfl) (by omega) (by omega)
      · rw [if_neg c]; exact e185 _ _ (by unfold k4; rw [b01_f c]; rfl) (by omega) (by omega)
    have e103 : ∀ t0 t1, t0 = 4 * k2 d a b → 0 ≤ t1 → t1 < 4 → m_alikeBy_103 N a b (k1 d a b) t0 t1 s = some (t1 + 4 * k2 d a b + 8 * k3 d a b + 16 * k4 d a b + 32 * k5 d a b, s) := by
      intro t0 t1 ht h0 h1'
      have q : 0 ≤ k2 d a b ∧ k2 d a b ≤ 1 := b01_r
      have e : or32 t1 t0 = t1 + 4 * k2 d a b := by
        rcases (show k2 d a b = 0 ∨ k2 d a b = 1 by omega) with z | z
        · rw [ht, z, Int.mul_zero, or_0 h0 (by omega), Int.add_zero]
        · rw [ht, z, Int.mul_one, or_4 h0 h1']
      unfold m_alikeBy_103 m_alikeBy_136
      rw [e2.1 5 rfl, gd_k gA, gd_k gA, gd_k gB, e]
      simp (disch := omega) only [eq32_i]
      by_cases c2 : d 5 a = -1
      · rw [if_pos c2]; exact e137 _ _ (by unfold k3; rw [b01_f (fun z => z.1 c2)]; rfl) (by omega) (by omega)
      · rw [if_neg c2]
        by_cases c3 : d 5 a = d 5 b
        · rw [if_pos c3]; exact e137 _ _ (by unfold k3; rw [b01_t ⟨c2, c3⟩]; rfl) (by omega) (by omega)
        · rw [if_neg c3]; exact e137 _ _ (by unfold k3; rw [b01_f (fun z => c3 z.2)]; rfl) (by omega) (by omega)
    have e54 : ∀ t0 t1, t0 = 2 * k1 d a b → 0 ≤ t1 → t1 < 2 → m_alikeBy_54 N a b (k1 d a b) t0 t1 s = some (t1 + 2 * k1 d a b + 4 * k2 d a b + 8 * k3 d a b + 16 * k4 d a b + 32 * k5 d a b, s) := by
      intro t0 t1 ht h0 h1'
      have q : 0 ≤ k1 d a b ∧ k1 d a b ≤ 1 := b01_r
      have e : or32 t1 t0 = t1 + 2 * k1 d a b := by
        rcases (show k1 d a b = 0 ∨ k1 d a b = 1 by omega) with z | z
        · rw [ht, z, Int.mul_zero, or_0 h0 (by omega), Int.add_zero]
        · rw [ht, z, Int.mul_one, or_2 h0 h1']
      unfold m_alikeBy_54 m_alikeBy_102
      rw [e2.1 4 rfl, gd_k gA, gd_k gB, gd_k gA, gd_k gB, e]
      simp (disch := omega) only [eq32_i]
      by_cases c1 : d 4 a = -1
      · rw [if_pos c1]; exact e103 _ _ (by unfold k2; rw [b01_f (fun z => z.1.1 c1)]; rfl) (by omega) (by omega)
      rw [if_neg c1]
      by_cases c2 : d 4 b = -1
      · rw [if_pos c2]; exact e103 _ _ (by unfold k2; rw [b01_f (fun z => z.1.2 c2)]; rfl) (by omega) (by omega)
      rw [if_neg c2]
      have y1 := yr10 h1.2.2.1 c1
      have y2 := yr10 h2.2.2.1 c2
      rw [y1.1, y2.1]
      simp (disch := omega) only [eq32_i]
      by_cases c3 : d 4 a / 10 = d 4 b / 10
      · rw [if_pos c3]; exact e103 _ _ (by unfold k2; rw [b01_t ⟨⟨c1, c2⟩, c3⟩]; rfl) (by omega) (by omega)
      · rw [if_neg c3]; exact e103 _ _ (by unfold k2; rw [b01_f (fun z => c3 z.2)]; rfl) (by omega) (by omega)
    have e41 : ∀ t, 0 ≤ t → t < 2 → m_alikeBy_41 N a b t (k1 d a b) s = some (t + 2 * k1 d a b + 4 * k2 d a b + 8 * k3 d a b + 16 * k4 d a b + 32 * k5 d a b, s) := by
      intro t h0 h1'
      have q : 0 ≤ k1 d a b ∧ k1 d a b ≤ 1 := b01_r
      unfold m_alikeBy_41
      by_cases c : k1 d a b = 0
      · rw [if_pos ((eq32_i (by omega) (by omega) (by omega) (by omega)).mpr c)]; exact e54 0 t (by rw [c]; rfl) h0 h1'
      · rw [if_neg (fun z => c ((eq32_i (by omega) (by omega) (by omega) (by omega)).mp z))]; exact e54 2 t (by rw [show k1 d a b = 1 by omega]; rfl) h0 h1'
    have e14 : ∀ t, 0 ≤ t → t < 2 → m_alikeBy_14 N a b t s = some (t + 2 * k1 d a b + 4 * k2 d a b + 8 * k3 d a b + 16 * k4 d a b + 32 * k5 d a b, s) := by
      intro t h0 h1'
      have := e41 t h0 h1'
      unfold m_alikeBy_14
      rw [gd_k (by omega), gd_k (by omega), e2.1 2 rfl]
      simp (disch := omega) only [eq32_i]
      by_cases c : d 2 (10 * a) = d 2 (10 * b)
      · rw [if_pos c]; rw [show k1 d a b = 1 from b01_t c] at this ⊢; exact this
      · rw [if_neg c]; rw [show k1 d a b = 0 from b01_f c] at this ⊢; exact this
    have q := al_r d a b
    unfold m_alikeBy ak
    rw [e1, bd_k]
    simp (disch := omega) only [eq32_i]
    by_cases c : al d a b = 0
    · rw [if_pos c, c]; exact e14 0 (by omega) (by omega)
    · rw [if_neg c, show al d a b = 1 by omega]; exact e14 1 (by omega) (by omega)
  obtain ⟨σ', e1, e2⟩ := key
  exact ⟨σ', e1, e2, fk_m_alikeBy N a b σ _ _ e1⟩
/-- may they MEET -/
abbrev my (d : St) (a b : Int) : Prop := (kn d a = 1 ∧ kn d b = 1) ∧ d 1 a ≠ d 1 b
theorem x_unlike_e (N : Nat) {d σ : St} (hx : RX d σ) (hd : DI d) {a b : Int} (ha : 0 ≤ a ∧ a < d 0 1) (hb : 0 ≤ b ∧ b < d 0 1) : x_Rows_areOfUnlikeRegisters N a b σ = some (b01 (d 1 a ≠ d 1 b), σ) := by
  have h1 := hd.row a ha.1 ha.2
  have h2 := hd.row b hb.1 hb.2
  unfold x_Rows_areOfUnlikeRegisters
  rw [xf_0 N hx hd ha.1 ha.2, bd_k, xf_0 N hx hd hb.1 hb.2, bd_k]
  simp (disch := omega) only [eq32_i]
  by_cases c : d 1 a = d 1 b
  · rw [if_pos c, b01_f (fun z => z c)]
  · rw [if_neg c, b01_t c]
theorem m_mayMeet_e (N : Nat) {d σ : St} (hm : RM d σ) (hd : DI d) {a b : Int} (ha : 0 ≤ a ∧ a < d 0 1) (hb : 0 ≤ b ∧ b < d 0 1) : m_mayMeet N a b σ = some (b01 (my d a b), σ) := by
  have hR := hd.rows
  have h1 := hd.row a ha.1 ha.2
  have h2 := hd.row b hb.1 hb.2
  have kA := kn_r d a
  have kB := kn_r d b
  unfold m_mayMeet
  rw [m_isKnown_e N hm hd ha.1 ha.2, bd_k, m_isKnown_e N hm hd hb.1 hb.2, bd_k, gd_k (by omega), gd_k (by omega), hm.1 1 rfl]
  simp (disch := omega) only [eq32_i]
  by_cases c1 : kn d a = 0
  · rw [if_pos c1, b01_f (by omega)]
  rw [if_neg c1]
  by_cases c2 : kn d b = 0
  · rw [if_pos c2, b01_f (by omega)]
  rw [if_neg c2]
  by_cases c : d 1 a = d 1 b
  · rw [if_pos c, b01_f (fun z => z.2 c)]
  · rw [if_neg c, b01_t ⟨by omega, c⟩]
theorem an_f : ∀ n m : Fin 64, 0 ≤ an32 (n.val : Int) m.val ∧ an32 (n.val : Int) m.val < 64 := by decide +kernel
theorem an_r {x y : Int} (h : 0 ≤ x) (h2 : x < 64) (g : 0 ≤ y) (g2 : y < 64) : 0 ≤ an32 x y ∧ an32 x y < 64 := by
  obtain ⟨n, rfl⟩ := Int.eq_ofNat_of_zero_le h
  obtain ⟨m, rfl⟩ := Int.eq_ofNat_of_zero_le g
  exact an_f ⟨n, by omega⟩ ⟨m, by omega⟩
theorem sim_meet {N : Nat} (hN : 100 < N) {σx σm : St} (h : RR σx σm) : ∀ a : Int, i32 a → ∀ b : Int, i32 b → ∀ f : Int, i32 f → OKp RR (x_meet N a b f σx) (m_meet N a b f σm) := by
  obtain ⟨d, hx, hm, hd⟩ := h
  intro a ha b hb f hf
  unfold x_meet m_meet x_meet_71 x_asInt
  rw [x_Rows_arePair_e N ha hb hx hd, m_areTwo_e N ha hb hm hd, bd_k, bd_k]
  simp only [b01_0, itn]
  by_cases c : two d a b
  · rw [if_pos c, if_pos c, x_isWithin_e N σx hf.1 hf.2 (by omega) (by omega) (by omega) (by omega), m_in_e N σm hf.1 hf.2 (by omega) (by omega) (by omega) (by omega), bd_k, bd_k]
    simp only [b01_0, itn]
    by_cases cf : 0 ≤ f ∧ f ≤ 63
    · rw [if_pos cf, if_pos cf, x_areKnown_e N hx hd c.1 c.2.1, m_mayMeet_e N hm hd c.1 c.2.1, bd_k, bd_k, x_unlike_e N hx hd c.1 c.2.1, bd_k]
      simp only [b01_0, itn]
      obtain ⟨σ', e1, e2, e3⟩ := m_alikeBy_e N hN hm hd c.1 c.2.1
      have hak := ak_r d a b
      have han := an_r hak.1 hak.2 cf.1 (by omega)
      rw [x_alikeBy_e N hN hx hd c.1 c.2.1, e1, bd_k, bd_k]
      simp (disch := omega) only [eq32_i]
      by_cases c1 : kn d a = 1 ∧ kn d b = 1
      · rw [if_pos c1]
        by_cases c2 : d 1 a = d 1 b
        · rw [if_pos c2, if_neg (show ¬ my d a b from fun z => z.2 c2)]
          exact ⟨_, _, _, rfl, rfl, d, hx, hm, hd⟩
        · rw [if_neg c2, if_pos (show my d a b from ⟨c1, c2⟩)]
          by_cases c3 : an32 (ak d a b) f = 0
          · rw [if_pos c3, if_pos c3]
            exact ⟨_, _, _, rfl, rfl, d, hx, e2, hd⟩
          · rw [if_neg c3, if_neg c3]
            exact ⟨_, _, _, rfl, rfl, d, hx, e2, hd⟩
      · rw [if_neg c1, if_neg (show ¬ my d a b from fun z => c1 z.1)]
        exact ⟨_, _, _, rfl, rfl, d, hx, hm, hd⟩
    · rw [if_neg cf, if_neg cf]
      exact ⟨_, _, _, rfl, rfl, d, hx, hm, hd⟩
  · rw [if_neg c, if_neg c]
    exact ⟨_, _, _, rfl, rfl, d, hx, hm, hd⟩
