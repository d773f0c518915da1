def eqR (f g : Int → Int) (k : Int) : Nat → Bool
  | 0 => true
  | m + 1 => decide (f k = g k) && eqR f g (k + 1) m
theorem eqR_sym (f g : Int → Int) : ∀ (m : Nat) (k : Int), eqR f g k m = eqR g f k m := by
  intro m
  induction m with
  | zero => intro k; rfl
  | succ m ih =>
    intro k
    rw [eqR, eqR, ih]
    have e : decide (f k = g k) = decide (g k = f k) := by
      by_cases c : f k = g k
      · rw [decide_eq_true c, decide_eq_true c.symm]
      · rw [decide_eq_false c, decide_eq_false (fun z => c z.symm)]
    rw [e]
/-- do two names SOUND alike -/
def al (d : St) (a b : Int) : Int := b01 (sm d a = sm d b ∧ eqR (sf d a) (sf d b) 0 (sm d a).toNat = true)
theorem al_r (d : St) (a b : Int) : 0 ≤ al d a b ∧ al d a b ≤ 1 := b01_r
theorem al_sym (d : St) (a b : Int) : al d a b = al d b a := by
  unfold al
  refine b01_c ⟨fun h => ?_, fun h => ?_⟩
  · exact ⟨h.1.symm, by rw [← h.1, eqR_sym]; exact h.2⟩
  · exact ⟨h.1.symm, by rw [← h.1, eqR_sym]; exact h.2⟩
theorem m_reads_1 (N : Nat) {d σ : St} (h : RM1 d σ) : m_reads N σ = some (0, σ) := by
  unfold m_reads
  rw [h.2.1, if_neg (by decide)]
theorem m_soundOf_1 (N : Nat) (hN : 100 < N) {d σ : St} (hm : RM1 d σ) (hd : DI d) {r o : Int} (h0 : 0 ≤ r) (h1 : r < d 0 1) (ho : o = 0 ∨ o = 1) : ∃ σ', m_soundOf N r o σ = some (0, σ') ∧ RM1 d σ' ∧ σ' 13 o = sm d r ∧ (∀ i, 0 ≤ i → i < sm d r → σ' 12 (10 * o + i) = sf d r i) ∧ (∀ x, x ≠ o → σ' 13 x = σ 13 x) ∧ (∀ x, (x < 10 * o ∨ 10 * o + 10 ≤ x) → σ' 12 x = σ 12 x) := by
  have hr := hd.row r h0 h1
  unfold m_soundOf
  rw [m_reads_1 N hm, bd_k]
  exact m_sound_in N hd h0 h1 ho N 0 σ (by omega) (by omega) hm (fun i a b => absurd b (by show ¬ i < 0; omega))
theorem m_al_in (N : Nat) {d σ : St} (hm : RM1 d σ) (hd : DI d) {a b : Int} (ha : 0 ≤ a ∧ a < d 0 1) (hb : 0 ≤ b ∧ b < d 0 1) (hn : sm d a = sm d b) (h13 : σ 13 0 = sm d a) (hs0 : ∀ i, 0 ≤ i → i < sm d a → σ 12 i = sf d a i) (hs1 : ∀ i, 0 ≤ i → i < sm d b → σ 12 (10 + i) = sf d b i) : ∀ (m : Nat) (k : Int) (j : Nat), 0 ≤ k → k + j = sm d a → j < m → itr (m_soundAlike_31 N) (fun _ _ => none) m k σ = some (b01 (eqR (sf d a) (sf d b) k j = true), σ) := by
  have r1 := sm_r hd ha.1 ha.2
  intro m
  induction m with
  | zero => intro k j h1 h2 h3; omega
  | succ m ih =>
    intro k j h1 h2 h3
    rw [itr_k, m_soundAlike_31, gd_k (by omega), h13]
    cases j with
    | zero => rw [if_pos ((le32_i (by omega) (by omega) (by omega) (by omega)).mpr (by omega)), b01_t (show eqR (sf d a) (sf d b) k 0 = true from rfl)]
    | succ j =>
      have s1 := sf_r hd ha.1 ha.2 k h1 (by omega)
      have s2 := sf_r hd hb.1 hb.2 k h1 (by omega)
      rw [if_neg (fun z => by rw [le32_i (by omega) (by omega) (by omega) (by omega)] at z; omega), gd_k (by omega), gd_k (by omega), hs0 k h1 (by omega), hs1 k h1 (by omega), eqR]
      simp (disch := omega) only [eq32_i]
      by_cases c : sf d a k = sf d b k
      · rw [if_pos c, ih (k + 1) j (by omega) (by omega) (by omega), decide_eq_true c, Bool.true_and]
      · rw [if_neg c, decide_eq_false c, Bool.false_and, b01_f (by decide)]
theorem m_soundAlike_e (N : Nat) (hN : 100 < N) {d σ : St} (hm : RM d σ) (hd : DI d) {a b : Int} (ha : 0 ≤ a ∧ a < d 0 1) (hb : 0 ≤ b ∧ b < d 0 1) : ∃ σ', m_soundAlike N a b σ = some (al d a b, σ') ∧ RM d σ' := by
  have r1 := sm_r hd ha.1 ha.2
  have r2 := sm_r hd hb.1 hb.2
  obtain ⟨σ1, e1, e2, e3, e4⟩ := m_soundOf_e N hN hm hd ha.1 ha.2 (Or.inl rfl)
  obtain ⟨σ2, g1, g2, g3, g4, g5, g6⟩ := m_soundOf_1 N hN e2 hd hb.1 hb.2 (Or.inr rfl)
  unfold m_soundAlike
  rw [e1, bd_k, g1, bd_k, gd_k (by omega), gd_k (by omega), g3, g5 0 (by decide), e3]
  simp (disch := omega) only [eq32_i]
  refine ⟨σ2, ?_, g2.1⟩
  unfold al
  by_cases c : sm d a = sm d b
  · rw [if_pos c, m_al_in N g2 hd ha hb c (by rw [g5 0 (by decide)]; exact e3) (fun i h1 h2 => by rw [g6 i (by omega)]; have := e4 i h1 h2; rw [show (10 : Int) * 0 + i = i by omega] at this; exact this) (fun i h1 h2 => by have := g4 i h1 h2; rw [show (10 : Int) * 1 + i = 10 + i by omega] at this; exact this) N 0 (sm d a).toNat (by omega) (by omega) (by omega)]
    rw [b01_c (show (eqR (sf d a) (sf d b) 0 (sm d a).toNat = true) ↔ (sm d a = sm d b ∧ eqR (sf d a) (sf d b) 0 (sm d a).toNat = true) from ⟨fun h => ⟨c, h⟩, fun h => h.2⟩)]
  · rw [if_neg c, b01_f (fun z => c z.1)]
theorem x_al_in (N : Nat) {d σ : St} (hx : RX d σ) (hd : DI d) {a b : Int} (ha : 0 ≤ a ∧ a < d 0 1) (hb : 0 ≤ b ∧ b < d 0 1) (hn : sm d a = sm d b) : ∀ (m : Nat) (k : Int) (j : Nat), 0 ≤ k → k + j = sm d a → j < m → itr (x_Sounds_areAlike_19 N a b) (fun _ _ => none) m k σ = some (b01 (eqR (sf d a) (sf d b) k j = true), σ) := by
  have r1 := sm_r hd ha.1 ha.2
  have hR := hd.rows
  intro m
  induction m with
  | zero => intro k j h1 h2 h3; omega
  | succ m ih =>
    intro k j h1 h2 h3
    rw [itr_k, x_Sounds_areAlike_19, gd_k (by omega), (hx.snd a ha.1 ha.2).1]
    cases j with
    | zero => rw [if_pos ((le32_i (by omega) (by omega) (by omega) (by omega)).mpr (by omega)), b01_t (show eqR (sf d a) (sf d b) k 0 = true from rfl)]
    | succ j =>
      have s1 := sf_r hd ha.1 ha.2 k h1 (by omega)
      have s2 := sf_r hd hb.1 hb.2 k h1 (by omega)
      rw [if_neg (fun z => by rw [le32_i (by omega) (by omega) (by omega) (by omega)] at z; omega), gd_k (by omega), gd_k (by omega), (hx.snd a ha.1 ha.2).2 k h1 (by omega), (hx.snd b hb.1 hb.2).2 k h1 (by omega), eqR]
      simp (disch := omega) only [eq32_i]
      by_cases c : sf d a k = sf d b k
      · rw [if_pos c, ih (k + 1) j (by omega) (by omega) (by omega), decide_eq_true c, Bool.true_and]
      · rw [if_neg c, decide_eq_false c, Bool.false_and, b01_f (by decide)]
theorem x_areAlike_e (N : Nat) (hN : 100 < N) {d σ : St} (hx : RX d σ) (hd : DI d) {a b : Int} (ha : 0 ≤ a ∧ a < d 0 1) (hb : 0 ≤ b ∧ b < d 0 1) : x_Sounds_areAlike N a b σ = some (al d a b, σ) := by
  have r1 := sm_r hd ha.1 ha.2
  have r2 := sm_r hd hb.1 hb.2
  have hR := hd.rows
  unfold x_Sounds_areAlike al
  rw [gd_k (by omega), gd_k (by omega), (hx.snd a ha.1 ha.2).1, (hx.snd b hb.1 hb.2).1]
  simp (disch := omega) only [eq32_i]
  by_cases c : sm d a = sm d b
  · rw [if_pos c, x_al_in N hx hd ha hb c N 0 (sm d a).toNat (by omega) (by omega) (by omega)]
    rw [b01_c (show (eqR (sf d a) (sf d b) 0 (sm d a).toNat = true) ↔ (sm d a = sm d b ∧ eqR (sf d a) (sf d b) 0 (sm d a).toNat = true) from ⟨fun h => ⟨c, h⟩, fun h => h.2⟩)]
  · rw [if_neg c, b01_f (fun z => c z.1)]
theorem sim_sound {N : Nat} (hN : 100 < N) {σx σm : St} (h : RR σx σm) : ∀ a : Int, i32 a → ∀ b : Int, i32 b → OKp RR (x_sound N a b σx) (m_sound N a b σm) := by
  obtain ⟨d, hx, hm, hd⟩ := h
  intro a ha b hb
  have hR := hd.rows
  unfold x_sound m_sound x_Sounds_lengthOf x_Sounds_signAt
  rw [x_Rows_has_e N ha hx hd, m_isRow_e N ha hm hd, bd_k, bd_k]
  simp only [b01_0, itn]
  by_cases c : 0 ≤ a ∧ a < d 0 1
  · have r1 := sm_r hd c.1 c.2
    obtain ⟨σ1, e1, e2, e3, e4⟩ := m_soundOf_e N hN hm hd c.1 c.2 (Or.inl rfl)
    rw [if_pos c, if_pos c]
    simp (disch := omega) only [le32_i]
    by_cases c2 : 0 ≤ b
    · rw [if_pos c2, if_pos c2, gd_k (show inb a 36 by omega), bd_k, (hx.snd a c.1 c.2).1, e1, bd_k, gd_k (show inb 0 2 by omega), e3]
      simp (disch := omega) only [le32_i, lt32_i]
      by_cases c3 : b < sm d a
      · have := e4 b c2 c3
        rw [show (10 : Int) * 0 + b = b by omega] at this
        rw [if_pos c3, if_neg (by omega), gd_k (by omega), bd_k, gd_k (by omega), (hx.snd a c.1 c.2).2 b c2 c3, this]
        exact ⟨_, _, _, rfl, rfl, d, hx, e2.1, hd⟩
      · rw [if_neg c3, if_pos (by omega)]
        exact ⟨_, _, _, rfl, rfl, d, hx, e2.1, hd⟩
    · rw [if_neg c2, if_neg c2]
      exact ⟨_, _, _, rfl, rfl, d, hx, hm, hd⟩
  · rw [if_neg c, if_neg c]
    exact ⟨_, _, _, rfl, rfl, d, hx, hm, hd⟩
