/-! LAID: the reference's sums and mates -/
/-- the number of rows of a, of b -/
abbrev na (d : St) (a : Int) : Nat := (sz (kr d) a (d 0 1)).toNat
abbrev wm (d σ : St) : Nat → Nat → Int := wf d (σ 18) (σ 19)
theorem m_sums_e (N : Nat) (hN : 4999 < N) {d σ0 σ : St} {a b : Int} {Out : MM → Prop} (hd : DI d) (hp : sz (kr d) a (d 0 1) ≤ 10) (hq : sz (kr d) b (d 0 1) ≤ 10) (hL : LW d a b σ0 σ)
    (hO : ∀ s, LW d a b σ0 s → (∀ x S : Nat, x ≤ na d a → S < 2 ^ na d b → s 21 (1024 * (x : Int) + (S : Int)) = BB (na d a) (na d b) (wm d s) (na d a - x) S) → Out (bd (m_follows N s) (fun r416 s416 => some (1, s416)))) : Out (itr (m_lays_235 N) (fun _ _ => none) N (sz (kr d) a (d 0 1)) σ) := by
  have hR := hd.rows
  have hza := sz_r (kr d) a hR.1
  have hzb := sz_r (kr d) b hR.1
  have hna : ((na d a : Nat) : Int) = sz (kr d) a (d 0 1) := Int.toNat_of_nonneg hza.1
  have hnb : ((na d b : Nat) : Int) = sz (kr d) b (d 0 1) := Int.toNat_of_nonneg hzb.1
  have hwr : ∀ (s : St) (i j : Nat), 0 ≤ wm d s i j ∧ wm d s i j ≤ 801 := fun s i j => gn_r d _ _
  have hpq : 2 ^ na d b ≤ 1024 := Nat.le_trans (Nat.pow_le_pow_right (by omega) (show na d b ≤ 10 by omega)) (by decide)
  have hp0 := Nat.two_pow_pos (na d b)
  have esl : sl32 1 (sz (kr d) b (d 0 1)) = ((2 ^ na d b : Nat) : Int) := by
    have := bi_sl (na d b) (by omega)
    rw [show ((na d b : Nat) : Int) = sz (kr d) b (d 0 1) by omega] at this
    exact this
  refine lq1 (Out := Out) (Inv := fun v s => LW d a b σ0 s ∧ ∃ i : Nat, v = (i : Int) - 1 ∧ i ≤ na d a + 1 ∧ ∀ x S : Nat, i ≤ x → x ≤ na d a → S < 2 ^ na d b → s 21 (1024 * (x : Int) + (S : Int)) = BB (na d a) (na d b) (wm d s) (na d a - x) S) (fun v _ => v + 1) ?_ ?_ N _ σ ⟨hL, na d a + 1, by omega, by omega, fun x S hx hx2 => by omega⟩ (by omega)
  · rintro k v s ⟨h1, i, rfl, hi, h2⟩
    unfold m_lays_235
    by_cases c : i = 0
    · left
      rw [if_pos ((lt32_i (by omega) (by omega) (by omega) (by omega)).mpr (by omega))]
      exact hO s h1 (fun x S hx hS => h2 x S (by omega) hx hS)
    · right
      obtain ⟨x, rfl⟩ : ∃ x, i = x + 1 := ⟨i - 1, by omega⟩
      rw [if_neg (fun z => by rw [lt32_i (by omega) (by omega) (by omega) (by omega)] at z; omega), show ((x + 1 : Nat) : Int) - 1 = (x : Int) by omega]
      have key : ∃ s', itr (m_lays_242 N k (x : Int)) (fun _ _ => none) N 0 s = k ((x : Int) + (-1)) s' ∧ LW d a b σ0 s' ∧ ∀ y S : Nat, x ≤ y → y ≤ na d a → S < 2 ^ na d b → s' 21 (1024 * (y : Int) + (S : Int)) = BB (na d a) (na d b) (wm d s') (na d a - y) S := by
        refine lq1 (Out := fun z => ∃ s', z = k ((x : Int) + (-1)) s' ∧ LW d a b σ0 s' ∧ ∀ y S : Nat, x ≤ y → y ≤ na d a → S < 2 ^ na d b → s' 21 (1024 * (y : Int) + (S : Int)) = BB (na d a) (na d b) (wm d s') (na d a - y) S) (Inv := fun v s' => LW d a b σ0 s' ∧ ∃ T0 : Nat, v = T0 ∧ T0 ≤ 2 ^ na d b ∧ ∀ y S : Nat, (x < y ∨ (x = y ∧ S < T0)) → y ≤ na d a → S < 2 ^ na d b → s' 21 (1024 * (y : Int) + (S : Int)) = BB (na d a) (na d b) (wm d s') (na d a - y) S) (fun v _ => 1024 - v) ?_ ?_ N 0 s ⟨h1, 0, rfl, by omega, fun y S hy hy2 hS => h2 y S (by omega) hy2 hS⟩ (by omega)
        · rintro k2 v s' ⟨g1, V, rfl, hV, g2⟩
          unfold m_lays_242
          rw [g1.1.2.2.1, g1.1.2.1, esl]
          by_cases c2 : V = 2 ^ na d b
          · left
            rw [if_pos ((le32_i (by omega) (by omega) (by omega) (by omega)).mpr (by omega))]
            exact ⟨s', rfl, g1, fun y S hy hy2 hS => g2 y S (by omega) hy2 hS⟩
          · right
            rw [if_neg (fun z => by rw [le32_i (by omega) (by omega) (by omega) (by omega)] at z; omega)]
            -- what is found for this set is laid down
            have fin : ∀ t, t = BB (na d a) (na d b) (wm d s') (na d a - x) V → ∃ a' σ', m_lays_388 N k k2 x V t s' = k2 a' σ' ∧ (LW d a b σ0 σ' ∧ ∃ T0 : Nat, a' = T0 ∧ T0 ≤ 2 ^ na d b ∧ ∀ y S : Nat, (x < y ∨ (x = y ∧ S < T0)) → y ≤ na d a → S < 2 ^ na d b → σ' 21 (1024 * (y : Int) + (S : Int)) = BB (na d a) (na d b) (wm d σ') (na d a - y) S) ∧ 1024 - a' < 1024 - (V : Int) := by
              intro t ht
              unfold m_lays_388
              rw [gd_k (by omega)]
              refine ⟨(V : Int) + 1, _, rfl, ⟨LW_k (by decide) (by decide) (by decide) (by decide) (by decide) (by decide) (by decide) g1, V + 1, by omega, by omega, fun y S hy hy2 hS => ?_⟩, by omega⟩
              have ew : wm d (su s' 21 (1024 * (x : Int) + V) t) = wm d s' := by unfold wm; rw [su_k _ _ _ (show 18 ≠ 21 by decide), su_k _ _ _ (show 19 ≠ 21 by decide)]
              rw [ew, su_r]
              by_cases e : y = x ∧ S = V
              · rw [if_pos (by omega), e.1, e.2]; exact ht
              · rw [if_neg (by omega)]; exact g2 y S (by omega) hy2 hS
            by_cases c3 : x = na d a
            · rw [if_pos ((eq32_i (by omega) (by omega) (by omega) (by omega)).mpr (by omega))]
              obtain ⟨M, rfl⟩ : ∃ M, N = M + 1 := ⟨N - 1, by omega⟩
              have e : m_lays_280 (M + 1) k k2 (x : Int) V 0 s' = m_lays_388 (M + 1) k k2 x V 0 s' := by
                unfold m_lays_280
                rw [itr_k, m_lays_285, g1.1.2.1]
                by_cases z : le32 (s' 0 28) 0
                · rw [if_pos z]
                · rw [if_neg z, if_pos ((le32_i (by omega) (by omega) (by omega) (by omega)).mpr (by omega))]
              rw [e]
              exact fin 0 (by rw [show na d a - x = 0 by omega]; rfl)
            · have ek : na d a - x = (na d a - (x + 1)) + 1 := by omega
              have ei : na d a - ((na d a - (x + 1)) + 1) = x := by omega
              have e21 : s' 21 (1024 * ((x : Int) + 1) + (V : Int)) = BB (na d a) (na d b) (wm d s') (na d a - (x + 1)) V := by
                have := g2 (x + 1) V (by omega) (by omega) (by omega)
                rw [show ((x + 1 : Nat) : Int) = (x : Int) + 1 by omega] at this
                exact this
              have rB := BB_r (p := na d a) (q := na d b) (hwr s')
              rw [if_neg (fun z => by rw [eq32_i (by omega) (by omega) (by omega) (by omega)] at z; omega), gd_k (by omega), e21]
              unfold m_lays_280
              have kin : itr (m_lays_285 N k k2 (x : Int) (V : Int)) (fun _ _ _ => none) N (BB (na d a) (na d b) (wm d s') (na d a - (x + 1)) V) 0 s' = m_lays_388 N k k2 x V (BB (na d a) (na d b) (wm d s') (na d a - x) V) s' := by
                refine lq2 (Out := fun z => z = m_lays_388 N k k2 x V (BB (na d a) (na d b) (wm d s') (na d a - x) V) s') (Inv := fun t v s3 => s3 = s' ∧ ∃ j : Nat, v = j ∧ j ≤ na d b ∧ 0 ≤ t ∧ t ≤ 20000 ∧ t = mxv (fun j => wm d s' x j + BB (na d a) (na d b) (wm d s') (na d a - (x + 1)) (V ||| 2 ^ j)) (cc (wm d s') V x) (BB (na d a) (na d b) (wm d s') (na d a - (x + 1)) V) j) (fun _ v _ => na d b - v) ?_ ?_ N _ 0 s' ⟨rfl, 0, rfl, by omega, by have := rB (na d a - (x + 1)) V; omega, by have := rB (na d a - (x + 1)) V; omega, rfl⟩ (by omega)
                · rintro k3 t v s3 ⟨rfl, j, rfl, hj, t0, t1, ht⟩
                  unfold m_lays_285
                  rw [g1.1.2.2.1, g1.1.2.1]
                  by_cases c4 : j = na d b
                  · left
                    rw [if_pos ((le32_i (by omega) (by omega) (by omega) (by omega)).mpr (by omega)), ht, c4, ek]
                    show _ = m_lays_388 N k k2 x V (mxv _ _ _ _) s3
                    rw [ei]
                  · right
                    have hjb : (j : Int) < sz (kr d) b (d 0 1) := by omega
                    have e20 := g1.2 x j (by omega) hjb
                    have hw := hwr s3 x j
                    rw [if_neg (fun z => by rw [le32_i (by omega) (by omega) (by omega) (by omega)] at z; omega), if_neg (fun z => by rw [le32_i (by omega) (by omega) (by omega) (by omega)] at z; omega), gd_k (by omega), e20]
                    have fin0 : cc (wm d s3) V x j = false → ∃ a' b' σ', m_lays_363 N k k2 k3 x V t j s3 = k3 a' b' σ' ∧ (σ' = s3 ∧ ∃ j' : Nat, b' = j' ∧ j' ≤ na d b ∧ 0 ≤ a' ∧ a' ≤ 20000 ∧ a' = mxv (fun j => wm d s3 x j + BB (na d a) (na d b) (wm d s3) (na d a - (x + 1)) (V ||| 2 ^ j)) (cc (wm d s3) V x) (BB (na d a) (na d b) (wm d s3) (na d a - (x + 1)) V) j') ∧ (na d b : Int) - b' < na d b - (j : Int) := by
                      intro hc
                      unfold m_lays_363 m_lays_364 m_lays_380
                      rw [if_pos ((le32_i (by omega) (by omega) (by omega) (by omega)).mpr t0)]
                      exact ⟨t, (j : Int) + 1, s3, rfl, ⟨rfl, j + 1, by omega, by omega, t0, t1, by rw [mxv, hc, if_neg (by decide)]; exact ht⟩, by omega⟩
                    have ewf : wf d (s3 18) (s3 19) x j = wm d s3 x j := rfl
                    rw [ewf]
                    by_cases c5 : wm d s3 x j ≤ 0
                    · rw [if_pos ((le32_i (by omega) (by omega) (by omega) (by omega)).mpr c5)]
                      exact fin0 (by
                        cases z : cc (wm d s3) V x j
                        · rfl
                        · have := (cc_i.mp z).2; omega)
                    rw [if_neg (fun z => c5 ((le32_i (by omega) (by omega) (by omega) (by omega)).mp z)), bi_bit (by omega) (by omega)]
                    by_cases c6 : V.testBit j = true
                    · rw [if_pos c6, if_neg (show ¬ eq32 1 0 by decide)]
                      exact fin0 (by
                        cases z : cc (wm d s3) V x j
                        · rfl
                        · have := (cc_i.mp z).1; rw [c6] at this; exact Bool.noConfusion this)
                    · have hb := Bool.eq_false_iff.mpr c6
                      have hlt := or_lt (q := na d b) (show V < 2 ^ na d b by omega) (show j < na d b by omega)
                      have eor : or32 (V : Int) (sl32 1 (j : Int)) = ((V ||| 2 ^ j : Nat) : Int) := by
                        rw [bi_sl j (by omega), bi_or (by omega) (Nat.pow_lt_pow_right (by omega) (by omega))]
                      have e21' := g2 (x + 1) (V ||| 2 ^ j) (by omega) (by omega) hlt
                      rw [show ((x + 1 : Nat) : Int) = (x : Int) + 1 by omega] at e21'
                      have rb := rB (na d a - (x + 1)) (V ||| 2 ^ j)
                      rw [if_neg c6, if_pos (show eq32 0 0 from rfl), gd_k (by omega), eor, gd_k (by omega), e21']
                      unfold m_lays_364 m_lays_380
                      have hc := cc_i.mpr ⟨hb, show 0 < wm d s3 x j by omega⟩
                      by_cases c7 : wm d s3 x j + BB (na d a) (na d b) (wm d s3) (na d a - (x + 1)) (V ||| 2 ^ j) ≤ t
                      · rw [if_pos ((le32_i (by omega) (by omega) (by omega) (by omega)).mpr c7)]
                        exact ⟨t, (j : Int) + 1, s3, rfl, ⟨rfl, j + 1, by omega, by omega, t0, t1, by rw [mxv, if_pos hc, ← ht]; omega⟩, by omega⟩
                      · rw [if_neg (fun z => c7 ((le32_i (by omega) (by omega) (by omega) (by omega)).mp z))]
                        exact ⟨_, (j : Int) + 1, s3, rfl, ⟨rfl, j + 1, by omega, by omega, by omega, by omega, by rw [mxv, if_pos hc, ← ht]; omega⟩, by omega⟩
                · rintro t v s3 ⟨-, j, rfl, hj, -⟩; omega
              rw [kin]
              exact fin _ rfl
        · rintro v s' ⟨-, V, rfl, hV, -⟩; omega
      obtain ⟨s', q1, q2, q3⟩ := key
      exact ⟨(x : Int) + (-1), s', q1, ⟨q2, x, by omega, by omega, q3⟩, by omega⟩
  · rintro v s ⟨-, i, rfl, -⟩; omega
