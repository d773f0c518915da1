/-! LAID: the reference's lists, gains, sums -/
theorem LO_k {d σ0 σ : St} {k : Nat} {i v : Int} (hk : pk k = false) (h0 : k ≠ 0) (h11 : k ≠ 11) (h17 : k ≠ 17) (h : LO d σ0 σ) : LO d σ0 (su σ k i v) :=
  ⟨RM_k hk h0 h11 h.1, by rw [su_k _ _ _ (Ne.symm h0)]; exact h.2.1, fun a b a0 a1 b0 b1 hab => by rw [su_k _ _ _ (Ne.symm h17)]; exact h.2.2.1 a b a0 a1 b0 b1 hab, fun z => by rw [su_k _ _ _ (Ne.symm h0)]; exact h.2.2.2 z⟩
theorem LO_j {d σ0 σ : St} {j v : Int} (hj : pj j = false) (h15 : j ≠ 15) (h16 : j ≠ 16) (h26 : j ≠ 26) (h : LO d σ0 σ) : LO d σ0 (su σ 0 j v) :=
  ⟨RM_j hj h15 h16 h.1, by rw [su_n _ _ _ _ _ (Ne.symm h26)]; exact h.2.1, fun a b a0 a1 b0 b1 hab => by rw [su_k _ _ _ (by decide)]; exact h.2.2.1 a b a0 a1 b0 b1 hab, fun z => by rw [su_n _ _ _ _ _ (Ne.symm h15)]; exact h.2.2.2 z⟩
theorem LO_fr {d σ0 σ σ' : St} (h : LO d σ0 σ) (hm : RM d σ') (hf : fr σ σ') : LO d σ0 σ' :=
  ⟨hm, (hf.2.1 26 (by decide) (by decide)).trans h.2.1, fun a b a0 a1 b0 b1 hab => by rw [hf.1 17 (by decide) (by decide) (by decide) (by decide) (by decide)]; exact h.2.2.1 a b a0 a1 b0 b1 hab, fun z => hf.2.2 (h.2.2.2 z)⟩
/-- what the reference has of two lists -/
def LM (d : St) (a b : Int) (σ0 σ : St) : Prop := LO d σ0 σ ∧ σ 0 27 = sz (kr d) a (d 0 1) ∧ σ 0 28 = sz (kr d) b (d 0 1) ∧ ML (d 0 1) (kr d) a (σ 18) ∧ ML (d 0 1) (kr d) b (σ 19)
theorem LM_k {d : St} {a b : Int} {σ0 σ : St} {k : Nat} {i v : Int} (hk : pk k = false) (h0 : k ≠ 0) (h11 : k ≠ 11) (h17 : k ≠ 17) (h18 : k ≠ 18) (h19 : k ≠ 19) (h : LM d a b σ0 σ) : LM d a b σ0 (su σ k i v) :=
  ⟨LO_k hk h0 h11 h17 h.1, by rw [su_k _ _ _ (Ne.symm h0)]; exact h.2.1, by rw [su_k _ _ _ (Ne.symm h0)]; exact h.2.2.1, by rw [su_k _ _ _ (Ne.symm h18)]; exact h.2.2.2.1, by rw [su_k _ _ _ (Ne.symm h19)]; exact h.2.2.2.2⟩
theorem LM_fr {d : St} {a b : Int} {σ0 σ σ' : St} (h : LM d a b σ0 σ) (hm : RM d σ') (hf : fr σ σ') : LM d a b σ0 σ' :=
  ⟨LO_fr h.1 hm hf, (hf.2.1 27 (by decide) (by decide)).trans h.2.1, (hf.2.1 28 (by decide) (by decide)).trans h.2.2.1, by rw [hf.1 18 (by decide) (by decide) (by decide) (by decide) (by decide)]; exact h.2.2.2.1, by rw [hf.1 19 (by decide) (by decide) (by decide) (by decide) (by decide)]; exact h.2.2.2.2⟩
/-- gains all there -/
def LW (d : St) (a b : Int) (σ0 σ : St) : Prop := LM d a b σ0 σ ∧ ∀ i j : Nat, (i : Int) < sz (kr d) a (d 0 1) → (j : Int) < sz (kr d) b (d 0 1) → σ 20 (10 * (i : Int) + (j : Int)) = wf d (σ 18) (σ 19) i j
theorem LW_k {d : St} {a b : Int} {σ0 σ : St} {k : Nat} {i v : Int} (hk : pk k = false) (h0 : k ≠ 0) (h11 : k ≠ 11) (h17 : k ≠ 17) (h18 : k ≠ 18) (h19 : k ≠ 19) (h20 : k ≠ 20) (h : LW d a b σ0 σ) : LW d a b σ0 (su σ k i v) :=
  ⟨LM_k hk h0 h11 h17 h18 h19 h.1, fun x y hx hy => by rw [su_k _ _ _ (Ne.symm h20), su_k _ _ _ (Ne.symm h18), su_k _ _ _ (Ne.symm h19)]; exact h.2 x y hx hy⟩
theorem m_lists_e (N : Nat) (hN : 100 < N) {d σ0 σ : St} {a b : Int} {Out : MM → Prop} (hd : DI d) (ha : 0 ≤ a ∧ a < 3) (hb : 0 ≤ b ∧ b < 3) (hab : a ≠ b) (hp : sz (kr d) a (d 0 1) ≤ 10) (hq : sz (kr d) b (d 0 1) ≤ 10) (hL : LO d σ0 σ) (h27 : σ 0 27 = 0) (h28 : σ 0 28 = 0)
    (hO : ∀ s, LM d a b σ0 s → Out (itr (m_lays_133 N) (fun _ _ => none) N 0 s)) : Out (itr (m_lays_38 N a b) (fun _ _ => none) N 0 σ) := by
  have hR := hd.rows
  refine lq1 (Out := Out) (Inv := fun r s => LO d σ0 s ∧ s 0 27 = sz (kr d) a r ∧ s 0 28 = sz (kr d) b r ∧ 0 ≤ r ∧ r ≤ d 0 1 ∧ (∀ x, 0 ≤ x → x < r → kr d x = a → s 18 (sz (kr d) a x) = x) ∧ ∀ x, 0 ≤ x → x < r → kr d x = b → s 19 (sz (kr d) b x) = x) (fun r _ => d 0 1 - r) ?_ ?_ N 0 σ ⟨hL, h27, h28, by omega, by omega, fun x _ _ => by omega, fun x _ _ => by omega⟩ (by omega)
  · rintro k r s ⟨h1, h2, h3, r0, r1, h4, h5⟩
    unfold m_lays_38
    rw [h1.1.2.1 1 rfl]
    by_cases c : d 0 1 ≤ r
    · left
      rw [if_pos ((le32_i (by omega) (by omega) (by omega) (by omega)).mpr c)]
      have e : r = d 0 1 := by omega
      rw [e] at h2 h3
      exact hO s ⟨h1, h2, h3, fun x x0 x1 => h4 x x0 (by omega), fun x x0 x1 => h5 x x0 (by omega)⟩
    · right
      have hk := kn_r d r
      have hr := hd.row r r0 (by omega)
      have za := sz_r (kr d) a r0
      have zb := sz_r (kr d) b r0
      have g : inb r 36 := by omega
      rw [if_neg (fun z => c ((le32_i (by omega) (by omega) (by omega) (by omega)).mp z)), m_isKnown_e N h1.1 hd r0 (by omega), bd_k, gd_k g, h1.1.1 1 rfl]
      have skip : kr d r ≠ a → kr d r ≠ b → ∃ a' σ', k (r + 1) s = k a' σ' ∧ (LO d σ0 σ' ∧ σ' 0 27 = sz (kr d) a a' ∧ σ' 0 28 = sz (kr d) b a' ∧ 0 ≤ a' ∧ a' ≤ d 0 1 ∧ (∀ x, 0 ≤ x → x < a' → kr d x = a → σ' 18 (sz (kr d) a x) = x) ∧ ∀ x, 0 ≤ x → x < a' → kr d x = b → σ' 19 (sz (kr d) b x) = x) ∧ d 0 1 - a' < d 0 1 - r := fun na nb => ⟨r + 1, s, rfl, ⟨h1, by rw [h2, sz_s _ _ r0, b01_f na, Int.add_zero], by rw [h3, sz_s _ _ r0, b01_f nb, Int.add_zero], by omega, by omega, fun x x0 x1 hx => by
        by_cases e : x = r
        · rw [e] at hx; exact absurd hx na
        · exact h4 x x0 (by omega) hx, fun x x0 x1 hx => by
        by_cases e : x = r
        · rw [e] at hx; exact absurd hx nb
        · exact h5 x x0 (by omega) hx⟩, by omega⟩
      have e87 : kr d r ≠ a → ∃ a' σ', m_lays_87 N k a b r s = k a' σ' ∧ (LO d σ0 σ' ∧ σ' 0 27 = sz (kr d) a a' ∧ σ' 0 28 = sz (kr d) b a' ∧ 0 ≤ a' ∧ a' ≤ d 0 1 ∧ (∀ x, 0 ≤ x → x < a' → kr d x = a → σ' 18 (sz (kr d) a x) = x) ∧ ∀ x, 0 ≤ x → x < a' → kr d x = b → σ' 19 (sz (kr d) b x) = x) ∧ d 0 1 - a' < d 0 1 - r := by
        intro na
        unfold m_lays_87 m_lays_125
        rw [m_isKnown_e N h1.1 hd r0 (by omega), bd_k, gd_k g, h1.1.1 1 rfl]
        by_cases c1 : kn d r = 0
        · rw [if_pos ((eq32_i (by omega) (by omega) (by omega) (by omega)).mpr c1)]
          exact skip na (fun z => by have := (kr_i hb.1).mp z; omega)
        rw [if_neg (fun z => c1 ((eq32_i (by omega) (by omega) (by omega) (by omega)).mp z))]
        by_cases c2 : d 1 r = b
        · have hrb : kr d r = b := (kr_i hb.1).mpr ⟨by omega, c2⟩
          have hlt := sz_lt (f := kr d) (b := b) r0 (show r < d 0 1 by omega) hrb
          rw [if_pos ((eq32_i (by omega) (by omega) (by omega) (by omega)).mpr c2), h3, gd_k (by omega), su_k _ _ _ (show 0 ≠ 19 by decide), h3]
          refine ⟨r + 1, _, rfl, ⟨LO_j (by decide) (by decide) (by decide) (by decide) (LO_k (by decide) (by decide) (by decide) (by decide) h1), by rw [su_n _ _ _ _ _ (by decide), su_k _ _ _ (by decide), h2, sz_s _ _ r0, b01_f na, Int.add_zero], by rw [su_e, sz_s _ _ r0, b01_t hrb], by omega, by omega, fun x x0 x1 hx => ?_, fun x x0 x1 hx => ?_⟩, by omega⟩
          · rw [su_k _ _ _ (by decide), su_k _ _ _ (by decide)]
            by_cases e : x = r
            · rw [e] at hx; exact absurd hx na
            · exact h4 x x0 (by omega) hx
          · rw [su_k _ _ _ (by decide), su_r]
            by_cases e : x = r
            · rw [if_pos (by rw [e]), e]
            · have := sz_lt (f := kr d) (b := b) x0 (show x < r by omega) hx
              rw [if_neg (by omega)]; exact h5 x x0 (by omega) hx
        · rw [if_neg (fun z => c2 ((eq32_i (by omega) (by omega) (by omega) (by omega)).mp z))]
          exact skip na (fun z => c2 ((kr_i hb.1).mp z).2)
      by_cases c1 : kn d r = 0
      · rw [if_pos ((eq32_i (by omega) (by omega) (by omega) (by omega)).mpr c1)]
        exact e87 (fun z => by have := (kr_i ha.1).mp z; omega)
      rw [if_neg (fun z => c1 ((eq32_i (by omega) (by omega) (by omega) (by omega)).mp z))]
      by_cases c2 : d 1 r = a
      · have hra : kr d r = a := (kr_i ha.1).mpr ⟨by omega, c2⟩
        have hlt := sz_lt (f := kr d) (b := a) r0 (show r < d 0 1 by omega) hra
        unfold m_lays_125
        rw [if_pos ((eq32_i (by omega) (by omega) (by omega) (by omega)).mpr c2), h2, gd_k (by omega), su_k _ _ _ (show 0 ≠ 18 by decide), h2]
        refine ⟨r + 1, _, rfl, ⟨LO_j (by decide) (by decide) (by decide) (by decide) (LO_k (by decide) (by decide) (by decide) (by decide) h1), by rw [su_e, sz_s _ _ r0, b01_t hra], by rw [su_n _ _ _ _ _ (by decide), su_k _ _ _ (by decide), h3, sz_s _ _ r0, b01_f (fun z => hab (hra.symm.trans z)), Int.add_zero], by omega, by omega, fun x x0 x1 hx => ?_, fun x x0 x1 hx => ?_⟩, by omega⟩
        · rw [su_k _ _ _ (by decide), su_r]
          by_cases e : x = r
          · rw [if_pos (by rw [e]), e]
          · have := sz_lt (f := kr d) (b := a) x0 (show x < r by omega) hx
            rw [if_neg (by omega)]; exact h4 x x0 (by omega) hx
        · rw [su_k _ _ _ (by decide), su_k _ _ _ (by decide)]
          by_cases e : x = r
          · rw [e] at hx; exact absurd (hra.symm.trans hx) hab
          · exact h5 x x0 (by omega) hx
      · rw [if_neg (fun z => c2 ((eq32_i (by omega) (by omega) (by omega) (by omega)).mp z))]
        exact e87 (fun z => c2 ((kr_i ha.1).mp z).2)
  · rintro r s ⟨-, -, -, r0, r1, -⟩; omega
theorem m_worths_e (N : Nat) (hN : 100 < N) {d σ0 σ : St} {a b : Int} {Out : MM → Prop} (hd : DI d) (ha : 0 ≤ a ∧ a < 3) (hb : 0 ≤ b ∧ b < 3) (hab : a ≠ b) (hp : sz (kr d) a (d 0 1) ≤ 10) (hq : sz (kr d) b (d 0 1) ≤ 10) (hL : LM d a b σ0 σ)
    (hO : ∀ s, LW d a b σ0 s → Out (itr (m_lays_235 N) (fun _ _ => none) N (sz (kr d) a (d 0 1)) s)) : Out (itr (m_lays_133 N) (fun _ _ => none) N 0 σ) := by
  have hR := hd.rows
  have hli := hd.line
  have hza := sz_r (kr d) a hR.1
  have hzb := sz_r (kr d) b hR.1
  refine lq1 (Out := Out) (Inv := fun x s => LM d a b σ0 s ∧ ∃ i : Nat, x = i ∧ (i : Int) ≤ sz (kr d) a (d 0 1) ∧ ∀ y j : Nat, y < i → (j : Int) < sz (kr d) b (d 0 1) → s 20 (10 * (y : Int) + (j : Int)) = wf d (s 18) (s 19) y j) (fun x _ => sz (kr d) a (d 0 1) - x) ?_ ?_ N 0 σ ⟨hL, 0, rfl, by omega, fun y j h => by omega⟩ (by omega)
  · rintro k x s ⟨h1, i, rfl, hi, h2⟩
    unfold m_lays_133
    rw [h1.2.1]
    by_cases c : sz (kr d) a (d 0 1) ≤ i
    · left
      rw [if_pos ((le32_i (by omega) (by omega) (by omega) (by omega)).mpr c)]
      exact hO s ⟨h1, fun y j hy hj => h2 y j (by omega) hj⟩
    · right
      rw [if_neg (fun z => c ((le32_i (by omega) (by omega) (by omega) (by omega)).mp z))]
      have key : ∃ s', itr (m_lays_144 N k (i : Int)) (fun _ _ => none) N 0 s = k ((i : Int) + 1) s' ∧ LM d a b σ0 s' ∧ ∀ y j : Nat, y < i + 1 → (j : Int) < sz (kr d) b (d 0 1) → s' 20 (10 * (y : Int) + (j : Int)) = wf d (s' 18) (s' 19) y j := by
        refine lq1 (Out := fun z => ∃ s', z = k ((i : Int) + 1) s' ∧ LM d a b σ0 s' ∧ ∀ y j : Nat, y < i + 1 → (j : Int) < sz (kr d) b (d 0 1) → s' 20 (10 * (y : Int) + (j : Int)) = wf d (s' 18) (s' 19) y j) (Inv := fun x s' => LM d a b σ0 s' ∧ ∃ n : Nat, x = n ∧ (n : Int) ≤ sz (kr d) b (d 0 1) ∧ ∀ y j : Nat, (y < i ∨ (y = i ∧ j < n)) → (j : Int) < sz (kr d) b (d 0 1) → s' 20 (10 * (y : Int) + (j : Int)) = wf d (s' 18) (s' 19) y j) (fun x _ => sz (kr d) b (d 0 1) - x) ?_ ?_ N 0 s ⟨h1, 0, rfl, by omega, fun y j h hj => h2 y j (by omega) hj⟩ (by omega)
        · rintro k2 x s' ⟨g1, n, rfl, hn, g2⟩
          unfold m_lays_144
          rw [g1.2.2.1]
          by_cases c2 : sz (kr d) b (d 0 1) ≤ n
          · left
            rw [if_pos ((le32_i (by omega) (by omega) (by omega) (by omega)).mpr c2)]
            exact ⟨s', rfl, g1, fun y j hy hj => g2 y j (by omega) hj⟩
          · right
            have mi := ML_i hR.1 g1.2.2.2.1 (i := i) (by omega) (by omega)
            have mj := ML_i hR.1 g1.2.2.2.2 (i := n) (by omega) (by omega)
            have ki := (kr_i ha.1).mp mi.2.2.1
            have kj := (kr_i hb.1).mp mj.2.2.1
            have hne : s' 18 i ≠ s' 19 n := fun e => by rw [e] at ki; exact hab (by rw [← ki.2, ← kj.2])
            have hsc := sc_r1 hd ⟨mi.1, mi.2.1⟩ ⟨mj.1, mj.2.1⟩
            have gk := gn_k hd ⟨mi.1, mi.2.1⟩ ⟨mj.1, mj.2.1⟩ ki.1 kj.1
            have hlk := lk_r d (s' 18 i) (s' 19 n)
            have g1' : inb (i : Int) 10 := by omega
            have g2' : inb (n : Int) 10 := by omega
            obtain ⟨s3, q1, q2, q3⟩ := m_scoreOf_e N hN g1.1.1 hd ⟨mi.1, mi.2.1⟩ ⟨mj.1, mj.2.1⟩
            rw [if_neg (fun z => c2 ((le32_i (by omega) (by omega) (by omega) (by omega)).mp z))]
            simp only [gd_k g1', gd_k g2']
            rw [gd_k (by omega), g1.1.2.2.1 _ _ mi.1 mi.2.1 mj.1 mj.2.1 hne, q1, bd_k, q2.2.1 24 rfl]
            have fin : ∀ (v : Int) (s4 : St), LM d a b σ0 s4 → s4 18 = s' 18 → s4 19 = s' 19 → s4 20 = s' 20 → v = wf d (s' 18) (s' 19) i n → ∃ a' σ', m_lays_217 N k k2 i n v (10 * (i : Int) + n) s4 = k2 a' σ' ∧ (LM d a b σ0 σ' ∧ ∃ m : Nat, a' = m ∧ (m : Int) ≤ sz (kr d) b (d 0 1) ∧ ∀ y j : Nat, (y < i ∨ (y = i ∧ j < m)) → (j : Int) < sz (kr d) b (d 0 1) → σ' 20 (10 * (y : Int) + (j : Int)) = wf d (σ' 18) (σ' 19) y j) ∧ sz (kr d) b (d 0 1) - a' < sz (kr d) b (d 0 1) - (n : Int) := by
              intro v s4 t1 t2 t3 t4 hv
              unfold m_lays_217
              rw [gd_k (by omega)]
              refine ⟨(n : Int) + 1, _, rfl, ⟨LM_k (by decide) (by decide) (by decide) (by decide) (by decide) (by decide) t1, n + 1, by omega, by omega, fun y j hy hj => ?_⟩, by omega⟩
              rw [su_r, su_k _ _ _ (show 18 ≠ 20 by decide), su_k _ _ _ (show 19 ≠ 20 by decide), t2, t3, t4]
              by_cases e : y = i ∧ j = n
              · rw [if_pos (by omega), e.1, e.2]; exact hv
              · rw [if_neg (by omega)]; exact g2 y j (by omega) hj
            have ew : wf d (s' 18) (s' 19) i n = gn d (s' 18 i) (s' 19 n) := rfl
            by_cases c3 : lk d (s' 18 i) (s' 19 n) = 0
            · rw [if_pos ((eq32_i (by omega) (by omega) (by omega) (by omega)).mpr c3)]
              exact fin 0 s' g1 rfl rfl rfl (by rw [ew]; unfold gn; rw [if_neg (by omega)])
            · rw [if_neg (fun z => c3 ((eq32_i (by omega) (by omega) (by omega) (by omega)).mp z))]
              have hge : d 0 24 ≤ sc d (s' 18 i) (s' 19 n) := by
                by_cases z : (kn d (s' 18 i) = 1 ∧ kn d (s' 19 n) = 1) ∧ d 0 24 ≤ sc d (s' 18 i) (s' 19 n)
                · exact z.2
                · exact absurd (b01_f z) c3
              exact fin _ s3 (LM_fr g1 q2 q3) (q3.1 18 (by decide) (by decide) (by decide) (by decide) (by decide)) (q3.1 19 (by decide) (by decide) (by decide) (by decide) (by decide)) (q3.1 20 (by decide) (by decide) (by decide) (by decide) (by decide)) (by rw [ew, gk, if_pos (by omega)])
        · rintro x s' ⟨-, n, rfl, hn, -⟩; omega
      obtain ⟨s', q1, q2, q3⟩ := key
      exact ⟨(i : Int) + 1, s', q1, ⟨q2, i + 1, by omega, by omega, q3⟩, by omega⟩
  · rintro x s ⟨-, i, rfl, hi, -⟩; omega
