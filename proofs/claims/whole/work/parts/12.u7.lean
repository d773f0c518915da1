/-! digest -/
/-- an accumulator's course -/
def fo (st : Int → Int → Int) (v : Int) : Nat → Int
  | 0 => v
  | n + 1 => st (fo st v n) n
theorem acc {B : (Int → Int → St → MM) → Int → Int → St → MM} {z : Int → Int → St → MM} {st : Int → Int → Int} {P : St → Prop} {K : Int → St → MM} (n : Nat) (h : ∀ k v i s, 0 ≤ i → i < (n : Int) → P s → ∃ s', B k v i s = k (st v i) (i + 1) s' ∧ P s') (he : ∀ k v s, P s → B k v n s = K v s) {N : Nat} (hN : n < N) (v : Int) (s : St) (hP : P s) : ∃ s', itr B z N v 0 s = K (fo st v n) s' ∧ P s' := by
  refine lq2 (Out := fun x => ∃ s', x = K (fo st v n) s' ∧ P s') (Inv := fun v' i s => P s ∧ ∃ m : Nat, i = m ∧ m ≤ n ∧ v' = fo st v m) (fun _ i _ => n - i) ?_ ?_ N v 0 s ⟨hP, 0, rfl, by omega, rfl⟩ (by omega)
  · rintro k v' i s ⟨hs, m, rfl, hm, rfl⟩
    by_cases c : m = n
    · left
      rw [c, he k _ s hs]
      exact ⟨s, rfl, hs⟩
    · right
      obtain ⟨s', e1, e2⟩ := h k (fo st v m) m s (by omega) (by omega) hs
      exact ⟨_, _, s', e1, ⟨e2, m + 1, by omega, by omega, rfl⟩, by omega⟩
  · rintro v' i s ⟨-, m, rfl, hm, -⟩; omega
def sA (d : St) (r : Int) : Int → Int → Int := fun v w => 31 * v + s32 (ab d r w)
def sR (d : St) : Int → Int → Int := fun v r => fo (sA d r) v 8
def sC (f : Int → Int) : Int → Int → Int := fun v w => 31 * v + s32 (f w)
/-- what the digest has come to before pairs -/
noncomputable def dv (d : St) : Int := fo (sC (ck d)) (fo (sC (bu d)) (31 * (31 * (fo (sR d) (fo (sC (ct d)) 17 8) (d 0 1).toNat) + s32 (ft d)) + s32 (nl2 d)) 3) 4
theorem x_digest_e {N : Nat} (hN : 4999 < N) {d σ : St} (hx : RX d σ) (hd : DI d) : ∃ s', x_digest N σ = bd (x_pairs N 63 s') (fun r165 s165 => bd (x_laid N 0 1 0 s165) (fun r180 s180 => bd (x_laid N 0 1 1 s180) (fun r195 s195 => some ((31 * ((31 * ((31 * dv d) + (s32 r165))) + (s32 r180))) + (s32 r195), s195)))) ∧ RX d s' := by
  have hR := hd.rows
  have L5 : ∀ v s, RX d s → ∃ s', itr (x_digest_133 N) (fun _ _ _ => none) N v 0 s = bd (x_pairs N 63 s') (fun r165 s165 => bd (x_laid N 0 1 0 s165) (fun r180 s180 => bd (x_laid N 0 1 1 s180) (fun r195 s195 => some ((31 * ((31 * ((31 * fo (sC (ck d)) v 4) + (s32 r165))) + (s32 r180))) + (s32 r195), s195)))) ∧ RX d s' := fun v s hs => acc (B := x_digest_133 N) (st := sC (ck d)) (P := RX d) (K := fun v s => bd (x_pairs N 63 s) (fun r165 s165 => bd (x_laid N 0 1 0 s165) (fun r180 s180 => bd (x_laid N 0 1 1 s180) (fun r195 s195 => some ((31 * ((31 * ((31 * v) + (s32 r165))) + (s32 r180))) + (s32 r195), s195))))) 4 (by
    intro k v i s i0 i1 hs
    have := x_checked_e N (by omega) hs hd (w := i) (by omega)
    unfold x_digest_133
    rw [if_neg (fun z => by rw [lt32_i (by omega) (by omega) (by omega) (by omega)] at z; omega), this, bd_k, if_pos (by omega)]
    exact ⟨s, rfl, hs⟩) (by
    intro k v s hs
    unfold x_digest_133
    rw [if_pos (show lt32 3 ((4 : Nat) : Int) by decide)]) (by omega) v s hs
  have L4 : ∀ v s, RX d s → ∃ s', itr (x_digest_107 N) (fun _ _ _ => none) N v 0 s = itr (x_digest_133 N) (fun _ _ _ => none) N (fo (sC (bu d)) v 3) 0 s' ∧ RX d s' := fun v s hs => acc (B := x_digest_107 N) (st := sC (bu d)) (P := RX d) (K := fun v s => itr (x_digest_133 N) (fun _ _ _ => none) N v 0 s) 3 (by
    intro k v i s i0 i1 hs
    obtain ⟨s', e1, e2⟩ := x_bundles_e N (by omega) hs hd (w := i) (by omega)
    unfold x_digest_107
    rw [if_neg (fun z => by rw [lt32_i (by omega) (by omega) (by omega) (by omega)] at z; omega), e1, bd_k, if_pos (by omega)]
    exact ⟨s', rfl, e2⟩) (by
    intro k v s hs
    unfold x_digest_107
    rw [if_pos (show lt32 2 ((3 : Nat) : Int) by decide)]) (by omega) v s hs
  have L3 : ∀ r, 0 ≤ r → r < d 0 1 → ∀ (k : Int → Int → St → MM) v s, RX d s → ∃ s', itr (x_digest_47 N k r) (fun _ _ _ => none) N v 0 s = k (sR d v r) (r + 1) s' ∧ RX d s' := fun r r0 r1 k v s hs => acc (B := x_digest_47 N k r) (st := sA d r) (P := RX d) (K := fun v s => k v (r + 1) s) 8 (by
    intro kk v i s i0 i1 hs
    have := x_about_e N (r := r) (w := i) hs hd (by omega) (by omega)
    unfold x_digest_47
    rw [if_neg (fun z => by rw [lt32_i (by omega) (by omega) (by omega) (by omega)] at z; omega), this, bd_k, if_pos ⟨r0, r1⟩]
    exact ⟨s, rfl, hs⟩) (by
    intro kk v s hs
    unfold x_digest_47
    rw [if_pos (show lt32 7 ((8 : Nat) : Int) by decide)]) (by omega) v s hs
  have L2 : ∀ v s, RX d s → ∃ s', itr (x_digest_33 N) (fun _ _ _ => none) N v 0 s = itr (x_digest_107 N) (fun _ _ _ => none) N (31 * (31 * (fo (sR d) v (d 0 1).toNat) + s32 (ft d)) + s32 (nl2 d)) 0 s' ∧ RX d s' := fun v s hs => acc (B := x_digest_33 N) (st := sR d) (P := RX d) (K := fun v s => itr (x_digest_107 N) (fun _ _ _ => none) N (31 * (31 * v + s32 (ft d)) + s32 (nl2 d)) 0 s) (d 0 1).toNat (by
    intro k v i s i0 i1 hs
    unfold x_digest_33
    rw [hs.rows, if_neg (fun z => by rw [le32_i (by omega) (by omega) (by omega) (by omega)] at z; omega)]
    exact L3 i i0 (by omega) k v s hs) (by
    intro k v s hs
    unfold x_digest_33 x_fault x_links
    rw [hs.rows, if_pos ((le32_i (by omega) (by omega) (by omega) (by omega)).mpr (by omega)), bd_k, hs.ft, x_countLinks_e N (by omega) hs hd, bd_k, bd_k]) (by omega) v s hs
  obtain ⟨s1, e1, g1⟩ := acc (B := x_digest_6 N) (z := fun _ _ _ => none) (st := sC (ct d)) (P := RX d) (K := fun v s => itr (x_digest_33 N) (fun _ _ _ => none) N v 0 s) 8 (by
    intro k v i s i0 i1 hs
    have := x_count_e N (by omega) hs hd (w := i) (by omega)
    unfold x_digest_6
    rw [if_neg (fun z => by rw [lt32_i (by omega) (by omega) (by omega) (by omega)] at z; omega), this, bd_k]
    exact ⟨s, rfl, hs⟩) (by
    intro k v s hs
    unfold x_digest_6
    rw [if_pos (show lt32 7 ((8 : Nat) : Int) by decide)]) (N := N) (by omega) 17 σ hx
  obtain ⟨s2, e2, g2⟩ := L2 (fo (sC (ct d)) 17 8) s1 g1
  obtain ⟨s3, e3, g3⟩ := L4 _ s2 g2
  obtain ⟨s4, e4, g4⟩ := L5 _ s3 g3
  unfold x_digest
  rw [e1, e2, e3, e4]
  exact ⟨s4, rfl, g4⟩
theorem m_digest_e {N : Nat} (hN : 4999 < N) {d σ : St} (hm : RM d σ) (hd : DI d) : ∃ s', m_digest N σ = bd (m_counts N s') (fun r163 s163 => bd (m_pairsOf N 63 s163) (fun r174 s174 => bd (m_lays N 0 1 s174) (fun r183 s183 => if eq32 r183 0 then (m_digest_205 N r183 ((-3)) (31 * ((31 * dv d) + (s32 r174))) s183) else (m_digest_205 N r183 (s183 0 34) (31 * ((31 * dv d) + (s32 r174))) s183)))) ∧ RM d s' := by
  have hR := hd.rows
  have L5 : ∀ v s, RM d s → ∃ s', itr (m_digest_138 N) (fun _ _ _ => none) N v 0 s = bd (m_counts N s') (fun r163 s163 => bd (m_pairsOf N 63 s163) (fun r174 s174 => bd (m_lays N 0 1 s174) (fun r183 s183 => if eq32 r183 0 then (m_digest_205 N r183 ((-3)) (31 * ((31 * fo (sC (ck d)) v 4) + (s32 r174))) s183) else (m_digest_205 N r183 (s183 0 34) (31 * ((31 * fo (sC (ck d)) v 4) + (s32 r174))) s183)))) ∧ RM d s' := fun v s hs => acc (B := m_digest_138 N) (st := sC (ck d)) (P := RM d) (K := fun v s => bd (m_counts N s) (fun r163 s163 => bd (m_pairsOf N 63 s163) (fun r174 s174 => bd (m_lays N 0 1 s174) (fun r183 s183 => if eq32 r183 0 then (m_digest_205 N r183 ((-3)) (31 * ((31 * v) + (s32 r174))) s183) else (m_digest_205 N r183 (s183 0 34) (31 * ((31 * v) + (s32 r174))) s183))))) 4 (by
    intro k v i s i0 i1 hs
    obtain ⟨s', e1, e2, -⟩ := m_checkedOf_e N (by omega) hs hd (w := i) (by omega)
    unfold m_digest_138
    rw [if_neg (fun z => by rw [le32_i (by omega) (by omega) (by omega) (by omega)] at z; omega), e1, bd_k]
    exact ⟨s', rfl, e2⟩) (by
    intro k v s hs
    unfold m_digest_138
    rw [if_pos (show le32 4 ((4 : Nat) : Int) by decide)]) (by omega) v s hs
  have L4 : ∀ v s0 s, MB d s0 s → ∃ s', itr (m_digest_112 N) (fun _ _ _ => none) N v 0 s = itr (m_digest_138 N) (fun _ _ _ => none) N (fo (sC (bu d)) v 3) 0 s' ∧ MB d s0 s' := fun v s0 s hs => acc (B := m_digest_112 N) (st := sC (bu d)) (P := MB d s0) (K := fun v s => itr (m_digest_138 N) (fun _ _ _ => none) N v 0 s) 3 (by
    intro k v i s i0 i1 hs
    have := m_bundlesOf_e N (by omega) hs hd (w := i) (by omega)
    unfold m_digest_112
    rw [if_neg (fun z => by rw [le32_i (by omega) (by omega) (by omega) (by omega)] at z; omega), this, bd_k]
    exact ⟨s, rfl, hs⟩) (by
    intro k v s hs
    unfold m_digest_112
    rw [if_pos (show le32 3 ((3 : Nat) : Int) by decide)]) (by omega) v s hs
  have L3 : ∀ r, 0 ≤ r → r < d 0 1 → ∀ (k : Int → Int → St → MM) v s, RM d s → ∃ s', itr (m_digest_44 N k r) (fun _ _ _ => none) N v 0 s = k (sR d v r) (r + 1) s' ∧ RM d s' := fun r r0 r1 k v s hs => acc (B := m_digest_44 N k r) (st := sA d r) (P := RM d) (K := fun v s => k v (r + 1) s) 8 (by
    intro kk v i s i0 i1 hs
    have := m_aboutOf_e N (w := i) hs hd r0 r1 (by omega)
    unfold m_digest_44
    rw [if_neg (fun z => by rw [le32_i (by omega) (by omega) (by omega) (by omega)] at z; omega), this, bd_k]
    exact ⟨s, rfl, hs⟩) (by
    intro kk v s hs
    unfold m_digest_44
    rw [if_pos (show le32 8 ((8 : Nat) : Int) by decide)]) (by omega) v s hs
  have L2 : ∀ v s, RM d s → ∃ s', itr (m_digest_33 N) (fun _ _ _ => none) N v 0 s = bd (m_reads N s') (fun r79 s79 => bd (m_binds N s79) (fun r83 s83 => itr (m_digest_112 N) (fun _ _ _ => none) N ((31 * ((31 * (fo (sR d) v (d 0 1).toNat)) + (s32 (s83 0 16)))) + (s32 (s83 0 26))) 0 s83)) ∧ RM d s' := fun v s hs => acc (B := m_digest_33 N) (st := sR d) (P := RM d) (K := fun v s => bd (m_reads N s) (fun r79 s79 => bd (m_binds N s79) (fun r83 s83 => itr (m_digest_112 N) (fun _ _ _ => none) N ((31 * ((31 * v) + (s32 (s83 0 16)))) + (s32 (s83 0 26))) 0 s83))) (d 0 1).toNat (by
    intro k v i s i0 i1 hs
    unfold m_digest_33
    rw [hs.2.1 1 rfl, if_neg (fun z => by rw [le32_i (by omega) (by omega) (by omega) (by omega)] at z; omega)]
    exact L3 i i0 (by omega) k v s hs) (by
    intro k v s hs
    unfold m_digest_33
    rw [hs.2.1 1 rfl, if_pos ((le32_i (by omega) (by omega) (by omega) (by omega)).mpr (by omega))]) (by omega) v s hs
  obtain ⟨s1, e1, g1⟩ := acc (B := m_digest_6 N) (z := fun _ _ _ => none) (st := sC (ct d)) (P := RM d) (K := fun v s => itr (m_digest_33 N) (fun _ _ _ => none) N v 0 s) 8 (by
    intro k v i s i0 i1 hs
    have := m_count_e N (by omega) hs hd (w := i) (by omega)
    unfold m_digest_6
    rw [if_neg (fun z => by rw [le32_i (by omega) (by omega) (by omega) (by omega)] at z; omega), this, bd_k]
    exact ⟨s, rfl, hs⟩) (by
    intro k v s hs
    unfold m_digest_6
    rw [if_pos (show le32 8 ((8 : Nat) : Int) by decide)]) (N := N) (by omega) 17 σ hm
  obtain ⟨s2, e2, g2⟩ := L2 (fo (sC (ct d)) 17 8) s1 g1
  obtain ⟨s3, e3, g3⟩ := m_reads_e N (by omega) g2 hd
  obtain ⟨s4, e4, g4⟩ := m_binds_e N hN g3.1 hd
  have e16 : s4 0 16 = ft d := by
    have := g4.1.2.2.2 g3.2.1
    rcases g4.1.1.2.2 with h | h
    · omega
    · exact h.2.1
  obtain ⟨s5, e5, g5⟩ := L4 (31 * (31 * (fo (sR d) (fo (sC (ct d)) 17 8) (d 0 1).toNat) + s32 (ft d)) + s32 (nl2 d)) s3 s4 g4
  obtain ⟨s6, e6, g6⟩ := L5 (fo (sC (bu d)) (31 * (31 * (fo (sR d) (fo (sC (ct d)) 17 8) (d 0 1).toNat) + s32 (ft d)) + s32 (nl2 d)) 3) s5 g5.1.1
  unfold m_digest
  rw [e1, e2, e3, bd_k, e4, bd_k, e16, g4.1.2.1, e5, e6]
  exact ⟨s6, rfl, g6⟩
theorem laid01_e {N : Nat} (hN : 4999 < N) {d σx σm sm : St} {t : Int} (hx : RX d σx) (hm : RM d σm) (hd : DI d) (hl : m_lays N 0 1 σm = some (t, sm)) : RM d sm ∧ (t = 0 ∨ t = 1) ∧ ∀ f : Int, f = 0 ∨ f = 1 → ∃ sx, x_laid N 0 1 f σx = some (if t = 0 then -3 else if f = 0 then sm 0 34 else sm 21 0, sx) ∧ RX d sx := by
  obtain ⟨t', sx, sm', e1, e2, e3, e4, e5⟩ := laid_e hN hx hm hd (a := 0) (b := 1) (by omega) (by omega) (by omega)
  rw [e2] at hl
  cases hl
  refine ⟨e4, e5.elim Or.inl (fun z => Or.inr z.1), fun f hf => ?_⟩
  unfold x_laid
  rw [x_isBelow_e N σx (by omega) (by omega) (by omega) (by omega), bd_k, x_isBelow_e N σx (by omega) (by omega) (by omega) (by omega), bd_k, x_isBelow_e N σx (by omega) (by omega) (by omega) (by omega), bd_k]
  simp only [b01_0, itn]
  rw [if_pos (show (0 : Int) ≤ 0 ∧ (0 : Int) < 3 by decide), if_pos (show (0 : Int) ≤ 1 ∧ (1 : Int) < 3 by decide), if_neg (show ¬ eq32 0 1 by decide), if_pos (show 0 ≤ f ∧ f < 2 by omega), e1, bd_k]
  rcases e5 with t0 | ⟨t1, g1, g2, g3, g4⟩
  · rw [if_pos (show eq32 t 0 by rw [t0]), if_pos t0]
    exact ⟨sx, rfl, e3⟩
  · obtain ⟨w1, w2⟩ := laid_w hN hd g1 g2 g3 g4
    rw [if_neg (show ¬ eq32 t 0 by rw [t1]; decide), if_neg (show ¬ t = 0 by omega), w1, w2, bd_k, bd_k]
    rcases hf with e | e
    · rw [if_pos (show eq32 f 0 by rw [e]), if_pos e]; exact ⟨sx, rfl, e3⟩
    · rw [if_neg (show ¬ eq32 f 0 by rw [e]; decide), if_neg (show ¬ f = 0 by omega)]; exact ⟨sx, rfl, e3⟩
theorem sim_digest {N : Nat} (hN : 4999 < N) {σx σm : St} (h : RR σx σm) : OKp RR (x_digest N σx) (m_digest N σm) := by
  obtain ⟨d, hx, hm, hd⟩ := h
  obtain ⟨x1, e1, h1⟩ := x_digest_e hN hx hd
  obtain ⟨m1, f1, k1⟩ := m_digest_e hN hm hd
  obtain ⟨x2, e2, h2⟩ := x_pairs_e N (by omega) h1 hd (q := 63) (by omega)
  obtain ⟨m2, f2, k2, k2'⟩ := m_counts_e N (by omega) k1 hd
  have f3 := m_pairsOf_e N (by omega) hd k2'.1 (q := 63) (by omega)
  obtain ⟨t, m3, f4, -⟩ := m_lays_e N hN k2 hd (a := 0) (b := 1) (by omega) (by omega) (by omega)
  obtain ⟨k3, ht, g⟩ := laid01_e hN h2 k2 hd f4
  obtain ⟨x3, e3, h3⟩ := g 0 (Or.inl rfl)
  obtain ⟨-, -, g'⟩ := laid01_e hN h3 k2 hd f4
  obtain ⟨x4, e4, h4⟩ := g' 1 (Or.inr rfl)
  rw [e1, e2, bd_k, e3, bd_k, e4, bd_k, f1, f2, bd_k, f3, bd_k, f4, bd_k, if_pos (show (0 : Int) ≤ 63 ∧ (63 : Int) ≤ 63 by decide)]
  unfold m_digest_205
  rcases ht with t0 | t1
  · rw [if_pos t0, if_pos t0, if_pos (show eq32 t 0 by rw [t0]), if_pos (show eq32 t 0 by rw [t0])]
    exact ⟨_, _, _, rfl, rfl, d, h4, k3, hd⟩
  · rw [if_neg (show ¬ t = 0 by omega), if_neg (show ¬ t = 0 by omega), if_pos rfl, if_neg (show ¬ (1 : Int) = 0 by decide), if_neg (show ¬ eq32 t 0 by rw [t1]; decide), if_neg (show ¬ eq32 t 0 by rw [t1]; decide), gd_k (by omega)]
    exact ⟨_, _, _, rfl, rfl, d, h4, k3, hd⟩
