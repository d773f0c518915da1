/-! the class's cut: a way gone, all ways -/
theorem x_goWay_e (N : Nat) (hN : 100 < N) {d σ : St} {n a b K : Int} (hx : RX d σ) (h9 : σ 9 4 = n) (hn : n ≤ 12) (ha : 0 ≤ a ∧ a < n) (hb : 0 ≤ b ∧ b < n) (hr : ∀ i j, 0 ≤ i → i < n → 0 ≤ j → j < n → 0 ≤ rm σ i j) (hB : BF n a σ K) (hc : σ 35 b ≠ -1) :
    ∃ σ', x_Cut_goWay N a b σ = some (0, σ') ∧ RX d σ' ∧ σ' 9 4 = n ∧ (∀ i j, 0 ≤ i → i < n → 0 ≤ j → j < n → 0 ≤ rm σ' i j ∧ rm σ' i j ≤ rm σ i j + 1) ∧ ∀ X : Int → Bool, X a = true → X b = false → ot (rm σ') n X = ot (rm σ) n X - 1 := by
  obtain ⟨b1, b2, b3, b4, b5, b6, b7, b8⟩ := hB
  obtain ⟨pb, pb0, pb1, pb2⟩ := b6 b hb.1 hb.2 hc
  unfold x_Cut_goWay
  refine lq2 (Out := fun z => ∃ σ', z = some (0, σ') ∧ RX d σ' ∧ σ' 9 4 = n ∧ (∀ i j, 0 ≤ i → i < n → 0 ≤ j → j < n → 0 ≤ rm σ' i j ∧ rm σ' i j ≤ rm σ i j + 1) ∧ ∀ X : Int → Bool, X a = true → X b = false → ot (rm σ') n X = ot (rm σ) n X - 1)
    (Inv := fun j t s => RX d s ∧ s 9 4 = n ∧ s 34 = σ 34 ∧ s 35 = σ 35 ∧ 0 ≤ t ∧ (∃ p, 0 ≤ p ∧ p < K ∧ σ 34 p = j ∧ p + t ≤ n - 1 ∧ (∀ q, 0 < q → q ≤ p → 0 < rm s (σ 35 (σ 34 q)) (σ 34 q)) ∧ (∀ x q, 0 ≤ x → x < n → 0 ≤ q → q ≤ p → rm s x (σ 34 q) ≤ rm σ x (σ 34 q) + (if q < p then 0 else 1)) ∧ (∀ q x, 0 ≤ q → q < p → 0 ≤ x → x < n → rm s (σ 34 q) x ≤ rm σ (σ 34 q) x)) ∧ (∀ x y, 0 ≤ x → x < n → 0 ≤ y → y < n → 0 ≤ rm s x y ∧ rm s x y ≤ rm σ x y + 1) ∧ ∀ X : Int → Bool, ot (rm s) n X = ot (rm σ) n X + ch1 X b - ch1 X j) (fun _ t _ => n - t) ?_ ?_ N b 0 σ
    ⟨hx, h9, rfl, rfl, by omega, ⟨pb, pb0, pb1, pb2, by omega, fun q q0 q1 => ?_, fun x q _ _ _ _ => by split <;> omega, fun q x _ _ _ _ => Int.le_refl _⟩, fun x y x0 x1 y0 y1 => ⟨hr x y x0 x1 y0 y1, by omega⟩, fun X => by omega⟩ (by omega)
  · rintro k j t s ⟨h1, h2, h3, h4, t0, ⟨p, p0, p1, pj, pt, pr, pu, pv⟩, hnn, hX⟩
    have hj := (b3 p p0 p1).1
    rw [pj] at hj
    unfold x_Cut_goWay_5
    rw [h2, if_neg (fun z => by rw [le32_i (by omega) (by omega) (by omega) (by omega)] at z; omega)]
    by_cases c : j = a
    · left
      rw [if_pos ((eq32_i (by omega) (by omega) (by omega) (by omega)).mpr c)]
      refine ⟨s, rfl, h1, h2, hnn, fun X xa xb => ?_⟩
      have := hX X
      unfold ch1 at this
      rw [c, if_pos xa, if_neg (by rw [xb]; decide)] at this
      omega
    · right
      rw [if_neg (fun z => c ((eq32_i (by omega) (by omega) (by omega) (by omega)).mp z))]
      have hp : p ≠ 0 := fun e => by rw [e, b2.1] at pj; exact c pj.symm
      obtain ⟨q, q0, q1, q2, q3⟩ := b7 p (by omega) p1
      have hi := (b3 q q0 (by omega)).1
      have hij : σ 34 q ≠ j := fun e => by have := b4 q p q0 (by omega) p0 p1 (by rw [e, pj]); omega
      have hpos := pr p (by omega) (Int.le_refl p)
      rw [pj] at hpos q2
      rw [q2] at hpos
      rw [h4, q2]
      have e1 : s 33 (σ 34 q * 12 + j) = rm s (σ 34 q) j := rfl
      have g1 : inb (σ 34 q * 12 + j) 144 := by omega
      have g2 : inb (j * 12 + σ 34 q) 144 := by omega
      rw [gd_k (by omega)]
      simp only [gd_k g1, gd_k g2]
      have ne : j * 12 + σ 34 q ≠ σ 34 q * 12 + j := by omega
      rw [su_n _ _ _ _ _ ne]
      -- the new state
      have ev : ∀ x y, 0 ≤ x → x < n → 0 ≤ y → y < n → rm (su (su s 33 (σ 34 q * 12 + j) (s 33 (σ 34 q * 12 + j) - 1)) 33 (j * 12 + σ 34 q) (s 33 (j * 12 + σ 34 q) + 1)) x y = if x = j ∧ y = σ 34 q then rm s j (σ 34 q) + 1 else if x = σ 34 q ∧ y = j then rm s (σ 34 q) j - 1 else rm s x y := by
        intro x y x0 x1 y0 y1
        unfold rm
        rw [su_r, su_r]
        by_cases z1 : x = j ∧ y = σ 34 q
        · rw [if_pos (by omega), if_pos z1]
        · rw [if_neg (by omega), if_neg z1]
          by_cases z2 : x = σ 34 q ∧ y = j
          · rw [if_pos (by omega), if_pos z2]
          · rw [if_neg (by omega), if_neg z2]
      refine ⟨σ 34 q, t + 1, _, rfl, ⟨RX_k rfl (RX_k rfl h1), by rw [su_k _ _ _ (by decide), su_k _ _ _ (by decide)]; exact h2, by rw [su_k _ _ _ (by decide), su_k _ _ _ (by decide)]; exact h3, by rw [su_k _ _ _ (by decide), su_k _ _ _ (by decide)]; exact h4, by omega, ⟨q, q0, by omega, rfl, by omega, fun q' a0 a1 => ?_, fun x q' x0 x1 a0 a1 => ?_, fun q' x a0 a1 x0 x1 => ?_⟩, fun x y x0 x1 y0 y1 => ?_, fun X => ?_⟩, by omega⟩
      · -- room on the rest of the way
        have hq' := (b3 q' (by omega) (by omega)).1
        obtain ⟨w, w0, w1, w2, w3⟩ := b7 q' a0 (by omega)
        have hw := (b3 w w0 (by omega)).1
        have hne : σ 34 q' ≠ j := fun e => by have := b4 q' p (by omega) (by omega) p0 p1 (by rw [e, pj]); omega
        have := pr q' a0 (by omega)
        rw [w2] at this ⊢
        have nj : σ 34 w ≠ j := fun e => by have := b4 w p w0 (by omega) p0 p1 (by rw [e, pj]); omega
        rw [ev _ _ hw.1 hw.2 hq'.1 hq'.2, if_neg (fun z => nj z.1), if_neg (fun z => hne z.2)]
        exact this
      · have hq' := (b3 q' a0 (by omega)).1
        have hne : σ 34 q' ≠ j := fun e => by have := b4 q' p a0 (by omega) p0 p1 (by rw [e, pj]); omega
        have o := pu x q' x0 x1 a0 (by omega)
        rw [if_pos (by omega)] at o
        rw [ev _ _ x0 x1 hq'.1 hq'.2, if_neg (show ¬ (x = σ 34 q ∧ σ 34 q' = j) from fun z => hne z.2)]
        by_cases z1 : x = j ∧ σ 34 q' = σ 34 q
        · have := b4 q' q a0 (by omega) q0 (by omega) z1.2
          rw [if_pos z1, if_neg (by omega)]
          rw [z1.1, z1.2] at o
          rw [z1.1, z1.2]; omega
        · rw [if_neg z1]; split <;> omega
      · have hq' := (b3 q' a0 (by omega)).1
        have hne : σ 34 q' ≠ j := fun e => by have := b4 q' p a0 (by omega) p0 p1 (by rw [e, pj]); omega
        have o := pv q' x a0 (by omega) x0 x1
        have hn2 : σ 34 q' ≠ σ 34 q := fun e => by have := b4 q' q a0 (by omega) q0 (by omega) e; omega
        rw [ev _ _ hq'.1 hq'.2 x0 x1, if_neg (fun z => hne z.1), if_neg (fun z => hn2 z.1)]
        exact o
      · have o := hnn x y x0 x1 y0 y1
        rw [ev x y x0 x1 y0 y1]
        by_cases z1 : x = j ∧ y = σ 34 q
        · have o2 := pu x q x0 x1 q0 (by omega)
          rw [if_pos (by omega)] at o2
          rw [if_pos z1]
          rw [z1.1, z1.2] at o
          rw [z1.1] at o2
          rw [z1.1, z1.2]; omega
        · rw [if_neg z1]
          by_cases z2 : x = σ 34 q ∧ y = j
          · rw [if_pos z2]
            rw [z2.1, z2.2] at o
            rw [z2.1, z2.2]; omega
          · rw [if_neg z2]; exact o
      · have o := hX X
        have u1 := ot_u (r := rm s) (r' := fun x y => if x = σ 34 q ∧ y = j then rm s (σ 34 q) j + (-1) else rm s x y) (n := n) (i := σ 34 q) (j := j) (v := -1) X hi.1 hi.2 hj.1 hj.2 (fun x y _ _ _ _ => rfl)
        have u2 := ot_u (r := fun x y => if x = σ 34 q ∧ y = j then rm s (σ 34 q) j + (-1) else rm s x y) (r' := rm (su (su s 33 (σ 34 q * 12 + j) (s 33 (σ 34 q * 12 + j) - 1)) 33 (j * 12 + σ 34 q) (s 33 (j * 12 + σ 34 q) + 1))) (n := n) (i := j) (j := σ 34 q) (v := 1) X hj.1 hj.2 hi.1 hi.2 (fun x y x0 x1 y0 y1 => by
          rw [ev x y x0 x1 y0 y1]
          by_cases z1 : x = j ∧ y = σ 34 q
          · rw [if_pos z1, if_pos z1, if_neg (fun z => hij z.1.symm)]
          · rw [if_neg z1, if_neg z1]; rfl)
        rw [u2, u1, o]
        unfold ch1
        cases X (σ 34 q) <;> cases X j <;> simp <;> omega
  · rintro j t s ⟨-, -, -, -, t0, ⟨p, p0, p1, pj, pt, -⟩, -⟩; omega
  · obtain ⟨w, w0, w1, w2, w3⟩ := b7 q q0 (by omega)
    rw [w2]; exact w3
/-- all ways: as many as the fewest LINKS that part -/
theorem x_ways_e (N : Nat) (hN : 100 < N) {d σ : St} {n a b : Int} (hx : RX d σ) (h9 : σ 9 4 = n) (hn : n ≤ 12) (ha : 0 ≤ a ∧ a < n) (hb : 0 ≤ b ∧ b < n) (hab : a ≠ b) (hr : ∀ i j, 0 ≤ i → i < n → 0 ≤ j → j < n → 0 ≤ rm σ i j ∧ rm σ i j ≤ 1) :
    ∃ k σ', itr (x_Cut_fewest_16 N a b) (fun _ _ => none) N 0 σ = some (k, σ') ∧ RX d σ' ∧ k ≤ 11 ∧ (∀ X : Int → Bool, X a = true → X b = false → k ≤ ot (rm σ) n X) ∧ ∃ X : Int → Bool, X a = true ∧ X b = false ∧ ot (rm σ) n X = k := by
  have one := ot_1 (r := rm σ) ha.1 ha.2 (fun i j i0 i1 j0 j1 => (hr i j i0 i1 j0 j1).2)
  refine lq1 (Out := fun z => ∃ k σ', z = some (k, σ') ∧ RX d σ' ∧ k ≤ 11 ∧ (∀ X : Int → Bool, X a = true → X b = false → k ≤ ot (rm σ) n X) ∧ ∃ X : Int → Bool, X a = true ∧ X b = false ∧ ot (rm σ) n X = k) (Inv := fun v s => RX d s ∧ s 9 4 = n ∧ 0 ≤ v ∧ v ≤ 11 ∧ (∀ i j, 0 ≤ i → i < n → 0 ≤ j → j < n → 0 ≤ rm s i j ∧ rm s i j ≤ 1 + v) ∧ ∀ X : Int → Bool, X a = true → X b = false → ot (rm s) n X = ot (rm σ) n X - v) (fun v _ => 12 - v) ?_ ?_ N 0 σ ⟨hx, h9, by omega, by omega, fun i j i0 i1 j0 j1 => by have := hr i j i0 i1 j0 j1; omega, fun X _ _ => by omega⟩ (by omega)
  · rintro k v s ⟨h1, h2, v0, v1, hnn, hX⟩
    unfold x_Cut_fewest_16
    rw [if_neg (fun z => by rw [le32_i (by omega) (by omega) (by omega) (by omega)] at z; omega)]
    obtain ⟨s1, K, f1, f2, f3, f4, f5, f6⟩ := x_findWay_e N hN h1 h2 hn ha hb (fun i j i0 i1 j0 j1 => by have := hnn i j i0 i1 j0 j1; omega)
    have erm : ∀ i j, rm s1 i j = rm s i j := fun i j => by unfold rm; rw [f4]
    have eot : ∀ X, ot (rm s1) n X = ot (rm s) n X := fun X => ot_c (by omega) (fun i j _ _ _ _ => ⟨Iff.rfl, fun _ => erm i j⟩)
    rw [f1, bd_k]
    simp only [b01_0, itn]
    by_cases c : s1 35 b = -1
    · left
      rw [if_pos c]
      refine ⟨v, s1, rfl, f2, v1, fun X xa xb => ?_, fun i => decide (0 ≤ i ∧ i < n ∧ s1 35 i ≠ -1), ?_, ?_, ?_⟩
      · have := hX X xa xb
        have := ot_ge (r := rm s) (n := n) (X := X) (by omega) (fun i j i0 i1 j0 j1 => (hnn i j i0 i1 j0 j1).1)
        omega
      · exact decide_eq_true ⟨ha.1, ha.2, by rw [f5.2.1.2]; omega⟩
      · exact decide_eq_false (fun z => z.2.2 c)
      · have e := hX (fun i => decide (0 ≤ i ∧ i < n ∧ s1 35 i ≠ -1)) (decide_eq_true ⟨ha.1, ha.2, by rw [f5.2.1.2]; omega⟩) (decide_eq_false (fun z => z.2.2 c))
        have z : ot (rm s) n (fun i => decide (0 ≤ i ∧ i < n ∧ s1 35 i ≠ -1)) = 0 := by
          refine ot_0 (by omega) (fun i j i0 i1 j0 j1 xi xj => ?_)
          have xi := of_decide_eq_true xi
          have xj := of_decide_eq_false xj
          have hj : s1 35 j = -1 := by
            by_cases w : s1 35 j = -1
            · exact w
            · exact absurd ⟨j0, j1, w⟩ xj
          obtain ⟨p, p0, p1, p2⟩ := f5.2.2.2.2.2.1 i i0 i1 xi.2.2
          have nn := hnn i j i0 i1 j0 j1
          by_cases w : 0 < rm s i j
          · exact absurd hj (f6 p p0 p1 j j0 j1 (by rw [p2, erm]; exact w))
          · omega
        omega
    · right
      rw [if_neg c]
      obtain ⟨s2, g1, g2, g3, g4, g5⟩ := x_goWay_e N hN f2 f3 hn ha hb (fun i j i0 i1 j0 j1 => by rw [erm]; exact (hnn i j i0 i1 j0 j1).1) f5 c
      rw [g1, bd_k]
      have hX2 : ∀ X : Int → Bool, X a = true → X b = false → ot (rm s2) n X = ot (rm σ) n X - (v + 1) := fun X xa xb => by
        have := g5 X xa xb
        have := hX X xa xb
        have := eot X
        omega
      have t := hX2 (fun i => decide (i = a)) (decide_eq_true rfl) (decide_eq_false (fun z => hab z.symm))
      have nn := ot_ge (r := rm s2) (n := n) (X := fun i => decide (i = a)) (by omega) (fun i j i0 i1 j0 j1 => (g4 i j i0 i1 j0 j1).1)
      exact ⟨v + 1, s2, rfl, ⟨g2, g3, by omega, by omega, fun i j i0 i1 j0 j1 => by have := g4 i j i0 i1 j0 j1; have := hnn i j i0 i1 j0 j1; have := erm i j; omega, hX2⟩, by omega⟩
  · rintro v s ⟨-, -, v0, v1, -⟩; omega
