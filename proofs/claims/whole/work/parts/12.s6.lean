/-! the class's cut -/
/-- room from i to j -/
def rm (σ : St) (i j : Int) : Int := σ 33 (i * 12 + j)
/-- the LINKS of a BUNDLE, by the places of its ROWS -/
def ad (d : St) (f : Int → Int) (i j : Int) : Int := if i ≠ j then lk d (f i) (f j) else 0
/-- where a way was sought: K places reached -/
def BF (n a : Int) (σ : St) (K : Int) : Prop := (1 ≤ K ∧ K ≤ n) ∧ (σ 34 0 = a ∧ σ 35 a = a) ∧
  (∀ p, 0 ≤ p → p < K → (0 ≤ σ 34 p ∧ σ 34 p < n) ∧ σ 35 (σ 34 p) ≠ -1) ∧
  (∀ p q, 0 ≤ p → p < K → 0 ≤ q → q < K → σ 34 p = σ 34 q → p = q) ∧
  (∀ j, 0 ≤ j → j < n → -1 ≤ σ 35 j ∧ σ 35 j < n) ∧
  (∀ j, 0 ≤ j → j < n → σ 35 j ≠ -1 → ∃ p, 0 ≤ p ∧ p < K ∧ σ 34 p = j) ∧
  (∀ p, 0 < p → p < K → ∃ q, 0 ≤ q ∧ q < p ∧ σ 35 (σ 34 p) = σ 34 q ∧ 0 < rm σ (σ 34 q) (σ 34 p)) ∧
  K = S (fun j => b01 (σ 35 j ≠ -1)) n
/-- from the k first reached places all that has room is reached -/
def CL (n : Int) (σ : St) (k : Int) : Prop := ∀ p, 0 ≤ p → p < k → ∀ j, 0 ≤ j → j < n → 0 < rm σ (σ 34 p) j → σ 35 j ≠ -1
theorem BF_K {n a : Int} {σ : St} {K : Int} (h : BF n a σ K) {j : Int} (j0 : 0 ≤ j) (j1 : j < n) (hj : σ 35 j = -1) : K + 1 ≤ n := by
  have e := S_upd (fun x => b01 (σ 35 x ≠ -1)) (i := j) (v := 1) j0 j1
  have l := S_le (f := fun x => if x = j then 1 else b01 (σ 35 x ≠ -1)) (n := n) (hi := 1) (fun x _ _ => by
    have := @b01_r (σ 35 x ≠ -1) _
    show (if x = j then 1 else b01 (σ 35 x ≠ -1)) ≤ 1
    split <;> omega) (by omega)
  rw [b01_f (fun z => z hj)] at e
  have := h.2.2.2.2.2.2.2
  omega
theorem BF_n {n a : Int} {σ : St} {K : Int} (hn : n ≤ 12) (h : BF n a σ K) {i j k : Int} (j0 : 0 ≤ j) (j1 : j < n) (hj : σ 35 j = -1) (k0 : 0 ≤ k) (k1 : k < K) (hi : σ 34 k = i) (hr : 0 < rm σ i j) : BF n a (su (su σ 35 j i) 34 K j) (K + 1) := by
  have hK := BF_K h j0 j1 hj
  obtain ⟨b1, b2, b3, b4, b5, b6, b7, b8⟩ := h
  have i3 := b3 k k0 k1
  rw [hi] at i3
  have ne : ∀ p, 0 ≤ p → p < K → σ 34 p ≠ j := fun p p0 p1 e => by have := (b3 p p0 p1).2; rw [e] at this; exact this hj
  have ea : a ≠ j := fun e => by have := b2.2; rw [e, hj] at this; omega
  have e34 : ∀ p, (su (su σ 35 j i) 34 K j) 34 p = if p = K then j else σ 34 p := fun p => by rw [su_r, su_k _ _ _ (by decide)]
  have e35 : ∀ p, (su (su σ 35 j i) 34 K j) 35 p = if p = j then i else σ 35 p := fun p => by rw [su_k _ _ _ (by decide), su_r]
  have erm : ∀ x y, rm (su (su σ 35 j i) 34 K j) x y = rm σ x y := fun x y => by unfold rm; rw [su_k _ _ _ (by decide), su_k _ _ _ (by decide)]
  refine ⟨⟨by omega, hK⟩, ⟨by rw [e34, if_neg (by omega)]; exact b2.1, by rw [e35, if_neg ea]; exact b2.2⟩, fun p p0 p1 => ?_, fun p q p0 p1 q0 q1 e => ?_, fun x x0 x1 => ?_, fun x x0 x1 hx => ?_, fun p p0 p1 => ?_, ?_⟩
  · rw [e34]
    by_cases e : p = K
    · rw [if_pos e, e35, if_pos rfl]; exact ⟨⟨j0, j1⟩, by omega⟩
    · have hp := b3 p p0 (by omega)
      rw [if_neg e, e35, if_neg (ne p p0 (by omega))]; exact hp
  · rw [e34, e34] at e
    by_cases e1 : p = K
    · by_cases e2 : q = K
      · omega
      · rw [if_pos e1, if_neg e2] at e; exact absurd e.symm (ne q q0 (by omega))
    · by_cases e2 : q = K
      · rw [if_neg e1, if_pos e2] at e; exact absurd e (ne p p0 (by omega))
      · rw [if_neg e1, if_neg e2] at e; exact b4 p q p0 (by omega) q0 (by omega) e
  · rw [e35]
    by_cases e : x = j
    · rw [if_pos e]; omega
    · rw [if_neg e]; exact b5 x x0 x1
  · rw [e35] at hx
    by_cases e : x = j
    · exact ⟨K, by omega, by omega, by rw [e34, if_pos rfl, e]⟩
    · rw [if_neg e] at hx
      obtain ⟨p, p0, p1, p2⟩ := b6 x x0 x1 hx
      exact ⟨p, p0, by omega, by rw [e34, if_neg (by omega)]; exact p2⟩
  · by_cases e : p = K
    · refine ⟨k, k0, by omega, ?_, ?_⟩
      · rw [e34, e34, if_pos e, if_neg (by omega), e35, if_pos rfl, hi]
      · rw [e34, e34, if_pos e, if_neg (by omega), erm, hi]; exact hr
    · obtain ⟨q, q0, q1, q2, q3⟩ := b7 p p0 (by omega)
      refine ⟨q, q0, q1, ?_, ?_⟩
      · rw [e34, e34, if_neg e, if_neg (by omega), e35, if_neg (ne p (by omega) (by omega))]; exact q2
      · rw [e34, e34, if_neg e, if_neg (by omega), erm]; exact q3
  · rw [S_u (fun x => b01 (σ 35 x ≠ -1)) (fun x => b01 ((su (su σ 35 j i) 34 K j) 35 x ≠ -1)) (v := 1) j0 j1 (fun x x0 x1 => ?_), ← b8]
    rw [e35]
    by_cases e : x = j
    · rw [if_pos e, if_pos e, b01_t (by omega), b01_f (fun z => z hj)]; rfl
    · rw [if_neg e, if_neg e]
theorem x_findWay_e (N : Nat) (hN : 100 < N) {d σ : St} {n a b : Int} (hx : RX d σ) (h9 : σ 9 4 = n) (hn : n ≤ 12) (ha : 0 ≤ a ∧ a < n) (hb : 0 ≤ b ∧ b < n) (hr : ∀ i j, 0 ≤ i → i < n → 0 ≤ j → j < n → 0 ≤ rm σ i j ∧ rm σ i j < 1000) :
    ∃ σ' K, x_Cut_findWay N a b σ = some (b01 (σ' 35 b ≠ -1), σ') ∧ RX d σ' ∧ σ' 9 4 = n ∧ σ' 33 = σ 33 ∧ BF n a σ' K ∧ CL n σ' K := by
  unfold x_Cut_findWay
  rw [fill_e N 35 12 (-1) σ (by omega) (by omega), bd_k, gd_k (by omega), gd_k (by omega)]
  have z35 : ∀ j, 0 ≤ j → j < 12 → (zg σ 35 0 12 (fun _ => -1)) 35 j = -1 := fun j j0 j1 => by rw [zg_r, if_pos ⟨j0, j1⟩]
  have i35 : ∀ j, 0 ≤ j → j < 12 → (su (su (zg σ 35 0 12 (fun _ => -1)) 35 a a) 34 0 a) 35 j = if j = a then a else -1 := fun j j0 j1 => by rw [su_k _ _ _ (by decide), su_r, z35 j j0 j1]
  have i34 : (su (su (zg σ 35 0 12 (fun _ => -1)) 35 a a) 34 0 a) 34 0 = a := by rw [su_e]
  have irm : (su (su (zg σ 35 0 12 (fun _ => -1)) 35 a a) 34 0 a) 33 = σ 33 := by rw [su_k _ _ _ (by decide), su_k _ _ _ (by decide), zg_k _ _ _ _ (by decide)]
  have start : BF n a (su (su (zg σ 35 0 12 (fun _ => -1)) 35 a a) 34 0 a) 1 := by
    refine ⟨by omega, ⟨i34, by rw [i35 a ha.1 (by omega), if_pos rfl]⟩, fun p p0 p1 => ?_, fun p q p0 p1 q0 q1 _ => by omega, fun j j0 j1 => ?_, fun j j0 j1 hj => ?_, fun p p0 p1 => by omega, ?_⟩
    · rw [show p = 0 by omega, i34, i35 a ha.1 (by omega), if_pos rfl]; omega
    · rw [i35 j j0 (by omega)]; split <;> omega
    · rw [i35 j j0 (by omega)] at hj
      by_cases e : j = a
      · exact ⟨0, by omega, by omega, by rw [i34, e]⟩
      · rw [if_neg e] at hj; exact absurd rfl hj
    · rw [S_u (fun _ => (0 : Int)) (fun j => b01 ((su (su (zg σ 35 0 12 (fun _ => -1)) 35 a a) 34 0 a) 35 j ≠ -1)) (v := 1) ha.1 ha.2 (fun j j0 j1 => ?_), S_z (f := fun _ => (0 : Int)) (fun _ _ _ => rfl) (by omega)]
      · rfl
      · rw [i35 j j0 (by omega)]
        by_cases e : j = a
        · rw [if_pos e, if_pos e, b01_t (by omega)]; rfl
        · rw [if_neg e, if_neg e, b01_f (fun z => z rfl)]
  have e122 : ∀ (s : St) (K : Int), RX d s → s 9 4 = n → s 33 = σ 33 → BF n a s K → CL n s K → ∃ σ' K, x_Cut_findWay_122 N b s = some (b01 (σ' 35 b ≠ -1), σ') ∧ RX d σ' ∧ σ' 9 4 = n ∧ σ' 33 = σ 33 ∧ BF n a σ' K ∧ CL n σ' K := by
    intro s K h1 h2 h3 h4 h5
    refine ⟨s, K, ?_, h1, h2, h3, h4, h5⟩
    have := h4.2.2.2.2.1 b hb.1 hb.2
    unfold x_Cut_findWay_122
    rw [gd_k (by omega)]
    by_cases c : s 35 b = -1
    · rw [if_pos ((eq32_i (by omega) (by omega) (by omega) (by omega)).mpr c), b01_f (fun z => z c)]
    · rw [if_neg (fun z => c ((eq32_i (by omega) (by omega) (by omega) (by omega)).mp z)), b01_t c]
  refine lq2 (Out := fun z => ∃ σ' K, z = some (b01 (σ' 35 b ≠ -1), σ') ∧ RX d σ' ∧ σ' 9 4 = n ∧ σ' 33 = σ 33 ∧ BF n a σ' K ∧ CL n σ' K) (Inv := fun K k s => RX d s ∧ s 9 4 = n ∧ s 33 = σ 33 ∧ BF n a s K ∧ 0 ≤ k ∧ k ≤ K ∧ CL n s k) (fun _ k _ => 12 - k) ?_ ?_ N 1 0 _ ⟨?_, ?_, irm, start, by omega, by omega, fun p p0 p1 => by omega⟩ (by omega)
  · rintro k27 K k s ⟨h1, h2, h3, h4, h5, h6, h7⟩
    have hK := h4.1
    unfold x_Cut_findWay_27
    rw [h2]
    by_cases c : K ≤ k
    · left
      rw [if_pos ((le32_i (by omega) (by omega) (by omega) (by omega)).mpr c)]
      exact e122 s K h1 h2 h3 h4 (by rw [show K = k by omega]; exact h7)
    rw [if_neg (fun z => c ((le32_i (by omega) (by omega) (by omega) (by omega)).mp z)), if_neg (fun z => by rw [le32_i (by omega) (by omega) (by omega) (by omega)] at z; omega), gd_k (by omega)]
    right
    obtain ⟨hi, hi2⟩ := h4.2.2.1 k h5 (by omega)
    have key : ∃ K' s', itr (x_Cut_findWay_54 N k27 b k (s 34 k)) (fun _ _ _ => none) N K 0 s = k27 K' (k + 1) s' ∧ RX d s' ∧ s' 9 4 = n ∧ s' 33 = σ 33 ∧ BF n a s' K' ∧ k + 1 ≤ K' ∧ CL n s' (k + 1) := by
      refine lq2 (Out := fun z => ∃ K' s', z = k27 K' (k + 1) s' ∧ RX d s' ∧ s' 9 4 = n ∧ s' 33 = σ 33 ∧ BF n a s' K' ∧ k + 1 ≤ K' ∧ CL n s' (k + 1)) (Inv := fun K' j s' => RX d s' ∧ s' 9 4 = n ∧ s' 33 = σ 33 ∧ BF n a s' K' ∧ k + 1 ≤ K' ∧ CL n s' k ∧ s' 34 k = s 34 k ∧ 0 ≤ j ∧ j ≤ n ∧ ∀ x, 0 ≤ x → x < j → 0 < rm s' (s 34 k) x → s' 35 x ≠ -1) (fun _ j _ => n - j) ?_ ?_ N K 0 s ⟨h1, h2, h3, h4, by omega, h7, rfl, by omega, by omega, fun x _ _ => by omega⟩ (by omega)
      · rintro k54 K' j s' ⟨g1, g2, g3, g4, g5, g6, g7, j0, j1, g8⟩
        have hK' := g4.1
        unfold x_Cut_findWay_54 x_Cut_findWay_110
        rw [g2]
        by_cases c2 : n ≤ j
        · left
          rw [if_pos ((le32_i (by omega) (by omega) (by omega) (by omega)).mpr c2)]
          refine ⟨K', s', rfl, g1, g2, g3, g4, g5, fun p p0 p1 x x0 x1 hp => ?_⟩
          by_cases e : p = k
          · rw [e, g7] at hp; exact g8 x x0 (by omega) hp
          · exact g6 p p0 (by omega) x x0 x1 hp
        · right
          have hc := g4.2.2.2.2.1 j j0 (by omega)
          have hrj := hr (s 34 k) j (by omega) (by omega) j0 (by omega)
          have erm : rm s' (s 34 k) j = rm σ (s 34 k) j := by unfold rm; rw [g3]
          have e33 : s' 33 (s 34 k * 12 + j) = rm s' (s 34 k) j := rfl
          rw [if_neg (fun z => c2 ((le32_i (by omega) (by omega) (by omega) (by omega)).mp z)), gd_k (by omega)]
          by_cases c3 : s' 35 j = -1
          · rw [if_pos ((eq32_i (by omega) (by omega) (by omega) (by omega)).mpr c3), gd_k (by omega), e33]
            by_cases c4 : rm s' (s 34 k) j ≤ 0
            · rw [if_pos ((le32_i (by omega) (by omega) (by omega) (by omega)).mpr c4)]
              refine ⟨K', j + 1, s', rfl, ⟨g1, g2, g3, g4, g5, g6, g7, by omega, by omega, fun x x0 x1 hp => ?_⟩, by omega⟩
              by_cases e : x = j
              · rw [e] at hp; omega
              · exact g8 x x0 (by omega) hp
            · have hKn := BF_K g4 j0 (by omega) c3
              rw [if_neg (fun z => c4 ((le32_i (by omega) (by omega) (by omega) (by omega)).mp z)), gd_k (by omega), gd_k (by omega)]
              have e35 : ∀ p, (su (su s' 35 j (s 34 k)) 34 K' j) 35 p = if p = j then s 34 k else s' 35 p := fun p => by rw [su_k _ _ _ (by decide), su_r]
              have e34 : ∀ p, p < K' → (su (su s' 35 j (s 34 k)) 34 K' j) 34 p = s' 34 p := fun p hp => by rw [su_n _ _ _ _ _ (by omega), su_k _ _ _ (by decide)]
              have e3 : (su (su s' 35 j (s 34 k)) 34 K' j) 33 = s' 33 := by rw [su_k _ _ _ (by decide), su_k _ _ _ (by decide)]
              have erm2 : ∀ x y, rm (su (su s' 35 j (s 34 k)) 34 K' j) x y = rm s' x y := fun x y => by unfold rm; rw [e3]
              refine ⟨K' + 1, j + 1, su (su s' 35 j (s 34 k)) 34 K' j, rfl, ⟨RX_k rfl (RX_k rfl g1), by rw [su_k _ _ _ (by decide), su_k _ _ _ (by decide)]; exact g2, e3.trans g3, BF_n hn g4 j0 (by omega) c3 h5 (by omega) g7 (by omega), by omega, fun p p0 p1 x x0 x1 hp => ?_, by rw [e34 k (by omega)]; exact g7, by omega, by omega, fun x x0 x1 hp => ?_⟩, by omega⟩
              · rw [e34 p (by omega), erm2] at hp
                rw [e35]
                by_cases e : x = j
                · rw [if_pos e]; omega
                · rw [if_neg e]; exact g6 p p0 p1 x x0 x1 hp
              · rw [erm2] at hp
                rw [e35]
                by_cases e : x = j
                · rw [if_pos e]; omega
                · rw [if_neg e]; exact g8 x x0 (by omega) hp
          · rw [if_neg (fun z => c3 ((eq32_i (by omega) (by omega) (by omega) (by omega)).mp z))]
            refine ⟨K', j + 1, s', rfl, ⟨g1, g2, g3, g4, g5, g6, g7, by omega, by omega, fun x x0 x1 hp => ?_⟩, by omega⟩
            by_cases e : x = j
            · rw [e]; exact c3
            · exact g8 x x0 (by omega) hp
      · rintro K' j s' ⟨-, -, -, -, -, -, -, j0, j1, -⟩; omega
    obtain ⟨K', s', q1, q2, q3, q4, q5, q6, q7⟩ := key
    exact ⟨K', k + 1, s', q1, ⟨q2, q3, q4, q5, by omega, q6, q7⟩, by omega⟩
  · rintro K k s ⟨-, -, -, h4, h5, h6, -⟩
    have := h4.1
    omega
  · exact RX_k rfl (RX_k rfl (RX_s (fun k hk => zg_k _ _ _ _ (fun e => by rw [e] at hk; cases hk)) hx))
  · rw [su_k _ _ _ (by decide), su_k _ _ _ (by decide), zg_k _ _ _ _ (by decide)]; exact h9
