/-! the reference's cut; both -/
theorem RM_24 {d σ : St} {i v : Int} (h : RM d σ) : RM d (su σ 24 i v) := RM_k (by decide) (by decide) (by decide) h
theorem LO_24 {d σ0 σ : St} {i v : Int} (h : LO d σ0 σ) : LO d σ0 (su σ 24 i v) :=
  ⟨RM_24 h.1, by rw [su_k _ _ _ (by decide)]; exact h.2.1, fun a b a0 a1 b0 b1 hab => by rw [su_k _ _ _ (by decide)]; exact h.2.2.1 a b a0 a1 b0 b1 hab, fun z => by rw [su_k _ _ _ (by decide)]; exact h.2.2.2 z⟩
/-- the least crossing of the sets that part -/
theorem m_least_e (N : Nat) (hN : 4999 < N) {d σ0 σ : St} {g n a b : Int} (hL : LO d σ0 σ) (hd : DI d) (hn : n = sz (bo d) g (d 0 1)) (hn2 : n ≤ 12) (hm : ME d g (σ 24)) (ha : 0 ≤ a ∧ a < n) (hb : 0 ≤ b ∧ b < n) :
    ∃ L, itr (m_cut_151 N n a b) (fun _ _ _ => none) N 399 0 σ = some (L, σ) ∧ (L = 399 ∨ ∃ q : Nat, q.testBit a.toNat = true ∧ q.testBit b.toNat = false ∧ ot (ad d (σ 24)) n (fun i => q.testBit i.toNat) = L) ∧ ∀ q : Nat, q < 2 ^ n.toNat → q.testBit a.toNat = true → q.testBit b.toNat = false → L ≤ ot (ad d (σ 24)) n (fun i => q.testBit i.toNat) := by
  have hp : 2 ^ n.toNat ≤ 4096 := Nat.le_trans (Nat.pow_le_pow_right (by omega) (show n.toNat ≤ 12 by omega)) (by decide)
  have hp0 := Nat.two_pow_pos n.toNat
  have esl : sl32 1 n = ((2 ^ n.toNat : Nat) : Int) := by
    have := bi_sl n.toNat (by omega)
    rw [show ((n.toNat : Nat) : Int) = n by omega] at this
    exact this
  have bnd : ∀ X : Int → Bool, 0 ≤ ot (ad d (σ 24)) n X ∧ ot (ad d (σ 24)) n X ≤ 144 := by
    intro X
    have t : ∀ i j, 0 ≤ ad d (σ 24) i j ∧ ad d (σ 24) i j ≤ 1 := fun i j => by
      have := lk_r d (σ 24 i) (σ 24 j)
      unfold ad
      split <;> omega
    refine ⟨ot_ge (by omega) (fun i j _ _ _ _ => (t i j).1), ?_⟩
    have := S_le (f := fun i => S (fun j => if X i = true ∧ X j = false then ad d (σ 24) i j else 0) n) (n := n) (hi := 12) (fun i _ _ => by
      have := S_le (f := fun j => if X i = true ∧ X j = false then ad d (σ 24) i j else 0) (n := n) (hi := 1) (fun j _ _ => by
        have := t i j
        show (if X i = true ∧ X j = false then ad d (σ 24) i j else 0) ≤ 1
        split <;> omega) (by omega)
      omega) (by omega)
    unfold ot; omega
  refine lq2 (Out := fun z => ∃ L, z = some (L, σ) ∧ (L = 399 ∨ ∃ q : Nat, q.testBit a.toNat = true ∧ q.testBit b.toNat = false ∧ ot (ad d (σ 24)) n (fun i => q.testBit i.toNat) = L) ∧ ∀ q : Nat, q < 2 ^ n.toNat → q.testBit a.toNat = true → q.testBit b.toNat = false → L ≤ ot (ad d (σ 24)) n (fun i => q.testBit i.toNat)) (Inv := fun L x s => s = σ ∧ 0 ≤ L ∧ L ≤ 399 ∧ ∃ v : Nat, x = v ∧ v ≤ 2 ^ n.toNat ∧ (L = 399 ∨ ∃ q : Nat, q.testBit a.toNat = true ∧ q.testBit b.toNat = false ∧ ot (ad d (σ 24)) n (fun i => q.testBit i.toNat) = L) ∧ ∀ q : Nat, q < v → q.testBit a.toNat = true → q.testBit b.toNat = false → L ≤ ot (ad d (σ 24)) n (fun i => q.testBit i.toNat)) (fun _ x _ => 4096 - x) ?_ ?_ N 399 0 σ ⟨rfl, by omega, by omega, 0, rfl, by omega, Or.inl rfl, fun q h => by omega⟩ (by omega)
  · rintro k L x s ⟨rfl, l0, l1, v, rfl, hv, hL1, hL2⟩
    unfold m_cut_151 m_cut_203 m_cut_205
    rw [esl]
    by_cases c : 2 ^ n.toNat ≤ v
    · left
      rw [if_pos ((le32_i (by omega) (by omega) (by omega) (by omega)).mpr (by omega))]
      exact ⟨L, rfl, hL1, fun q h => hL2 q (by omega)⟩
    · right
      rw [if_neg (fun z => by rw [le32_i (by omega) (by omega) (by omega) (by omega)] at z; omega), bit_i (by omega) ha.1 (by omega), bit_i (by omega) hb.1 (by omega)]
      have go : (v.testBit a.toNat = true → v.testBit b.toNat = false → L ≤ ot (ad d (s 24)) n (fun i => v.testBit i.toNat)) → ∃ a' b' σ', k L ((v : Int) + 1) s = k a' b' σ' ∧ (σ' = s ∧ 0 ≤ a' ∧ a' ≤ 399 ∧ ∃ w : Nat, b' = w ∧ w ≤ 2 ^ n.toNat ∧ (a' = 399 ∨ ∃ q : Nat, q.testBit a.toNat = true ∧ q.testBit b.toNat = false ∧ ot (ad d (s 24)) n (fun i => q.testBit i.toNat) = a') ∧ ∀ q : Nat, q < w → q.testBit a.toNat = true → q.testBit b.toNat = false → a' ≤ ot (ad d (s 24)) n (fun i => q.testBit i.toNat)) ∧ 4096 - b' < 4096 - (v : Int) := by
        intro hn
        refine ⟨L, (v : Int) + 1, s, rfl, ⟨rfl, l0, l1, v + 1, by omega, by omega, hL1, fun q hq qa qb => ?_⟩, by omega⟩
        by_cases e : q = v
        · rw [e] at qa qb ⊢; exact hn qa qb
        · exact hL2 q (by omega) qa qb
      by_cases c1 : v.testBit a.toNat = true
      · rw [if_pos c1, if_pos (show eq32 1 1 from rfl)]
        by_cases c2 : v.testBit b.toNat = true
        · rw [if_pos c2, if_neg (show ¬ eq32 1 0 by decide)]
          exact go (fun _ z => by rw [c2] at z; exact Bool.noConfusion z)
        · have hbn := bnd (fun i => v.testBit i.toNat)
          rw [if_neg c2, if_pos (show eq32 0 0 from rfl), m_crossing_e N (by omega) hL hd hn hn2 (by omega) hm, bd_k]
          by_cases c3 : L ≤ ot (ad d (s 24)) n (fun i => v.testBit i.toNat)
          · rw [if_pos ((le32_i (by omega) (by omega) (by omega) (by omega)).mpr c3)]
            exact go (fun _ _ => c3)
          · rw [if_neg (fun z => c3 ((le32_i (by omega) (by omega) (by omega) (by omega)).mp z))]
            refine ⟨_, (v : Int) + 1, s, rfl, ⟨rfl, hbn.1, by omega, v + 1, by omega, by omega, Or.inr ⟨v, c1, Bool.eq_false_iff.mpr c2, rfl⟩, fun q hq qa qb => ?_⟩, by omega⟩
            by_cases e : q = v
            · rw [e]; exact Int.le_refl _
            · have := hL2 q (by omega) qa qb
              omega
      · rw [if_neg c1, if_neg (show ¬ eq32 0 1 by decide)]
        exact go (fun z => absurd z c1)
  · rintro L x s ⟨-, -, -, v, rfl, hv, -⟩; omega
theorem m_cutb_e (N : Nat) (hN : 4999 < N) {d σ0 σ : St} {g a b : Int} (hM : MB d σ0 σ) (hd : DI d) (hn2 : sz (bo d) g (d 0 1) ≤ 12) (ha : 0 ≤ a ∧ a < d 0 1) (hb : 0 ≤ b ∧ b < d 0 1) (hga : bo d a = g) (hgb : bo d b = g) :
    ∃ L σ', itr (m_cut_73 N a b) (fun _ _ _ _ _ => none) N 0 0 0 0 σ = some (L, σ') ∧ RM d σ' ∧ ME d g (σ' 24) ∧ (L = 399 ∨ ∃ q : Nat, q.testBit (sz (bo d) g a).toNat = true ∧ q.testBit (sz (bo d) g b).toNat = false ∧ ot (ad d (σ' 24)) (sz (bo d) g (d 0 1)) (fun i => q.testBit i.toNat) = L) ∧ ∀ q : Nat, q < 2 ^ (sz (bo d) g (d 0 1)).toNat → q.testBit (sz (bo d) g a).toNat = true → q.testBit (sz (bo d) g b).toNat = false → L ≤ ot (ad d (σ' 24)) (sz (bo d) g (d 0 1)) (fun i => q.testBit i.toNat) := by
  have hR := hd.rows
  have la := sz_lt (f := bo d) (b := g) ha.1 ha.2 hga
  have lb := sz_lt (f := bo d) (b := g) hb.1 hb.2 hgb
  have za := sz_r (bo d) g ha.1
  have zb := sz_r (bo d) g hb.1
  have hB := hM.2.1
  refine lq4 (Out := fun z => ∃ L σ', z = some (L, σ') ∧ RM d σ' ∧ ME d g (σ' 24) ∧ (L = 399 ∨ ∃ q : Nat, q.testBit (sz (bo d) g a).toNat = true ∧ q.testBit (sz (bo d) g b).toNat = false ∧ ot (ad d (σ' 24)) (sz (bo d) g (d 0 1)) (fun i => q.testBit i.toNat) = L) ∧ ∀ q : Nat, q < 2 ^ (sz (bo d) g (d 0 1)).toNat → q.testBit (sz (bo d) g a).toNat = true → q.testBit (sz (bo d) g b).toNat = false → L ≤ ot (ad d (σ' 24)) (sz (bo d) g (d 0 1)) (fun i => q.testBit i.toNat))
    (Inv := fun u v w r s => LO d σ0 s ∧ (∀ x, 0 ≤ x → x < d 0 1 → s 23 x = bo d x) ∧ 0 ≤ r ∧ r ≤ d 0 1 ∧ u = sz (bo d) g r ∧ (a < r → v = sz (bo d) g a) ∧ (b < r → w = sz (bo d) g b) ∧ ∀ x, 0 ≤ x → x < r → bo d x = g → s 24 (sz (bo d) g x) = x) (fun _ _ _ r _ => d 0 1 - r) ?_ ?_ N 0 0 0 0 σ ⟨hM.1, hM.2.2, by omega, by omega, rfl, fun z => by omega, fun z => by omega, fun x _ _ => by omega⟩ (by omega)
  · rintro k u v w r s ⟨h1, h2, r0, r1, rfl, hv, hw, h4⟩
    unfold m_cut_73
    rw [h1.1.2.1 1 rfl]
    by_cases c : d 0 1 ≤ r
    · left
      have hm : ME d g (s 24) := fun x x0 x1 xb => h4 x x0 (by omega) xb
      obtain ⟨L, e1, e2, e3⟩ := m_least_e N hN h1 hd rfl hn2 hm (a := sz (bo d) g a) (b := sz (bo d) g b) (by omega) (by omega)
      rw [if_pos ((le32_i (by omega) (by omega) (by omega) (by omega)).mpr c), show r = d 0 1 by omega, hv (by omega), hw (by omega), e1]
      exact ⟨L, s, rfl, h1.1, hm, e2, e3⟩
    · right
      have hbr := bo_r hB r0 (show r < d 0 1 by omega)
      have hba := bo_r hB ha.1 ha.2
      have h0 := sz_r (bo d) g r0
      rw [if_neg (fun z => c ((le32_i (by omega) (by omega) (by omega) (by omega)).mp z)), gd_k (by omega), gd_k (by omega), h2 r r0 (by omega), h2 a ha.1 ha.2]
      by_cases c2 : bo d r = g
      · have hlt := sz_lt (f := bo d) (b := g) r0 (show r < d 0 1 by omega) c2
        rw [if_pos (by rw [c2, hga]), gd_k (by omega)]
        refine ⟨sz (bo d) g r + 1, if r = a then sz (bo d) g r else v, if r = b then sz (bo d) g r else w, r + 1, su s 24 (sz (bo d) g r) r, ?_, ⟨LO_24 h1, fun x x0 x1 => by rw [su_k _ _ _ (by decide)]; exact h2 x x0 x1, by omega, by omega, by rw [sz_s _ _ r0, b01_t c2], fun z => ?_, fun z => ?_, fun x x0 x1 xb => ?_⟩, by omega⟩
        · unfold m_cut_118 m_cut_132 m_cut_137
          by_cases z1 : r = a
          · rw [if_pos ((eq32_i (by omega) (by omega) (by omega) (by omega)).mpr z1), if_pos z1]
            by_cases z2 : r = b
            · rw [if_pos ((eq32_i (by omega) (by omega) (by omega) (by omega)).mpr z2), if_pos z2]
            · rw [if_neg (fun z => z2 ((eq32_i (by omega) (by omega) (by omega) (by omega)).mp z)), if_neg z2]
          · rw [if_neg (fun z => z1 ((eq32_i (by omega) (by omega) (by omega) (by omega)).mp z)), if_neg z1]
            by_cases z2 : r = b
            · rw [if_pos ((eq32_i (by omega) (by omega) (by omega) (by omega)).mpr z2), if_pos z2]
            · rw [if_neg (fun z => z2 ((eq32_i (by omega) (by omega) (by omega) (by omega)).mp z)), if_neg z2]
        · by_cases e : r = a
          · rw [if_pos e, e]
          · rw [if_neg e]; exact hv (by omega)
        · by_cases e : r = b
          · rw [if_pos e, e]
          · rw [if_neg e]; exact hw (by omega)
        · rw [su_r]
          by_cases e : x = r
          · rw [if_pos (by rw [e]), e]
          · have := sz_lt (f := bo d) (b := g) x0 (show x < r by omega) xb
            rw [if_neg (by omega)]; exact h4 x x0 (by omega) xb
      · unfold m_cut_137
        rw [if_neg (fun z => by rw [eq32_i (by omega) (by omega) (by omega) (by omega)] at z; omega)]
        refine ⟨sz (bo d) g r, v, w, r + 1, s, rfl, ⟨h1, h2, by omega, by omega, by rw [sz_s _ _ r0, b01_f c2, Int.add_zero], fun z => ?_, fun z => ?_, fun x x0 x1 xb => ?_⟩, by omega⟩
        · by_cases e : r = a
          · rw [e] at c2; exact absurd hga c2
          · exact hv (by omega)
        · by_cases e : r = b
          · rw [e] at c2; exact absurd hgb c2
          · exact hw (by omega)
        · by_cases e : x = r
          · rw [e] at xb; exact absurd xb c2
          · exact h4 x x0 (by omega) xb
  · rintro u v w r s ⟨-, -, r0, r1, -⟩; omega
theorem sim_cut {N : Nat} (hN : 4999 < N) {σx σm : St} (h : RR σx σm) : ∀ a : Int, i32 a → ∀ b : Int, i32 b → OKp RR (x_cut N a b σx) (m_cut N a b σm) := by
  obtain ⟨d, hx, hm, hd⟩ := h
  intro a ha b hb
  have hR := hd.rows
  unfold x_cut m_cut
  rw [x_Rows_arePair_e N ha hb hx hd, m_areTwo_e N ha hb hm hd, bd_k, bd_k]
  simp only [b01_0, itn]
  by_cases c : two d a b
  · obtain ⟨s1, e1, e2⟩ := x_gather_e N (by omega) hx hd
    obtain ⟨s2, f1, f2⟩ := m_binds_e N hN hm hd
    have g1 : inb a 36 := by omega
    have g2 : inb b 36 := by omega
    have hB := e2.2.2.1
    have kA := kn_r d a
    have kB := kn_r d b
    have bA := bo_r hB c.1.1 c.1.2
    have bB := bo_r hB c.2.1.1 c.2.1.2
    unfold x_Bundles_numberOf
    rw [if_pos c, if_pos c, x_areKnown_e N hx hd c.1 c.2.1, bd_k, f1, bd_k]
    simp only [b01_0, itn, gd_k g1, gd_k g2]
    rw [f2.2.2 a c.1.1 c.1.2, f2.2.2 b c.2.1.1 c.2.1.2]
    by_cases c1 : kn d a = 0
    · rw [if_neg (by omega), if_pos ((eq32_i (by omega) (by omega) (by omega) (by omega)).mpr (bA.2.2.mp c1))]
      exact ⟨_, _, _, rfl, rfl, d, hx, f2.1.1, hd⟩
    · have a0 : 0 ≤ bo d a := by
        rcases (show bo d a = -1 ∨ 0 ≤ bo d a by omega) with z | z
        · exact absurd (bA.2.2.mpr z) c1
        · exact z
      rw [if_neg (show ¬ eq32 (bo d a) (-1) from fun z => by rw [eq32_i (by omega) (by omega) (by omega) (by omega)] at z; omega)]
      by_cases c2 : kn d b = 0
      · have := bB.2.2.mp c2
        rw [if_neg (by omega), if_neg (fun z => by rw [eq32_i (by omega) (by omega) (by omega) (by omega)] at z; omega)]
        exact ⟨_, _, _, rfl, rfl, d, hx, f2.1.1, hd⟩
      · rw [if_pos (show kn d a = 1 ∧ kn d b = 1 by omega), e1, bd_k, bd_k, bd_k, e2.2.2.2 a c.1.1 c.1.2, e2.2.2.2 b c.2.1.1 c.2.1.2]
        by_cases c3 : bo d a = bo d b
        · have hsz := sz_r (bo d) (bo d a) hR.1
          rw [if_pos (by rw [c3]), if_pos (by rw [c3]), x_sizeOf_e N (by omega) e2 hd (by omega), bd_k, m_sizeOf_e N (by omega) f2 hd (by omega), bd_k]
          by_cases c4 : sz (bo d) (bo d a) (d 0 1) ≤ 12
          · rw [if_pos ((le32_i (by omega) (by omega) (by omega) (by omega)).mpr c4), if_pos ((le32_i (by omega) (by omega) (by omega) (by omega)).mpr c4)]
            obtain ⟨s3, q1, q2, q3, q4, q5⟩ := x_enter_e N (by omega) e2 hd (g := bo d a) (by omega) c4
            have la := sz_lt (f := bo d) (b := bo d a) c.1.1 c.1.2 rfl
            have lb := sz_lt (f := bo d) (b := bo d a) c.2.1.1 c.2.1.2 c3.symm
            have za := sz_r (bo d) (bo d a) c.1.1
            have zb := sz_r (bo d) (bo d a) c.2.1.1
            have ad01 : ∀ f i j, 0 ≤ ad d f i j ∧ ad d f i j ≤ 1 := fun f i j => by
              have := lk_r d (f i) (f j)
              unfold ad
              split <;> omega
            obtain ⟨k, s4, r1, r2, r3, r4, r5⟩ := x_ways_e N (by omega) q2 q3 c4 (a := sz (bo d) (bo d a) a) (b := sz (bo d) (bo d a) b) (by omega) (by omega) (fun e => c.2.2 (sz_inj c.1.1 c.2.1.1 rfl c3.symm e)) (fun i j i0 i1 j0 j1 => by rw [q5 i j i0 i1 j0 j1]; exact ad01 _ i j)
            obtain ⟨L, s5, t1, t2, t3, t4, t5⟩ := m_cutb_e N hN f2 hd (g := bo d a) c4 c.1 c.2.1 rfl c3.symm
            have eo : ∀ X : Int → Bool, ot (rm s3) (sz (bo d) (bo d a) (d 0 1)) X = ot (ad d (s5 24)) (sz (bo d) (bo d a) (d 0 1)) X := fun X => ot_c (by omega) (fun i j i0 i1 j0 j1 => ⟨Iff.rfl, fun _ => by
              rw [q5 i j i0 i1 j0 j1]
              unfold ad
              rw [ME_u hR.1 q4 t3 i0 i1, ME_u hR.1 q4 t3 j0 j1]⟩)
            have hkL : k = L := by
              obtain ⟨X, xa, xb, xe⟩ := r5
              have mb := mk_bit (fun i => X (i : Int)) (sz (bo d) (bo d a) (d 0 1)).toNat
              have ml := mk_lt (fun i => X (i : Int)) (sz (bo d) (bo d a) (d 0 1)).toNat
              have mX : ∀ i, 0 ≤ i → i < sz (bo d) (bo d a) (d 0 1) → (mk (fun i => X (i : Int)) (sz (bo d) (bo d a) (d 0 1)).toNat).testBit i.toNat = X i := fun i i0 i1 => by
                rw [mb i.toNat (by omega), show ((i.toNat : Nat) : Int) = i by omega]
              have u1 := t5 (mk (fun i => X (i : Int)) (sz (bo d) (bo d a) (d 0 1)).toNat) ml (by rw [mX _ za.1 la]; exact xa) (by rw [mX _ zb.1 lb]; exact xb)
              have u2 : ot (ad d (s5 24)) (sz (bo d) (bo d a) (d 0 1)) (fun i => (mk (fun i => X (i : Int)) (sz (bo d) (bo d a) (d 0 1)).toNat).testBit i.toNat) = ot (ad d (s5 24)) (sz (bo d) (bo d a) (d 0 1)) X := ot_c (by omega) (fun i j i0 i1 j0 j1 => ⟨by rw [mX i i0 i1, mX j j0 j1], fun _ => rfl⟩)
              rw [u2, ← eo X, xe] at u1
              rcases t4 with z | ⟨q, qa, qb, qe⟩
              · omega
              · have u3 := r4 (fun i => q.testBit i.toNat) qa qb
                rw [eo, qe] at u3
                omega
            unfold x_Cut_fewest
            rw [q1, bd_k, x_placeOf_e N (by omega) hd q3 c4 q4 c.1 rfl, bd_k, x_placeOf_e N (by omega) hd q3 c4 q4 c.2.1 c3.symm, bd_k, r1, bd_k, t1, hkL]
            exact ⟨_, _, _, rfl, rfl, d, r2, t2, hd⟩
          · rw [if_neg (fun z => c4 ((le32_i (by omega) (by omega) (by omega) (by omega)).mp z)), if_neg (fun z => c4 ((le32_i (by omega) (by omega) (by omega) (by omega)).mp z))]
            exact ⟨_, _, _, rfl, rfl, d, e2.1, f2.1.1, hd⟩
        · rw [if_neg (fun z => c3 ((eq32_i (by omega) (by omega) (by omega) (by omega)).mp z)), if_neg (fun z => c3 ((eq32_i (by omega) (by omega) (by omega) (by omega)).mp z))]
          exact ⟨_, _, _, rfl, rfl, d, e2.1, f2.1.1, hd⟩
  · rw [if_neg c, if_neg c]
    exact ⟨_, _, _, rfl, rfl, d, hx, hm, hd⟩
