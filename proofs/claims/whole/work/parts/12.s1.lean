/-! BUNDLES, as the reference binds them -/
theorem S_upd (f : Int → Int) {i v n : Int} (h0 : 0 ≤ i) (h1 : i < n) : S (fun j => if j = i then v else f j) n = S f n + (v - f i) := by
  have key : ∀ m, 0 ≤ m → (m ≤ i → S (fun j => if j = i then v else f j) m = S f m) ∧ (i < m → S (fun j => if j = i then v else f j) m = S f m + (v - f i)) := by
    intro m hm
    refine nind (P := fun m => (m ≤ i → S (fun j => if j = i then v else f j) m = S f m) ∧ (i < m → S (fun j => if j = i then v else f j) m = S f m + (v - f i))) ⟨fun _ => rfl, fun z => by omega⟩ (fun m hm ih => ?_) m hm
    rw [S_s _ hm, S_s f hm]
    refine ⟨fun z => ?_, fun z => ?_⟩
    · rw [ih.1 (by omega), if_neg (by omega)]
    · by_cases e : m = i
      · rw [if_pos e, ih.1 (by omega), e]; omega
      · rw [if_neg e, ih.2 (by omega)]; omega
  exact (key n (by omega)).2 h1
theorem su_f (σ : St) (k : Nat) (i v : Int) : su σ k i v k = fun j => if j = i then v else σ k j := by unfold su; rw [if_pos rfl]
theorem RM_b {d σ : St} {i v : Int} (h : RM d σ) : RM d (su σ 23 i v) := RM_k (by decide) (by decide) (by decide) h
theorem LO_b {d σ0 σ : St} {i v : Int} (h : LO d σ0 σ) : LO d σ0 (su σ 23 i v) :=
  ⟨RM_b h.1, by rw [su_k _ _ _ (by decide)]; exact h.2.1, fun a b a0 a1 b0 b1 hab => by rw [su_k _ _ _ (by decide)]; exact h.2.2.1 a b a0 a1 b0 b1 hab, fun z => by rw [su_k _ _ _ (by decide)]; exact h.2.2.2 z⟩
/-- what the reference has when BUNDLES are bound -/
def MB (d σ0 σ : St) : Prop := LO d σ0 σ ∧ BL d (bo d) ∧ ∀ r, 0 ≤ r → r < d 0 1 → σ 23 r = bo d r
/-- a lesser label taken over along a LINK -/
theorem PL_t {d : St} {f : Int → Int} (h : PL d f) {a b : Int} (hl : Lp d a b) (hb : f b < f a) : PL d (fun j => if j = a then f b else f j) := by
  have kk := lk_kn hl.2
  have pa := (h a hl.1.1.1 hl.1.1.2).2 kk.1
  have pb := (h b hl.1.2.1.1 hl.1.2.1.2).2 kk.2
  intro r h0 h1
  show (kn d r = 0 → (if r = a then f b else f r) = -1) ∧ (kn d r = 1 → 0 ≤ (if r = a then f b else f r) ∧ (if r = a then f b else f r) ≤ r ∧ cn d r (if r = a then f b else f r))
  by_cases e : r = a
  · rw [if_pos e, e]
    exact ⟨fun c => by omega, fun _ => ⟨pb.1, by omega, cn_tr (cn_l hl) pb.2.2⟩⟩
  · rw [if_neg e]; exact h r h0 h1
theorem m_binds_e (N : Nat) (hN : 4999 < N) {d σ : St} (hm : RM d σ) (hd : DI d) : ∃ σ', m_binds N σ = some (0, σ') ∧ MB d σ σ' := by
  have hR := hd.rows
  -- one pass over all pairs
  have pass : ∀ (k41 : Int → St → MM) (s0 : St), LO d σ s0 → PL d (s0 23) → ∃ v s', itr (m_binds_49 N k41) (fun _ _ _ => none) N 0 0 s0 = k41 v s' ∧ LO d σ s' ∧ PL d (s' 23) ∧ ((v = 0 ∧ S (s' 23) (d 0 1) = S (s0 23) (d 0 1) ∧ ∀ x y, Lp d x y → s' 23 x ≤ s' 23 y) ∨ (v = 1 ∧ S (s' 23) (d 0 1) + 1 ≤ S (s0 23) (d 0 1))) := by
    intro k41 s0 hl0 hp0
    refine lq2 (Out := fun z => ∃ v s', z = k41 v s' ∧ LO d σ s' ∧ PL d (s' 23) ∧ ((v = 0 ∧ S (s' 23) (d 0 1) = S (s0 23) (d 0 1) ∧ ∀ x y, Lp d x y → s' 23 x ≤ s' 23 y) ∨ (v = 1 ∧ S (s' 23) (d 0 1) + 1 ≤ S (s0 23) (d 0 1)))) (Inv := fun v a s => LO d σ s ∧ PL d (s 23) ∧ 0 ≤ a ∧ a ≤ d 0 1 ∧ ((v = 0 ∧ S (s 23) (d 0 1) = S (s0 23) (d 0 1) ∧ ∀ x y, x < a → Lp d x y → s 23 x ≤ s 23 y) ∨ (v = 1 ∧ S (s 23) (d 0 1) + 1 ≤ S (s0 23) (d 0 1)))) (fun _ a _ => d 0 1 - a) ?_ ?_ N 0 0 s0 ⟨hl0, hp0, by omega, by omega, Or.inl ⟨rfl, rfl, fun x y z hl => by have := hl.1.1; omega⟩⟩ (by omega)
    · rintro k v a s ⟨hl, hp, h0, h1, hv⟩
      unfold m_binds_49
      rw [hl.1.2.1 1 rfl]
      by_cases c : d 0 1 ≤ a
      · left
        rw [if_pos ((le32_i (by omega) (by omega) (by omega) (by omega)).mpr c)]
        refine ⟨v, s, rfl, hl, hp, ?_⟩
        rcases hv with ⟨v0, e, hh⟩ | ⟨v1, e⟩
        · exact Or.inl ⟨v0, e, fun x y z => hh x y (by have := z.1.1; omega) z⟩
        · exact Or.inr ⟨v1, e⟩
      · right
        rw [if_neg (fun z => c ((le32_i (by omega) (by omega) (by omega) (by omega)).mp z))]
        have key : ∃ v' s', itr (m_binds_59 N k41 k a) (fun _ _ _ => none) N v 0 s = k v' (a + 1) s' ∧ LO d σ s' ∧ PL d (s' 23) ∧ ((v' = 0 ∧ S (s' 23) (d 0 1) = S (s0 23) (d 0 1) ∧ ∀ x y, x < a + 1 → Lp d x y → s' 23 x ≤ s' 23 y) ∨ (v' = 1 ∧ S (s' 23) (d 0 1) + 1 ≤ S (s0 23) (d 0 1))) := by
          refine lq2 (Out := fun z => ∃ v' s', z = k v' (a + 1) s' ∧ LO d σ s' ∧ PL d (s' 23) ∧ ((v' = 0 ∧ S (s' 23) (d 0 1) = S (s0 23) (d 0 1) ∧ ∀ x y, x < a + 1 → Lp d x y → s' 23 x ≤ s' 23 y) ∨ (v' = 1 ∧ S (s' 23) (d 0 1) + 1 ≤ S (s0 23) (d 0 1)))) (Inv := fun v b s => LO d σ s ∧ PL d (s 23) ∧ 0 ≤ b ∧ b ≤ d 0 1 ∧ ((v = 0 ∧ S (s 23) (d 0 1) = S (s0 23) (d 0 1) ∧ ∀ x y, (x < a ∨ (x = a ∧ y < b)) → Lp d x y → s 23 x ≤ s 23 y) ∨ (v = 1 ∧ S (s 23) (d 0 1) + 1 ≤ S (s0 23) (d 0 1)))) (fun _ b _ => d 0 1 - b) ?_ ?_ N v 0 s ⟨hl, hp, by omega, by omega, ?_⟩ (by omega)
          · rintro k2 v b s ⟨hl, hp, b0, b1, hv⟩
            unfold m_binds_59 m_binds_115
            rw [hl.1.2.1 1 rfl]
            by_cases c2 : d 0 1 ≤ b
            · left
              rw [if_pos ((le32_i (by omega) (by omega) (by omega) (by omega)).mpr c2)]
              refine ⟨v, s, rfl, hl, hp, ?_⟩
              rcases hv with ⟨v0, e, hh⟩ | ⟨v1, e⟩
              · exact Or.inl ⟨v0, e, fun x y z w => hh x y (by have := w.1.2.1; omega) w⟩
              · exact Or.inr ⟨v1, e⟩
            · right
              have ha : 0 ≤ a ∧ a < d 0 1 := by omega
              have hb : 0 ≤ b ∧ b < d 0 1 := by omega
              have g1 : inb a 36 := by omega
              have g2 : inb b 36 := by omega
              have r1 := PL_r hd hp a ha.1 ha.2
              have r2 := PL_r hd hp b hb.1 hb.2
              have hlk := lk_r d a b
              rw [if_neg (fun z => c2 ((le32_i (by omega) (by omega) (by omega) (by omega)).mp z))]
              have stay : (Lp d a b → s 23 a ≤ s 23 b) → ∃ v' b' s', k2 v (b + 1) s = k2 v' b' s' ∧ (LO d σ s' ∧ PL d (s' 23) ∧ 0 ≤ b' ∧ b' ≤ d 0 1 ∧ ((v' = 0 ∧ S (s' 23) (d 0 1) = S (s0 23) (d 0 1) ∧ ∀ x y, (x < a ∨ (x = a ∧ y < b')) → Lp d x y → s' 23 x ≤ s' 23 y) ∨ (v' = 1 ∧ S (s' 23) (d 0 1) + 1 ≤ S (s0 23) (d 0 1)))) ∧ d 0 1 - b' < d 0 1 - b := by
                intro hn
                refine ⟨v, b + 1, s, rfl, ⟨hl, hp, by omega, by omega, ?_⟩, by omega⟩
                rcases hv with ⟨v0, e, hh⟩ | ⟨v1, e⟩
                · refine Or.inl ⟨v0, e, fun x y z w => ?_⟩
                  by_cases ee : x = a ∧ y = b
                  · rw [ee.1, ee.2] at w ⊢; exact hn w
                  · exact hh x y (by omega) w
                · exact Or.inr ⟨v1, e⟩
              by_cases c3 : a = b
              · rw [if_pos ((eq32_i (by omega) (by omega) (by omega) (by omega)).mpr c3)]
                exact stay (fun z => absurd c3 z.1.2.2)
              rw [if_neg (fun z => c3 ((eq32_i (by omega) (by omega) (by omega) (by omega)).mp z)), gd_k (by omega), hl.2.2.1 a b ha.1 ha.2 hb.1 hb.2 c3]
              simp only [gd_k g1, gd_k g2]
              by_cases c4 : lk d a b = 0
              · rw [if_pos ((eq32_i (by omega) (by omega) (by omega) (by omega)).mpr c4)]
                exact stay (fun z => by have := z.2; omega)
              rw [if_neg (fun z => c4 ((eq32_i (by omega) (by omega) (by omega) (by omega)).mp z))]
              by_cases c5 : s 23 a ≤ s 23 b
              · rw [if_pos ((le32_i (by omega) (by omega) (by omega) (by omega)).mpr c5)]
                exact stay (fun _ => c5)
              · rw [if_neg (fun z => c5 ((le32_i (by omega) (by omega) (by omega) (by omega)).mp z))]
                have hL : Lp d a b := ⟨⟨ha, hb, c3⟩, by omega⟩
                have hs := S_upd (s 23) (v := s 23 b) ha.1 ha.2
                refine ⟨1, b + 1, su s 23 a (s 23 b), rfl, ⟨LO_b hl, by rw [su_f]; exact PL_t hp hL (by omega), by omega, by omega, Or.inr ⟨rfl, ?_⟩⟩, by omega⟩
                rw [su_f, hs]
                rcases hv with ⟨v0, e, hh⟩ | ⟨v1, e⟩ <;> omega
          · rintro v b s ⟨-, -, b0, b1, -⟩; omega
          · rcases hv with ⟨v0, e, hh⟩ | ⟨v1, e⟩
            · exact Or.inl ⟨v0, e, fun x y z w => hh x y (by have := w.1.2.1; omega) w⟩
            · exact Or.inr ⟨v1, e⟩
        obtain ⟨v', s', q1, q2, q3, q4⟩ := key
        exact ⟨v', a + 1, s', q1, ⟨q2, q3, by omega, by omega, q4⟩, by omega⟩
    · rintro v a s ⟨-, -, h0, h1, -⟩; omega
  have low : ∀ s : St, PL d (s 23) → -36 ≤ S (s 23) (d 0 1) ∧ S (s 23) (d 0 1) ≤ 1296 := by
    intro s hp
    have a := S_ge (f := s 23) (n := d 0 1) (lo := -1) (fun r r0 r1 => (PL_r hd hp r r0 r1).1) hR.1
    have b := S_le (f := s 23) (n := d 0 1) (hi := 36) (fun r r0 r1 => by have := (PL_r hd hp r r0 r1).2; omega) hR.1
    omega
  have e41 : ∀ s : St, LO d σ s → PL d (s 23) → ∃ σ', itr (m_binds_41 N) (fun _ _ => none) N 1 s = some (0, σ') ∧ MB d σ σ' := by
    intro s hl hp
    have hlo := low s hp
    refine lq1 (Out := fun z => ∃ σ', z = some (0, σ') ∧ MB d σ σ') (Inv := fun v s => LO d σ s ∧ PL d (s 23) ∧ (v = 0 ∨ v = 1) ∧ (v = 0 → ∀ x y, Lp d x y → s 23 x ≤ s 23 y)) (fun v s => 2 * (S (s 23) (d 0 1) + 36) + v) ?_ ?_ N 1 s ⟨hl, hp, Or.inr rfl, fun z => by omega⟩ (by omega)
    · rintro k v s ⟨hl, hp, hv, hz⟩
      unfold m_binds_41
      by_cases c : v = 0
      · left
        rw [if_pos ((eq32_i (by omega) (by omega) (by omega) (by omega)).mpr c)]
        have hb : BL d (s 23) := ⟨hp, fun x y w => by have := hz c x y w; have := hz c y x (Lp_sy hd w); omega⟩
        exact ⟨s, rfl, hl, bo_b hb, fun r r0 r1 => bo_e hb r0 r1⟩
      · right
        rw [if_neg (fun z => c ((eq32_i (by omega) (by omega) (by omega) (by omega)).mp z))]
        obtain ⟨v', s', q1, q2, q3, q4⟩ := pass k s hl hp
        refine ⟨v', s', q1, ⟨q2, q3, ?_, fun z => ?_⟩, ?_⟩
        · rcases q4 with q4 | q4
          · exact Or.inl q4.1
          · exact Or.inr q4.1
        · rcases q4 with q4 | q4
          · exact q4.2.2
          · have := q4.1; omega
        · rcases q4 with ⟨e1, e2, -⟩ | ⟨e1, e2⟩
          · rw [e1, e2]; omega
          · rw [e1]; omega
    · rintro v s ⟨-, hp, hv, -⟩
      have := low s hp
      omega
  obtain ⟨s1, g1, g2⟩ := m_looks_e N (by omega) hm hd
  unfold m_binds
  rw [g1, bd_k]
  refine lq1 (Out := fun z => ∃ σ', z = some (0, σ') ∧ MB d σ σ') (Inv := fun a s => LO d σ s ∧ 0 ≤ a ∧ a ≤ d 0 1 ∧ ∀ r, 0 ≤ r → r < a → s 23 r = if kn d r = 0 then -1 else r) (fun a _ => d 0 1 - a) ?_ ?_ N 0 s1 ⟨g2, by omega, by omega, fun r _ _ => by omega⟩ (by omega)
  · rintro k a s ⟨hs, h0, h1, hp⟩
    unfold m_binds_6 m_binds_32
    rw [hs.1.2.1 1 rfl]
    by_cases c : d 0 1 ≤ a
    · left
      rw [if_pos ((le32_i (by omega) (by omega) (by omega) (by omega)).mpr c)]
      exact e41 s hs (PL_0 (fun r r0 r1 => hp r r0 (by omega)))
    · right
      have hk := kn_r d a
      rw [if_neg (fun z => c ((le32_i (by omega) (by omega) (by omega) (by omega)).mp z)), m_isKnown_e N hs.1 hd h0 (by omega), bd_k, gd_k (by omega), gd_k (by omega)]
      refine ⟨a + 1, su s 23 a (if kn d a = 0 then -1 else a), ?_, ⟨LO_b hs, by omega, by omega, fun r r0 r1 => ?_⟩, by omega⟩
      · by_cases c2 : kn d a = 0
        · rw [if_pos ((eq32_i (by omega) (by omega) (by omega) (by omega)).mpr c2), if_pos c2]
        · rw [if_neg (fun z => c2 ((eq32_i (by omega) (by omega) (by omega) (by omega)).mp z)), if_neg c2]
      · rw [su_r]
        by_cases e : r = a
        · rw [if_pos e, e]
        · rw [if_neg e]; exact hp r r0 (by omega)
  · rintro a s ⟨-, h0, h1, -⟩; omega
