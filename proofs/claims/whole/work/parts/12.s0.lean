/-! BUNDLES -/
/-- a LINK between two ROWS -/
def Lp (d : St) (a b : Int) : Prop := ((0 ≤ a ∧ a < d 0 1) ∧ (0 ≤ b ∧ b < d 0 1) ∧ a ≠ b) ∧ lk d a b = 1
/-- they hang together: whatever is alike along LINKS is alike for both -/
def cn (d : St) (a b : Int) : Prop := ∀ f : Int → Int, (∀ x y, Lp d x y → f x = f y) → f a = f b
theorem cn_rf (d : St) (a : Int) : cn d a a := fun _ _ => rfl
theorem cn_sy {d : St} {a b : Int} (h : cn d a b) : cn d b a := fun f g => (h f g).symm
theorem cn_tr {d : St} {a b c : Int} (h : cn d a b) (h2 : cn d b c) : cn d a c := fun f g => (h f g).trans (h2 f g)
theorem cn_l {d : St} {a b : Int} (h : Lp d a b) : cn d a b := fun f g => g a b h
theorem lk_kn {d : St} {a b : Int} (h : lk d a b = 1) : kn d a = 1 ∧ kn d b = 1 := by
  unfold lk at h
  by_cases c : (kn d a = 1 ∧ kn d b = 1) ∧ d 0 24 ≤ sc d a b
  · exact c.1
  · rw [b01_f c] at h; omega
theorem cn_kn {d : St} {a b : Int} (h : cn d a b) : kn d a = kn d b := h (kn d) (fun x y g => by have := lk_kn g.2; omega)
theorem Lp_sy {d : St} (hd : DI d) {a b : Int} (h : Lp d a b) : Lp d b a := ⟨⟨h.1.2.1, h.1.1, fun z => h.1.2.2 z.symm⟩, by rw [lk_sym hd h.1.2.1 h.1.1]; exact h.2⟩
/-- each ROW's own number, on the way -/
def PL (d : St) (f : Int → Int) : Prop := ∀ r, 0 ≤ r → r < d 0 1 → (kn d r = 0 → f r = -1) ∧ (kn d r = 1 → 0 ≤ f r ∧ f r ≤ r ∧ cn d r (f r))
/-- and at the end -/
def BL (d : St) (f : Int → Int) : Prop := PL d f ∧ ∀ a b, Lp d a b → f a = f b
theorem BL_le {d : St} {f g : Int → Int} (hf : BL d f) (hg : BL d g) {r : Int} (h0 : 0 ≤ r) (h1 : r < d 0 1) (hk : kn d r = 1) : g r ≤ f r := by
  obtain ⟨a1, a2, a3⟩ := (hf.1 r h0 h1).2 hk
  have e := a3 g hg.2
  have k2 := cn_kn a3
  have := (hg.1 (f r) a1 (by omega)).2 (by omega)
  omega
theorem BL_u {d : St} {f g : Int → Int} (hf : BL d f) (hg : BL d g) {r : Int} (h0 : 0 ≤ r) (h1 : r < d 0 1) : f r = g r := by
  have hk := kn_r d r
  by_cases c : kn d r = 0
  · rw [(hf.1 r h0 h1).1 c, (hg.1 r h0 h1).1 c]
  · have a := BL_le hf hg h0 h1 (by omega)
    have b := BL_le hg hf h0 h1 (by omega)
    omega
/-- the BUNDLE of a ROW; -1: not KNOWN -/
noncomputable def bo (d : St) : Int → Int := Classical.epsilon (fun f => BL d f)
theorem bo_b {d : St} {f : Int → Int} (h : BL d f) : BL d (bo d) := Classical.epsilon_spec (p := fun f => BL d f) ⟨f, h⟩
theorem bo_e {d : St} {f : Int → Int} (h : BL d f) {r : Int} (h0 : 0 ≤ r) (h1 : r < d 0 1) : f r = bo d r := BL_u h (bo_b h) h0 h1
theorem bo_r {d : St} (h : BL d (bo d)) {r : Int} (h0 : 0 ≤ r) (h1 : r < d 0 1) : -1 ≤ bo d r ∧ bo d r ≤ r ∧ (kn d r = 0 ↔ bo d r = -1) := by
  have hk := kn_r d r
  have a := h.1 r h0 h1
  by_cases c : kn d r = 0
  · have := a.1 c; omega
  · have := a.2 (by omega); omega
/-- what the class has when BUNDLES are gathered -/
def XB (d σ : St) : Prop := RX d σ ∧ σ 8 1 = d 0 1 ∧ BL d (bo d) ∧ ∀ r, 0 ≤ r → r < d 0 1 → σ 31 r = bo d r
theorem x_join_e (N : Nat) (hN : 100 < N) {d σ : St} (hx : RX d σ) (hd : DI d) (h8 : σ 8 1 = d 0 1) (hr : ∀ r, 0 ≤ r → r < d 0 1 → -1 ≤ σ 31 r ∧ σ 31 r < 36) {x y : Int} (hx0 : 0 ≤ x ∧ x < 36) (hy0 : 0 ≤ y ∧ y < 36) : ∃ σ', x_Bundles_join N x y σ = some (0, σ') ∧ RX d σ' ∧ σ' 8 1 = d 0 1 ∧ ∀ r, 0 ≤ r → r < d 0 1 → σ' 31 r = if σ 31 r = max x y then min x y else σ 31 r := by
  have hR := hd.rows
  unfold x_Bundles_join
  rw [mn32_i (by omega) (by omega) (by omega) (by omega), mx32_i (by omega) (by omega) (by omega) (by omega)]
  refine lq1 (Out := fun z => ∃ σ', z = some (0, σ') ∧ RX d σ' ∧ σ' 8 1 = d 0 1 ∧ ∀ r, 0 ≤ r → r < d 0 1 → σ' 31 r = if σ 31 r = max x y then min x y else σ 31 r) (Inv := fun i s => RX d s ∧ s 8 1 = d 0 1 ∧ 0 ≤ i ∧ i ≤ d 0 1 ∧ (∀ r, 0 ≤ r → r < i → s 31 r = if σ 31 r = max x y then min x y else σ 31 r) ∧ ∀ r, i ≤ r → s 31 r = σ 31 r) (fun i _ => d 0 1 - i) ?_ ?_ N 0 σ ⟨hx, h8, by omega, by omega, fun r _ _ => by omega, fun _ _ => rfl⟩ (by omega)
  · rintro k i s ⟨hs, hs8, h0, h1, ha, hb⟩
    unfold x_Bundles_join_16 x_Bundles_join_45
    rw [hs8]
    by_cases c : d 0 1 ≤ i
    · left
      rw [if_pos ((le32_i (by omega) (by omega) (by omega) (by omega)).mpr c)]
      exact ⟨s, rfl, hs, hs8, fun r r0 r1 => ha r r0 (by omega)⟩
    · right
      have hri := hr i h0 (by omega)
      have g : inb i 36 := by omega
      rw [if_neg (fun z => c ((le32_i (by omega) (by omega) (by omega) (by omega)).mp z)), gd_k g, gd_k g, hb i (by omega)]
      by_cases c2 : σ 31 i = max x y
      · rw [if_pos ((eq32_i (by omega) (by omega) (by omega) (by omega)).mpr c2)]
        refine ⟨i + 1, su s 31 i (min x y), rfl, ⟨RX_k rfl hs, by rw [su_k _ _ _ (by decide)]; exact hs8, by omega, by omega, fun r r0 r1 => ?_, fun r r0 => by rw [su_n _ _ _ _ _ (by omega)]; exact hb r (by omega)⟩, by omega⟩
        rw [su_r]
        by_cases e : r = i
        · rw [if_pos e, e, if_pos c2]
        · rw [if_neg e]; exact ha r r0 (by omega)
      · rw [if_neg (fun z => c2 ((eq32_i (by omega) (by omega) (by omega) (by omega)).mp z))]
        refine ⟨i + 1, s, rfl, ⟨hs, hs8, by omega, by omega, fun r r0 r1 => ?_, fun r r0 => hb r (by omega)⟩, by omega⟩
        by_cases e : r = i
        · rw [e, if_neg c2]; exact hb i (by omega)
        · exact ha r r0 (by omega)
  · rintro i s ⟨-, -, h0, h1, -⟩; omega
theorem PL_r {d : St} (hd : DI d) {f : Int → Int} (h : PL d f) : ∀ r, 0 ≤ r → r < d 0 1 → -1 ≤ f r ∧ f r < 36 := by
  intro r h0 h1
  have hR := hd.rows
  have hk := kn_r d r
  have a := h r h0 h1
  by_cases c : kn d r = 0
  · have := a.1 c; omega
  · have := a.2 (by omega); omega
theorem PL_0 {d : St} {f : Int → Int} (h : ∀ r, 0 ≤ r → r < d 0 1 → f r = if kn d r = 0 then -1 else r) : PL d f := by
  intro r h0 h1
  rw [h r h0 h1]
  refine ⟨fun c => by rw [if_pos c], fun c => ?_⟩
  rw [if_neg (by omega)]
  exact ⟨h0, Int.le_refl r, cn_rf d r⟩
/-- two labels made one -/
theorem PL_j {d : St} {f g : Int → Int} (h : PL d f) {a b : Int} (hl : Lp d a b) (hg : ∀ r, 0 ≤ r → r < d 0 1 → g r = if f r = max (f a) (f b) then min (f a) (f b) else f r) : PL d g := by
  have kk := lk_kn hl.2
  have pa := (h a hl.1.1.1 hl.1.1.2).2 kk.1
  have pb := (h b hl.1.2.1.1 hl.1.2.1.2).2 kk.2
  have cab : cn d (f a) (f b) := cn_tr (cn_sy pa.2.2) (cn_tr (cn_l hl) pb.2.2)
  intro r h0 h1
  rw [hg r h0 h1]
  refine ⟨fun c => ?_, fun c => ?_⟩
  · have := (h r h0 h1).1 c
    rw [if_neg (by omega)]; exact this
  · obtain ⟨q1, q2, q3⟩ := (h r h0 h1).2 c
    by_cases e : f r = max (f a) (f b)
    · rw [if_pos e]
      refine ⟨by omega, by omega, ?_⟩
      by_cases o : f a ≤ f b
      · rw [show min (f a) (f b) = f a by omega]
        rw [show f r = f b by omega] at q3
        exact cn_tr q3 (cn_sy cab)
      · rw [show min (f a) (f b) = f b by omega]
        rw [show f r = f a by omega] at q3
        exact cn_tr q3 cab
    · rw [if_neg e]; exact ⟨q1, q2, q3⟩
theorem x_gather_e (N : Nat) (hN : 100 < N) {d σ : St} (hx : RX d σ) (hd : DI d) : ∃ σ', x_Bundles_gather N σ = some (0, σ') ∧ XB d σ' := by
  have hR := hd.rows
  have e51 : ∀ s, RX d s → s 8 1 = d 0 1 → PL d (s 31) → ∃ σ', itr (x_Bundles_gather_51 N) (fun _ _ => none) N 0 s = some (0, σ') ∧ XB d σ' := by
    intro s hs hs8 hp
    refine lq1 (Out := fun z => ∃ σ', z = some (0, σ') ∧ XB d σ') (Inv := fun a s => RX d s ∧ s 8 1 = d 0 1 ∧ PL d (s 31) ∧ 0 ≤ a ∧ a ≤ d 0 1 ∧ ∀ x y, x < y → x < a → Lp d x y → s 31 x = s 31 y) (fun a _ => d 0 1 - a) ?_ ?_ N 0 s ⟨hs, hs8, hp, by omega, by omega, fun x y _ z hl => by have := hl.1.1; omega⟩ (by omega)
    · rintro k a s ⟨hs, hs8, hp, h0, h1, hj⟩
      unfold x_Bundles_gather_51
      rw [hs8]
      by_cases c : d 0 1 ≤ a
      · left
        rw [if_pos ((le32_i (by omega) (by omega) (by omega) (by omega)).mpr c)]
        have hb : BL d (s 31) := ⟨hp, fun x y hl => by
          have r1 := hl.1.1
          have r2 := hl.1.2.1
          rcases Int.lt_trichotomy x y with z | z | z
          · exact hj x y z (by omega) hl
          · exact absurd z hl.1.2.2
          · exact (hj y x z (by omega) (Lp_sy hd hl)).symm⟩
        exact ⟨s, rfl, hs, hs8, bo_b hb, fun r r0 r1 => bo_e hb r0 r1⟩
      · right
        rw [if_neg (fun z => c ((le32_i (by omega) (by omega) (by omega) (by omega)).mp z))]
        have key : ∃ s', itr (x_Bundles_gather_63 N k a) (fun _ _ => none) N (a + 1) s = k (a + 1) s' ∧ RX d s' ∧ s' 8 1 = d 0 1 ∧ PL d (s' 31) ∧ ∀ x y, x < y → x < a + 1 → Lp d x y → s' 31 x = s' 31 y := by
          refine lq1 (Out := fun z => ∃ s', z = k (a + 1) s' ∧ RX d s' ∧ s' 8 1 = d 0 1 ∧ PL d (s' 31) ∧ ∀ x y, x < y → x < a + 1 → Lp d x y → s' 31 x = s' 31 y) (Inv := fun b s => RX d s ∧ s 8 1 = d 0 1 ∧ PL d (s 31) ∧ a + 1 ≤ b ∧ b ≤ d 0 1 ∧ ∀ x y, x < y → (x < a ∨ (x = a ∧ y < b)) → Lp d x y → s 31 x = s 31 y) (fun b _ => d 0 1 - b) ?_ ?_ N (a + 1) s ⟨hs, hs8, hp, by omega, by omega, fun x y z zz hl => hj x y z (by omega) hl⟩ (by omega)
          · rintro k2 b s' ⟨hs', hs8', hp', b0, b1, hj'⟩
            unfold x_Bundles_gather_63 x_Bundles_gather_111
            rw [hs8']
            by_cases c2 : d 0 1 ≤ b
            · left
              rw [if_pos ((le32_i (by omega) (by omega) (by omega) (by omega)).mpr c2)]
              exact ⟨s', rfl, hs', hs8', hp', fun x y z zz hl => hj' x y z (by have := hl.1.2.1; omega) hl⟩
            · right
              have ha : 0 ≤ a ∧ a < d 0 1 := by omega
              have hb : 0 ≤ b ∧ b < d 0 1 := by omega
              have g1 : inb a 36 := by omega
              have g2 : inb b 36 := by omega
              have r1 := PL_r hd hp' a ha.1 ha.2
              have r2 := PL_r hd hp' b hb.1 hb.2
              have hl := lk_r d a b
              rw [if_neg (fun z => c2 ((le32_i (by omega) (by omega) (by omega) (by omega)).mp z))]
              simp only [gd_k g1, gd_k g2]
              by_cases c3 : s' 31 a = s' 31 b
              · rw [if_pos ((eq32_i (by omega) (by omega) (by omega) (by omega)).mpr c3)]
                refine ⟨b + 1, s', rfl, ⟨hs', hs8', hp', by omega, by omega, fun x y z zz hl => ?_⟩, by omega⟩
                by_cases e : x = a ∧ y = b
                · rw [e.1, e.2]; exact c3
                · exact hj' x y z (by omega) hl
              · rw [if_neg (fun z => c3 ((eq32_i (by omega) (by omega) (by omega) (by omega)).mp z)), x_areLinked_e N hN hs' hd ha hb (by omega), bd_k]
                by_cases c4 : lk d a b = 0
                · rw [if_pos ((eq32_i (by omega) (by omega) (by omega) (by omega)).mpr c4)]
                  refine ⟨b + 1, s', rfl, ⟨hs', hs8', hp', by omega, by omega, fun x y z zz hl => ?_⟩, by omega⟩
                  by_cases e : x = a ∧ y = b
                  · have := hl.2
                    rw [e.1, e.2] at this; omega
                  · exact hj' x y z (by omega) hl
                · have hL : Lp d a b := ⟨⟨ha, hb, by omega⟩, by omega⟩
                  have kk := lk_kn hL.2
                  have p1 := (hp' a ha.1 ha.2).2 kk.1
                  have p2 := (hp' b hb.1 hb.2).2 kk.2
                  obtain ⟨s2, q1, q2, q3, q4⟩ := x_join_e N hN hs' hd hs8' (PL_r hd hp') (x := s' 31 a) (y := s' 31 b) (by omega) (by omega)
                  rw [if_neg (fun z => c4 ((eq32_i (by omega) (by omega) (by omega) (by omega)).mp z)), q1, bd_k]
                  refine ⟨b + 1, s2, rfl, ⟨q2, q3, PL_j hp' hL q4, by omega, by omega, fun x y z zz hl => ?_⟩, by omega⟩
                  rw [q4 x hl.1.1.1 hl.1.1.2, q4 y hl.1.2.1.1 hl.1.2.1.2]
                  by_cases e : x = a ∧ y = b
                  · rw [e.1, e.2]
                    repeat' split
                    all_goals omega
                  · rw [hj' x y z (by omega) hl]
          · rintro b s' ⟨-, -, -, b0, b1, -⟩; omega
        obtain ⟨s', q1, q2, q3, q4, q5⟩ := key
        exact ⟨a + 1, s', q1, ⟨q2, q3, q4, by omega, by omega, q5⟩, by omega⟩
    · rintro a s ⟨-, -, -, h0, h1, -⟩; omega
  unfold x_Bundles_gather
  refine lq1 (Out := fun z => ∃ σ', z = some (0, σ') ∧ XB d σ') (Inv := fun a s => RX d s ∧ s 8 1 = d 0 1 ∧ 0 ≤ a ∧ a ≤ d 0 1 ∧ ∀ r, 0 ≤ r → r < a → s 31 r = if kn d r = 0 then -1 else r) (fun a _ => d 0 1 - a) ?_ ?_ N 0 _ ⟨RX_k rfl hx, by rw [su_e]; exact hx.rows, by omega, by omega, fun r _ _ => by omega⟩ (by omega)
  · rintro k a s ⟨hs, hs8, h0, h1, hp⟩
    unfold x_Bundles_gather_13 x_Bundles_gather_42
    rw [hs8]
    by_cases c : d 0 1 ≤ a
    · left
      rw [if_pos ((le32_i (by omega) (by omega) (by omega) (by omega)).mpr c)]
      exact e51 s hs hs8 (PL_0 (fun r r0 r1 => hp r r0 (by omega)))
    · right
      have hk := kn_r d a
      rw [if_neg (fun z => c ((le32_i (by omega) (by omega) (by omega) (by omega)).mp z)), x_Rows_isKnown_e N hs hd h0 (by omega), bd_k, gd_k (by omega), gd_k (by omega)]
      refine ⟨a + 1, su s 31 a (if kn d a = 0 then -1 else a), ?_, ⟨RX_k rfl hs, by rw [su_k _ _ _ (by decide)]; exact hs8, by omega, by omega, fun r r0 r1 => ?_⟩, by omega⟩
      · by_cases c2 : kn d a = 0
        · rw [if_pos ((eq32_i (by omega) (by omega) (by omega) (by omega)).mpr c2), if_pos c2]
        · rw [if_neg (fun z => c2 ((eq32_i (by omega) (by omega) (by omega) (by omega)).mp z)), if_neg c2]
      · rw [su_r]
        by_cases e : r = a
        · rw [if_pos e, e]
        · rw [if_neg e]; exact hp r r0 (by omega)
  · rintro a s ⟨-, -, h0, h1, -⟩; omega
