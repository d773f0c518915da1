/-! sizes; bundle, bundles, torn -/
def sz (f : Int → Int) (b n : Int) : Int := S (fun r => b01 (f r = b)) n
theorem sz_r (f : Int → Int) (b : Int) {n : Int} (h : 0 ≤ n) : 0 ≤ sz f b n ∧ sz f b n ≤ n := by
  have h1 := S_ge (f := fun r => b01 (f r = b)) (n := n) (lo := 0) (fun i _ _ => b01_r.1) h
  have h2 := S_le (f := fun r => b01 (f r = b)) (n := n) (hi := 1) (fun i _ _ => b01_r.2) h
  unfold sz; omega
theorem x_sizeOf_e (N : Nat) (hN : 100 < N) {d σ : St} (hx : XB d σ) (hd : DI d) {b : Int} (hb : -1 ≤ b ∧ b < 36) : x_Bundles_sizeOf N b σ = some (sz (bo d) b (d 0 1), σ) := by
  have hR := hd.rows
  obtain ⟨hX, h8, hB, h31⟩ := hx
  unfold x_Bundles_sizeOf
  refine lq2 (Out := fun z => z = some (sz (bo d) b (d 0 1), σ)) (Inv := fun v i s => s = σ ∧ 0 ≤ i ∧ i ≤ d 0 1 ∧ v = sz (bo d) b i) (fun _ i _ => d 0 1 - i) ?_ ?_ N 0 0 σ ⟨rfl, by omega, by omega, rfl⟩ (by omega)
  · rintro k v i s ⟨rfl, h0, h1, rfl⟩
    unfold x_Bundles_sizeOf_4 x_Bundles_sizeOf_25
    rw [h8]
    by_cases c : d 0 1 ≤ i
    · left; rw [if_pos ((le32_i (by omega) (by omega) (by omega) (by omega)).mpr c), show i = d 0 1 by omega]
    · right
      have hbr := bo_r hB h0 (show i < d 0 1 by omega)
      refine ⟨sz (bo d) b (i + 1), i + 1, s, ?_, ⟨rfl, by omega, by omega, rfl⟩, by omega⟩
      rw [if_neg (fun z => c ((le32_i (by omega) (by omega) (by omega) (by omega)).mp z)), gd_k (by omega), h31 i h0 (by omega), show sz (bo d) b (i + 1) = sz (bo d) b i + b01 (bo d i = b) from S_s _ h0]
      by_cases c2 : bo d i = b
      · rw [if_pos ((eq32_i (by omega) (by omega) (by omega) (by omega)).mpr c2), b01_t c2]
      · rw [if_neg (fun z => c2 ((eq32_i (by omega) (by omega) (by omega) (by omega)).mp z)), b01_f c2, Int.add_zero]
  · rintro v i s ⟨-, h0, h1, -⟩; omega
theorem m_sizeOf_e (N : Nat) (hN : 100 < N) {d σ0 σ : St} (hm : MB d σ0 σ) (hd : DI d) {b : Int} (hb : -1 ≤ b ∧ b < 36) : m_sizeOf N b σ = some (sz (bo d) b (d 0 1), σ) := by
  have hR := hd.rows
  obtain ⟨hL, hB, h31⟩ := hm
  unfold m_sizeOf
  refine lq2 (Out := fun z => z = some (sz (bo d) b (d 0 1), σ)) (Inv := fun v i s => s = σ ∧ 0 ≤ i ∧ i ≤ d 0 1 ∧ v = sz (bo d) b i) (fun _ i _ => d 0 1 - i) ?_ ?_ N 0 0 σ ⟨rfl, by omega, by omega, rfl⟩ (by omega)
  · rintro k v i s ⟨rfl, h0, h1, rfl⟩
    unfold m_sizeOf_4 m_sizeOf_28
    rw [hL.1.2.1 1 rfl]
    by_cases c : d 0 1 ≤ i
    · left; rw [if_pos ((le32_i (by omega) (by omega) (by omega) (by omega)).mpr c), show i = d 0 1 by omega]
    · right
      have hbr := bo_r hB h0 (show i < d 0 1 by omega)
      refine ⟨sz (bo d) b (i + 1), i + 1, s, ?_, ⟨rfl, by omega, by omega, rfl⟩, by omega⟩
      rw [if_neg (fun z => c ((le32_i (by omega) (by omega) (by omega) (by omega)).mp z)), gd_k (by omega), h31 i h0 (by omega), show sz (bo d) b (i + 1) = sz (bo d) b i + b01 (bo d i = b) from S_s _ h0]
      by_cases c2 : bo d i = b
      · rw [if_pos ((eq32_i (by omega) (by omega) (by omega) (by omega)).mpr c2), b01_t c2]
      · rw [if_neg (fun z => c2 ((eq32_i (by omega) (by omega) (by omega) (by omega)).mp z)), b01_f c2]
  · rintro v i s ⟨-, h0, h1, -⟩; omega
/-- the greatest BUNDLE among the n first -/
noncomputable def gr (d : St) : Nat → Int
  | 0 => 0
  | n + 1 => if bo d n = n then max (gr d n) (sz (bo d) n (d 0 1)) else gr d n
theorem gr_r {d : St} (hd : DI d) (n : Nat) : 0 ≤ gr d n ∧ gr d n ≤ 36 := by
  have hR := hd.rows
  induction n with
  | zero => show 0 ≤ (0 : Int) ∧ (0 : Int) ≤ 36; omega
  | succ n ih =>
    have := sz_r (bo d) n hR.1
    rw [gr]
    split <;> omega
/-- what bundles() tells -/
noncomputable def bi (d : St) (w r : Int) : Int := if bo d r = r then (if w = 0 then 1 else tv d r) else 0
noncomputable def bu (d : St) (w : Int) : Int := if w = 2 then gr d (d 0 1).toNat else S (bi d w) (d 0 1)
theorem bi_r (d : St) (w r : Int) : 0 ≤ bi d w r ∧ bi d w r ≤ 1 := by
  have := tv_r d r
  unfold bi
  repeat' split
  all_goals omega
theorem bi_in (d : St) (w : Int) {n : Int} (h : 0 ≤ n) : 0 ≤ S (bi d w) n ∧ S (bi d w) n ≤ n := by
  have h1 := S_ge (f := bi d w) (n := n) (lo := 0) (fun i _ _ => (bi_r d w i).1) h
  have h2 := S_le (f := bi d w) (n := n) (hi := 1) (fun i _ _ => (bi_r d w i).2) h
  omega
theorem x_greatest_e (N : Nat) (hN : 100 < N) {d σ : St} (hx : XB d σ) (hd : DI d) : x_Bundles_greatest N σ = some (gr d (d 0 1).toNat, σ) := by
  have hR := hd.rows
  unfold x_Bundles_greatest
  refine lq2 (Out := fun z => z = some (gr d (d 0 1).toNat, σ)) (Inv := fun v i s => s = σ ∧ ∃ n : Nat, i = n ∧ i ≤ d 0 1 ∧ v = gr d n) (fun _ i _ => d 0 1 - i) ?_ ?_ N 0 0 σ ⟨rfl, 0, rfl, by omega, rfl⟩ (by omega)
  · rintro k v i s ⟨rfl, n, rfl, h1, rfl⟩
    unfold x_Bundles_greatest_4 x_Bundles_greatest_32
    rw [hx.2.1]
    by_cases c : d 0 1 ≤ n
    · left; rw [if_pos ((le32_i (by omega) (by omega) (by omega) (by omega)).mpr c), show (d 0 1).toNat = n by omega]
    · right
      have hbr := bo_r hx.2.2.1 (r := n) (by omega) (by omega)
      have hg := gr_r hd n
      have hs := sz_r (bo d) n hR.1
      refine ⟨gr d (n + 1), (n : Int) + 1, s, ?_, ⟨rfl, n + 1, by omega, by omega, rfl⟩, by omega⟩
      rw [if_neg (fun z => c ((le32_i (by omega) (by omega) (by omega) (by omega)).mp z)), gd_k (by omega), hx.2.2.2 n (by omega) (by omega), gr]
      by_cases c2 : bo d n = n
      · rw [if_pos ((eq32_i (by omega) (by omega) (by omega) (by omega)).mpr c2), if_pos c2, x_sizeOf_e N hN hx hd (by omega), bd_k, mx32_i (by omega) (by omega) (by omega) (by omega)]
      · rw [if_neg (fun z => c2 ((eq32_i (by omega) (by omega) (by omega) (by omega)).mp z)), if_neg c2]
  · rintro v i s ⟨-, n, rfl, h1, -⟩; omega
theorem x_countAll_e (N : Nat) (hN : 100 < N) {d σ : St} (hx : XB d σ) (hd : DI d) {w : Int} (hw : w = 0 ∨ w = 1) : x_Bundles_countAll N w σ = some (S (bi d w) (d 0 1), σ) := by
  have hR := hd.rows
  unfold x_Bundles_countAll
  refine lq2 (Out := fun z => z = some (S (bi d w) (d 0 1), σ)) (Inv := fun v i s => s = σ ∧ 0 ≤ i ∧ i ≤ d 0 1 ∧ v = S (bi d w) i) (fun _ i _ => d 0 1 - i) ?_ ?_ N 0 0 σ ⟨rfl, by omega, by omega, rfl⟩ (by omega)
  · rintro k v i s ⟨rfl, h0, h1, rfl⟩
    unfold x_Bundles_countAll_5 x_Bundles_countAll_40 x_Bundles_countAll_43
    rw [hx.2.1]
    by_cases c : d 0 1 ≤ i
    · left; rw [if_pos ((le32_i (by omega) (by omega) (by omega) (by omega)).mpr c), show i = d 0 1 by omega]
    · right
      have hbr := bo_r hx.2.2.1 h0 (show i < d 0 1 by omega)
      have htv := tv_r d i
      refine ⟨S (bi d w) (i + 1), i + 1, s, ?_, ⟨rfl, by omega, by omega, rfl⟩, by omega⟩
      rw [if_neg (fun z => c ((le32_i (by omega) (by omega) (by omega) (by omega)).mp z)), gd_k (by omega), hx.2.2.2 i h0 (by omega), S_s _ h0]
      by_cases c2 : bo d i = i
      · rw [if_pos ((eq32_i (by omega) (by omega) (by omega) (by omega)).mpr c2)]
        by_cases c3 : w = 0
        · rw [if_pos ((eq32_i (by omega) (by omega) (by omega) (by omega)).mpr c3), show bi d w i = 1 by unfold bi; rw [if_pos c2, if_pos c3]]
        · rw [if_neg (fun z => c3 ((eq32_i (by omega) (by omega) (by omega) (by omega)).mp z)), x_isTorn_e N hN hx hd (by omega), bd_k, show bi d w i = tv d i by unfold bi; rw [if_pos c2, if_neg c3]]
          by_cases c4 : tv d i = 0
          · rw [if_pos ((eq32_i (by omega) (by omega) (by omega) (by omega)).mpr c4), c4, Int.add_zero]
          · rw [if_neg (fun z => c4 ((eq32_i (by omega) (by omega) (by omega) (by omega)).mp z)), show tv d i = 1 by omega]
      · rw [if_neg (fun z => c2 ((eq32_i (by omega) (by omega) (by omega) (by omega)).mp z)), show bi d w i = 0 by unfold bi; rw [if_neg c2], Int.add_zero]
  · rintro v i s ⟨-, h0, h1, -⟩; omega
theorem m_bundlesOf_e (N : Nat) (hN : 100 < N) {d σ0 σ : St} (hm : MB d σ0 σ) (hd : DI d) {w : Int} (hw : 0 ≤ w ∧ w ≤ 2) : m_bundlesOf N w σ = some (bu d w, σ) := by
  have hR := hd.rows
  have hM := hm.1.1
  have step : ∀ (k : Int → Int → St → MM) (i v : Int), 0 ≤ i → i < d 0 1 → 0 ≤ v → v ≤ 36 → m_bundlesOf_4 N w k v i σ = k (if bo d i = i then (if w = 0 then v + 1 else if w = 1 then v + tv d i else max v (sz (bo d) i (d 0 1))) else v) (i + 1) σ := by
    intro k i v h0 h1 v0 v1
    have hbr := bo_r hm.2.1 h0 h1
    have htv := tv_r d i
    have hs := sz_r (bo d) i hR.1
    unfold m_bundlesOf_4 m_bundlesOf_74 m_bundlesOf_58 m_bundlesOf_75 m_bundlesOf_74 m_bundlesOf_75
    rw [hM.2.1 1 rfl, if_neg (fun z => by rw [le32_i (by omega) (by omega) (by omega) (by omega)] at z; omega), gd_k (by omega), hm.2.2 i h0 h1]
    by_cases c2 : bo d i = i
    · rw [if_pos ((eq32_i (by omega) (by omega) (by omega) (by omega)).mpr c2), if_pos c2, m_sizeOf_e N hN hm hd (by omega), bd_k]
      by_cases c3 : w = 0
      · rw [if_pos ((eq32_i (by omega) (by omega) (by omega) (by omega)).mpr c3), if_pos c3]
      · rw [if_neg (fun z => c3 ((eq32_i (by omega) (by omega) (by omega) (by omega)).mp z)), if_neg c3]
        by_cases c4 : w = 1
        · rw [if_pos ((eq32_i (by omega) (by omega) (by omega) (by omega)).mpr c4), if_pos c4, m_isTorn_e N hN hm hd (by omega), bd_k]
          by_cases c5 : tv d i = 0
          · rw [if_pos ((eq32_i (by omega) (by omega) (by omega) (by omega)).mpr c5), c5]
          · rw [if_neg (fun z => c5 ((eq32_i (by omega) (by omega) (by omega) (by omega)).mp z)), show tv d i = 1 by omega]
        · rw [if_neg (fun z => c4 ((eq32_i (by omega) (by omega) (by omega) (by omega)).mp z)), if_neg c4]
          by_cases c5 : sz (bo d) i (d 0 1) ≤ v
          · rw [if_pos ((le32_i (by omega) (by omega) (by omega) (by omega)).mpr c5), show max v (sz (bo d) i (d 0 1)) = v by omega]
          · rw [if_neg (fun z => c5 ((le32_i (by omega) (by omega) (by omega) (by omega)).mp z)), show max v (sz (bo d) i (d 0 1)) = sz (bo d) i (d 0 1) by omega]
    · rw [if_neg (fun z => c2 ((eq32_i (by omega) (by omega) (by omega) (by omega)).mp z)), if_neg c2]
  have last : ∀ (k : Int → Int → St → MM) (v : Int), m_bundlesOf_4 N w k v (d 0 1) σ = some (v, σ) := by
    intro k v
    unfold m_bundlesOf_4
    rw [hM.2.1 1 rfl, if_pos ((le32_i (by omega) (by omega) (by omega) (by omega)).mpr (Int.le_refl _))]
  unfold m_bundlesOf bu
  by_cases c : w = 2
  · rw [if_pos c]
    refine lq2 (Out := fun z => z = some (gr d (d 0 1).toNat, σ)) (Inv := fun v i s => s = σ ∧ ∃ n : Nat, i = n ∧ i ≤ d 0 1 ∧ v = gr d n) (fun _ i _ => d 0 1 - i) ?_ ?_ N 0 0 σ ⟨rfl, 0, rfl, by omega, rfl⟩ (by omega)
    · rintro k v i s ⟨rfl, n, rfl, h1, rfl⟩
      have hg := gr_r hd n
      by_cases c2 : d 0 1 ≤ n
      · left; rw [show (n : Int) = d 0 1 by omega, last, show (d 0 1).toNat = n by omega]
      · right
        refine ⟨gr d (n + 1), (n : Int) + 1, s, ?_, ⟨rfl, n + 1, by omega, by omega, rfl⟩, by omega⟩
        rw [step k n _ (by omega) (by omega) hg.1 hg.2, gr, if_neg (show ¬ w = 0 by omega), if_neg (show ¬ w = 1 by omega)]
    · rintro v i s ⟨-, n, rfl, h1, -⟩; omega
  · rw [if_neg c]
    refine lq2 (Out := fun z => z = some (S (bi d w) (d 0 1), σ)) (Inv := fun v i s => s = σ ∧ 0 ≤ i ∧ i ≤ d 0 1 ∧ v = S (bi d w) i) (fun _ i _ => d 0 1 - i) ?_ ?_ N 0 0 σ ⟨rfl, by omega, by omega, rfl⟩ (by omega)
    · rintro k v i s ⟨rfl, h0, h1, rfl⟩
      have hi := bi_in d w h0
      by_cases c2 : d 0 1 ≤ i
      · left; rw [show i = d 0 1 by omega, last]
      · right
        refine ⟨S (bi d w) (i + 1), i + 1, s, ?_, ⟨rfl, by omega, by omega, rfl⟩, by omega⟩
        rw [step k i _ h0 (by omega) hi.1 (by omega), S_s _ h0]
        unfold bi
        by_cases c3 : bo d i = i
        · rw [if_pos c3, if_pos c3]
          by_cases c4 : w = 0
          · rw [if_pos c4, if_pos c4]
          · rw [if_neg c4, if_neg c4, if_pos (show w = 1 by omega)]
        · rw [if_neg c3, if_neg c3, Int.add_zero]
    · rintro v i s ⟨-, h0, h1, -⟩; omega
theorem x_bundles_e (N : Nat) (hN : 100 < N) {d σ : St} (hx : RX d σ) (hd : DI d) {w : Int} (hw : i32 w) : ∃ σ', x_bundles N w σ = some (if 0 ≤ w ∧ w < 3 then bu d w else -2, σ') ∧ RX d σ' := by
  unfold x_bundles x_bundles_53
  rw [x_isBelow_e N σ hw.1 hw.2 (by omega) (by omega), bd_k]
  simp only [b01_0, itn]
  by_cases c : 0 ≤ w ∧ w < 3
  · obtain ⟨σ', e1, e2⟩ := x_gather_e N hN hx hd
    refine ⟨σ', ?_, e2.1⟩
    rw [if_pos c, if_pos c, e1, bd_k]
    unfold bu
    by_cases c2 : w = 2
    · rw [if_pos ((eq32_i (by omega) (by omega) (by omega) (by omega)).mpr c2), if_pos c2, x_greatest_e N hN e2 hd, bd_k]
    · rw [if_neg (fun z => c2 ((eq32_i (by omega) (by omega) (by omega) (by omega)).mp z)), if_neg c2]
      by_cases c3 : w = 1
      · rw [if_pos ((eq32_i (by omega) (by omega) (by omega) (by omega)).mpr c3), x_countAll_e N hN e2 hd (Or.inr rfl), bd_k, c3]
      · rw [if_neg (fun z => c3 ((eq32_i (by omega) (by omega) (by omega) (by omega)).mp z)), x_countAll_e N hN e2 hd (Or.inl rfl), bd_k, show w = 0 by omega]
  · rw [if_neg c, if_neg c]; exact ⟨σ, rfl, hx⟩
theorem sim_bundles {N : Nat} (hN : 4999 < N) {σx σm : St} (h : RR σx σm) : ∀ a : Int, i32 a → OKp RR (x_bundles N a σx) (m_bundles N a σm) := by
  obtain ⟨d, hx, hm, hd⟩ := h
  intro a ha
  obtain ⟨s1, e1, e2⟩ := x_bundles_e N (by omega) hx hd ha
  unfold m_bundles
  rw [e1, m_in_e N σm ha.1 ha.2 (by omega) (by omega) (by omega) (by omega), bd_k]
  simp only [b01_0, itn]
  by_cases c : 0 ≤ a ∧ a < 3
  · obtain ⟨s2, f1, f2⟩ := m_binds_e N hN hm hd
    rw [if_pos c, if_pos (show 0 ≤ a ∧ a ≤ 2 by omega), f1, bd_k, m_bundlesOf_e N (by omega) f2 hd (by omega), bd_k]
    exact ⟨_, _, _, rfl, rfl, d, e2, f2.1.1, hd⟩
  · rw [if_neg c, if_neg (show ¬ (0 ≤ a ∧ a ≤ 2) by omega)]
    exact ⟨_, _, _, rfl, rfl, d, e2, hm, hd⟩
theorem sim_bundle {N : Nat} (hN : 4999 < N) {σx σm : St} (h : RR σx σm) : ∀ a : Int, i32 a → OKp RR (x_bundle N a σx) (m_bundle N a σm) := by
  obtain ⟨d, hx, hm, hd⟩ := h
  intro a ha
  have hR := hd.rows
  unfold x_bundle m_bundle
  rw [x_Rows_has_e N ha hx hd, m_isRow_e N ha hm hd, bd_k, bd_k]
  simp only [b01_0, itn]
  by_cases c : 0 ≤ a ∧ a < d 0 1
  · obtain ⟨s1, e1, e2⟩ := x_gather_e N (by omega) hx hd
    obtain ⟨s2, f1, f2⟩ := m_binds_e N hN hm hd
    have hk := kn_r d a
    have hb := bo_r e2.2.2.1 c.1 c.2
    have g : inb a 36 := by omega
    unfold x_Bundles_numberOf
    rw [if_pos c, if_pos c, x_Rows_isKnown_e N hx hd c.1 c.2, bd_k, f1, bd_k, f2.2.2 a c.1 c.2, gd_k g, gd_k g, e1, bd_k, gd_k g, bd_k, e2.2.2.2 a c.1 c.2]
    by_cases c2 : kn d a = 0
    · rw [if_pos ((eq32_i (by omega) (by omega) (by omega) (by omega)).mpr c2), if_pos ((eq32_i (by omega) (by omega) (by omega) (by omega)).mpr (hb.2.2.mp c2))]
      exact ⟨_, _, _, rfl, rfl, d, hx, f2.1.1, hd⟩
    · rw [if_neg (fun z => c2 ((eq32_i (by omega) (by omega) (by omega) (by omega)).mp z)), if_neg (fun z => c2 (hb.2.2.mpr ((eq32_i (by omega) (by omega) (by omega) (by omega)).mp z)))]
      exact ⟨_, _, _, rfl, rfl, d, e2.1, f2.1.1, hd⟩
  · rw [if_neg c, if_neg c]
    exact ⟨_, _, _, rfl, rfl, d, hx, hm, hd⟩
theorem sim_torn {N : Nat} (hN : 4999 < N) {σx σm : St} (h : RR σx σm) : ∀ a : Int, i32 a → OKp RR (x_torn N a σx) (m_torn N a σm) := by
  obtain ⟨d, hx, hm, hd⟩ := h
  intro a ha
  have hR := hd.rows
  unfold x_torn m_torn
  rw [x_Rows_has_e N ha hx hd, m_isRow_e N ha hm hd, bd_k, bd_k]
  simp only [b01_0, itn]
  by_cases c : 0 ≤ a ∧ a < d 0 1
  · obtain ⟨s1, e1, e2⟩ := x_gather_e N (by omega) hx hd
    obtain ⟨s2, f1, f2⟩ := m_binds_e N hN hm hd
    have hk := kn_r d a
    have hb := bo_r e2.2.2.1 c.1 c.2
    have g : inb a 36 := by omega
    unfold x_Bundles_numberOf x_asInt
    rw [if_pos c, if_pos c, x_Rows_isKnown_e N hx hd c.1 c.2, bd_k, f1, bd_k, f2.2.2 a c.1 c.2, gd_k g, gd_k g, e1, bd_k, gd_k g, bd_k, e2.2.2.2 a c.1 c.2]
    by_cases c2 : kn d a = 0
    · rw [if_pos ((eq32_i (by omega) (by omega) (by omega) (by omega)).mpr c2), if_pos ((eq32_i (by omega) (by omega) (by omega) (by omega)).mpr (hb.2.2.mp c2))]
      exact ⟨_, _, _, rfl, rfl, d, hx, f2.1.1, hd⟩
    · have ht := tv_r d (bo d a)
      have h0 : 0 ≤ bo d a := by
        rcases (show bo d a = -1 ∨ 0 ≤ bo d a by omega) with z | z
        · exact absurd (hb.2.2.mpr z) c2
        · exact z
      rw [if_neg (fun z => c2 ((eq32_i (by omega) (by omega) (by omega) (by omega)).mp z)), if_neg (fun z => c2 (hb.2.2.mpr ((eq32_i (by omega) (by omega) (by omega) (by omega)).mp z))), x_isTorn_e N (by omega) e2 hd (by omega), bd_k, m_isTorn_e N (by omega) f2 hd (by omega), bd_k]
      by_cases c3 : tv d (bo d a) = 0
      · rw [if_pos ((eq32_i (by omega) (by omega) (by omega) (by omega)).mpr c3), if_pos ((eq32_i (by omega) (by omega) (by omega) (by omega)).mpr c3), bd_k]
        exact ⟨_, _, _, rfl, rfl, d, e2.1, f2.1.1, hd⟩
      · rw [if_neg (fun z => c3 ((eq32_i (by omega) (by omega) (by omega) (by omega)).mp z)), if_neg (fun z => c3 ((eq32_i (by omega) (by omega) (by omega) (by omega)).mp z)), bd_k]
        exact ⟨_, _, _, rfl, rfl, d, e2.1, f2.1.1, hd⟩
  · rw [if_neg c, if_neg c]
    exact ⟨_, _, _, rfl, rfl, d, hx, hm, hd⟩
