/-! count -/
/-- KNOWN ROWS of a REGISTER; all of them -/
def kc (d : St) (r : Int) : Int := S (fun i => b01 (kn d i = 1 ∧ d 1 i = r)) (d 0 1)
def kt (d : St) : Int := S (kn d) (d 0 1)
theorem kc_in (d : St) (r : Int) {n : Int} (h : 0 ≤ n) : 0 ≤ S (fun i => b01 (kn d i = 1 ∧ d 1 i = r)) n ∧ S (fun i => b01 (kn d i = 1 ∧ d 1 i = r)) n ≤ n := by
  have h1 := S_ge (f := fun i => b01 (kn d i = 1 ∧ d 1 i = r)) (n := n) (lo := 0) (fun i _ _ => b01_r.1) h
  have h2 := S_le (f := fun i => b01 (kn d i = 1 ∧ d 1 i = r)) (n := n) (hi := 1) (fun i _ _ => b01_r.2) h
  omega
theorem kc_r {d : St} (hd : DI d) (r : Int) : 0 ≤ kc d r ∧ kc d r ≤ 36 := by
  have := kc_in d r hd.rows.1
  have := hd.rows
  unfold kc; omega
theorem kt_e {d : St} (hd : DI d) : kt d = kc d 0 + kc d 1 + kc d 2 := by
  unfold kt kc
  rw [← S_ad _ _ hd.rows.1, ← S_ad _ _ hd.rows.1]
  refine S_c (fun i h0 h1 => ?_) hd.rows.1
  have hr := hd.row i h0 h1
  have hk := kn_r d i
  show kn d i = b01 _ + b01 _ + b01 _
  by_cases c : kn d i = 0
  · rw [b01_f (by omega), b01_f (by omega), b01_f (by omega), c]; rfl
  · rcases (show d 1 i = 0 ∨ d 1 i = 1 ∨ d 1 i = 2 by omega) with e | e | e
    · rw [b01_t (by omega), b01_f (by omega), b01_f (by omega)]; omega
    · rw [b01_f (by omega), b01_t (by omega), b01_f (by omega)]; omega
    · rw [b01_f (by omega), b01_f (by omega), b01_t (by omega)]; omega
theorem m_knownOf_e (N : Nat) (hN : 100 < N) {d σ : St} (hm : RM d σ) (hd : DI d) {r : Int} (hr : i32 r) : m_knownOf N r σ = some (kc d r, σ) := by
  have hR := hd.rows
  unfold m_knownOf
  refine lq2 (Out := fun x => x = some (kc d r, σ)) (Inv := fun v i s => s = σ ∧ 0 ≤ i ∧ i ≤ d 0 1 ∧ v = S (fun i => b01 (kn d i = 1 ∧ d 1 i = r)) i) (fun _ i _ => d 0 1 - i) ?_ ?_ N 0 0 σ ⟨rfl, by omega, by omega, rfl⟩ (by omega)
  · rintro k v i s ⟨rfl, h0, h1, rfl⟩
    unfold m_knownOf_4 m_knownOf_35 m_knownOf_36
    rw [hm.2.1 1 rfl]
    simp (disch := omega) only [le32_i]
    by_cases c : d 0 1 ≤ i
    · left; rw [if_pos c, show i = d 0 1 by omega]; rfl
    · right
      have hq := hd.row i h0 (by omega)
      have hk := kn_r d i
      refine ⟨_, i + 1, s, ?_, ⟨rfl, by omega, by omega, rfl⟩, by omega⟩
      rw [if_neg c, m_isKnown_e N hm hd h0 (by omega), bd_k, S_s _ h0, gd_k (by omega), hm.1 1 rfl]
      simp (disch := omega) only [eq32_i]
      by_cases c2 : kn d i = 0
      · rw [if_pos c2, b01_f (by omega)]
      · rw [if_neg c2]
        by_cases c3 : d 1 i = r
        · rw [if_pos c3, b01_t ⟨by omega, c3⟩]
        · rw [if_neg c3, b01_f (fun z => c3 z.2)]
  · rintro v i s ⟨-, h0, h1, -⟩; omega
theorem x_countKnownOf_e (N : Nat) (hN : 100 < N) {d σ : St} (hx : RX d σ) (hd : DI d) {r : Int} (hr : i32 r) : x_Rows_countKnownOf N r σ = some (kc d r, σ) := by
  have hR := hd.rows
  unfold x_Rows_countKnownOf
  refine lq2 (Out := fun x => x = some (kc d r, σ)) (Inv := fun v i s => s = σ ∧ 0 ≤ i ∧ i ≤ d 0 1 ∧ v = S (fun i => b01 (kn d i = 1 ∧ d 1 i = r)) i) (fun _ i _ => d 0 1 - i) ?_ ?_ N 0 0 σ ⟨rfl, by omega, by omega, rfl⟩ (by omega)
  · rintro k v i s ⟨rfl, h0, h1, rfl⟩
    unfold x_Rows_countKnownOf_4 x_Rows_countKnownOf_33
    rw [hx.rows]
    simp (disch := omega) only [le32_i]
    by_cases c : d 0 1 ≤ i
    · left; rw [if_pos c, show i = d 0 1 by omega]; rfl
    · right
      have hq := hd.row i h0 (by omega)
      have hk := kn_r d i
      refine ⟨_, i + 1, s, ?_, ⟨rfl, by omega, by omega, rfl⟩, by omega⟩
      rw [if_neg c, x_Rows_isKnown_e N hx hd h0 (by omega), bd_k, S_s _ h0]
      simp (disch := omega) only [eq32_i]
      by_cases c2 : kn d i = 0
      · rw [if_pos c2, b01_f (by omega), Int.add_zero]
      · rw [if_neg c2, xf_0 N hx hd h0 (by omega), bd_k]
        simp (disch := omega) only [eq32_i]
        by_cases c3 : d 1 i = r
        · rw [if_pos c3, b01_t ⟨by omega, c3⟩]
        · rw [if_neg c3, b01_f (fun z => c3 z.2), Int.add_zero]
  · rintro v i s ⟨-, h0, h1, -⟩; omega
theorem x_countKnown_e (N : Nat) (hN : 100 < N) {d σ : St} (hx : RX d σ) (hd : DI d) : x_Rows_countKnown N σ = some (kt d, σ) := by
  have hR := hd.rows
  unfold x_Rows_countKnown
  refine lq2 (Out := fun x => x = some (kt d, σ)) (Inv := fun v i s => s = σ ∧ 0 ≤ i ∧ i ≤ d 0 1 ∧ v = S (kn d) i) (fun _ i _ => d 0 1 - i) ?_ ?_ N 0 0 σ ⟨rfl, by omega, by omega, rfl⟩ (by omega)
  · rintro k v i s ⟨rfl, h0, h1, rfl⟩
    unfold x_Rows_countKnown_4 x_Rows_countKnown_23
    rw [hx.rows]
    simp (disch := omega) only [le32_i]
    by_cases c : d 0 1 ≤ i
    · left; rw [if_pos c, show i = d 0 1 by omega]; rfl
    · right
      have hk := kn_r d i
      refine ⟨_, i + 1, s, ?_, ⟨rfl, by omega, by omega, rfl⟩, by omega⟩
      rw [if_neg c, x_Rows_isKnown_e N hx hd h0 (by omega), bd_k, S_s _ h0]
      simp (disch := omega) only [eq32_i]
      by_cases c2 : kn d i = 0
      · rw [if_pos c2, c2, Int.add_zero]
      · rw [if_neg c2, show kn d i = 1 by omega]
  · rintro v i s ⟨-, h0, h1, -⟩; omega
def ct (d : St) (w : Int) : Int := if w = 0 then d 0 0 else if w = 1 then d 0 1 else if w = 2 then kt d else if w = 3 then kc d 0 else if w = 4 then kc d 1 else if w = 5 then kc d 2 else if w = 6 then d 0 37 else if w = 7 then d 0 12 else if w = 8 then d 0 51 else -2
theorem x_count_e (N : Nat) (hN : 100 < N) {d σ : St} (hx : RX d σ) (hd : DI d) {w : Int} (hw : i32 w) : x_count N w σ = some (ct d w, σ) := by
  unfold x_count ct
  rw [s32_i hw.1 hw.2, hx.day, hx.rows, hx.chk, hx.typed, hx.fnd, x_countKnown_e N hN hx hd, x_countKnownOf_e N hN hx hd (by omega), x_countKnownOf_e N hN hx hd (by omega), x_countKnownOf_e N hN hx hd (by omega)]
  simp only [bd_k]
  repeat' split
  all_goals rfl
theorem m_count_e (N : Nat) (hN : 100 < N) {d σ : St} (hm : RM d σ) (hd : DI d) {w : Int} (hw : i32 w) : m_count N w σ = some (ct d w, σ) := by
  unfold m_count m_count_80 ct
  rw [s32_i hw.1 hw.2, hm.2.1 0 rfl, hm.2.1 1 rfl, hm.2.1 37 rfl, hm.2.1 12 rfl, hm.2.1 51 rfl, kt_e hd]
  by_cases c0 : w = 0
  · rw [if_pos c0, if_pos c0]
  rw [if_neg c0, if_neg c0]
  by_cases c1 : w = 1
  · rw [if_pos c1, if_pos c1]
  rw [if_neg c1, if_neg c1]
  by_cases c2 : w = 2
  · rw [if_pos c2, if_pos c2, m_knownOf_e N hN hm hd (r := 0) (by omega), bd_k, m_knownOf_e N hN hm hd (r := 1) (by omega), bd_k, m_knownOf_e N hN hm hd (r := 2) (by omega), bd_k]
  rw [if_neg c2, if_neg c2]
  by_cases c3 : w = 3
  · rw [if_pos c3, if_pos c3, c3, m_knownOf_e N hN hm hd (r := 3 - 3) (by omega), bd_k]; rfl
  rw [if_neg c3, if_neg c3]
  by_cases c4 : w = 4
  · rw [if_pos c4, if_pos c4, c4, m_knownOf_e N hN hm hd (r := 4 - 3) (by omega), bd_k]; rfl
  rw [if_neg c4, if_neg c4]
  by_cases c5 : w = 5
  · rw [if_pos c5, if_pos c5, c5, m_knownOf_e N hN hm hd (r := 5 - 3) (by omega), bd_k]; rfl
  rw [if_neg c5, if_neg c5]
  repeat' split
  all_goals rfl
theorem sim_count {N : Nat} (hN : 100 < N) {σx σm : St} (h : RR σx σm) : ∀ a : Int, i32 a → OKp RR (x_count N a σx) (m_count N a σm) := by
  obtain ⟨d, hx, hm, hd⟩ := h
  intro a ha
  exact ⟨_, _, _, x_count_e N hN hx hd ha, m_count_e N hN hm hd ha, d, hx, hm, hd⟩
/-! CHECKED pairs -/
/-- is the k-th CHECKED pair that of a and b -/
def sp (d : St) (a b k : Int) : Prop := (d 25 k = a ∧ d 26 k = b) ∨ (d 25 k = b ∧ d 26 k = a)
/-- k is the first CHECKED pair of a and b, or how many there are -/
def fi (d : St) (a b k : Int) : Prop := 0 ≤ k ∧ k ≤ d 0 37 ∧ (k < d 0 37 → sp d a b k) ∧ ∀ j, 0 ≤ j → j < k → ¬ sp d a b j
theorem fi_u {d : St} {a b k k' : Int} (h : fi d a b k) (g : fi d a b k') : k = k' := by
  obtain ⟨h1, h2, h3, h4⟩ := h
  obtain ⟨g1, g2, g3, g4⟩ := g
  rcases Int.lt_trichotomy k k' with c | c | c
  · exact absurd (h3 (by omega)) (g4 k h1 c)
  · exact c
  · exact absurd (g3 (by omega)) (h4 k' g1 c)
theorem x_find_e (N : Nat) (hN : 100 < N) {d σ : St} (hx : RX d σ) (hd : DI d) {a b : Int} (ha : 0 ≤ a ∧ a < d 0 1) (hb : 0 ≤ b ∧ b < d 0 1) : ∃ k, x_Checks_find N a b σ = some (k, σ) ∧ fi d a b k := by
  have hR := hd.rows
  have hC := hd.chk
  unfold x_Checks_find
  rw [mn32_i (by omega) (by omega) (by omega) (by omega), mx32_i (by omega) (by omega) (by omega) (by omega)]
  refine lq1 (Out := fun x => ∃ k, x = some (k, σ) ∧ fi d a b k) (Inv := fun k s => s = σ ∧ 0 ≤ k ∧ k ≤ d 0 37 ∧ ∀ j, 0 ≤ j → j < k → ¬ sp d a b j) (fun k _ => d 0 37 - k) ?_ ?_ N 0 σ ⟨rfl, by omega, by omega, fun j _ _ => by omega⟩ (by omega)
  · rintro k j s ⟨rfl, h0, h1, h2⟩
    unfold x_Checks_find_16 x_Checks_find_51
    rw [hx.chk]
    simp (disch := omega) only [le32_i]
    by_cases c : d 0 37 ≤ j
    · left
      rw [if_pos c]
      exact ⟨_, rfl, by omega, by omega, fun z => by omega, fun i a b => h2 i a (by omega)⟩
    · obtain ⟨g1, g2, g3⟩ := hx.chks j h0 (by omega)
      have hq := hd.chks j h0 (by omega)
      rw [if_neg c, gd_k (by omega), gd_k (by omega), g1, g2]
      simp (disch := omega) only [eq32_i]
      by_cases c2 : min (d 25 j) (d 26 j) = min a b ∧ max (d 25 j) (d 26 j) = max a b
      · left
        rw [if_pos c2.1, if_pos c2.2]
        exact ⟨j, rfl, h0, h1, fun _ => by unfold sp; omega, h2⟩
      · right
        refine ⟨j + 1, s, ?_, ⟨rfl, by omega, by omega, fun i a0 a1 => ?_⟩, by omega⟩
        · by_cases c3 : min (d 25 j) (d 26 j) = min a b
          · rw [if_pos c3, if_neg (fun z => c2 ⟨c3, z⟩)]
          · rw [if_neg c3]
        · by_cases e : i = j
          · subst e; unfold sp; omega
          · exact h2 i a0 (by omega)
  · rintro k s ⟨-, h0, h1, -⟩; omega
theorem fi_r {d : St} (hd : DI d) {a b k : Int} (h : fi d a b k) : 0 ≤ k ∧ k ≤ 40 := by
  have := hd.chk
  unfold fi at h; omega
theorem RX_chk {d d' σ σ' : St} (S' : sam d d') (e0 : ∀ j, j ≠ 37 → d' 0 j = d 0 j) (e1 : ∀ k : Nat, k ≠ 0 → k ≠ 25 → k ≠ 26 → k ≠ 27 → d' k = d k) (f0 : ∀ k : Nat, k ≠ 10 → k ≠ 36 → k ≠ 37 → k ≠ 38 → σ' k = σ k) (f1 : σ' 10 3 = d' 0 37) (f2 : ∀ k, 0 ≤ k → k < d' 0 37 → σ' 36 k = min (d' 25 k) (d' 26 k) ∧ σ' 37 k = max (d' 25 k) (d' 26 k) ∧ σ' 38 k = d' 27 k) (h : RX d σ) : RX d' σ' := by
  obtain ⟨⟨a1, a2, a3, a4, a5, a6, a7, a8⟩, b1, b2, b3, b4, b5, b6, b7, b8, b9, c1, c2, c3⟩ := h
  unfold RX
  rw [sam_ft S', sam_fg S', sam_sm S', sam_sf S', sam_sl S', e0 1 (by decide), e0 0 (by decide), e0 10 (by decide), e0 12 (by decide), e0 24 (by decide), e0 51 (by decide)]
  simp (disch := decide) only [e1, f0]
  exact ⟨⟨a1, a2, a3, a4, a5, a6, f1, a8⟩, b1, b2, b3, b4, b5, b6, b7, b8, b9, f2, c2, c3⟩
theorem sim_check {N : Nat} (hN : 100 < N) {σx σm : St} (h : RR σx σm) : ∀ a : Int, i32 a → ∀ b : Int, i32 b → ∀ o : Int, bit1 o → OKp RR (x_check N a b o σx) (m_check N a b o σm) := by
  obtain ⟨d, hx, hm, hd⟩ := h
  intro a ha b hb o ho
  have hR := hd.rows
  have hC := hd.chk
  unfold x_check m_check
  rw [x_Rows_arePair_e N ha hb hx hd, m_areTwo_e N ha hb hm hd, bd_k, bd_k]
  simp only [b01_0, itn]
  by_cases c : two d a b
  · obtain ⟨k, ek, hk⟩ := x_find_e N hN hx hd c.1 c.2.1
    have hkr := fi_r hd hk
    rw [if_pos c, if_pos c]
    have em : ∃ σ', itr (m_check_15 N a b o) (fun _ _ => none) N 0 σm = (if k < d 0 37 then some (d 0 37, su σm 27 k o) else if d 0 37 = 40 then some (-4, σm) else some (d 0 37 + 1, su (su (su (su σm 25 (d 0 37) a) 26 (d 0 37) b) 27 (d 0 37) o) 0 37 (d 0 37 + 1))) ∧ σ' = σm := by
      refine ⟨σm, ?_, rfl⟩
      refine lq1 (Out := fun x => x = (if k < d 0 37 then some (d 0 37, su σm 27 k o) else if d 0 37 = 40 then some (-4, σm) else some (d 0 37 + 1, su (su (su (su σm 25 (d 0 37) a) 26 (d 0 37) b) 27 (d 0 37) o) 0 37 (d 0 37 + 1)))) (Inv := fun j s => s = σm ∧ 0 ≤ j ∧ j ≤ k) (fun j _ => k - j) ?_ ?_ N 0 σm ⟨rfl, by omega, by omega⟩ (by omega)
      · rintro kk j s ⟨rfl, h0, h1⟩
        have hk4 := hk
        obtain ⟨k1, k2, k3, k4⟩ := hk
        unfold m_check_15 m_check_46 m_check_68 m_check_81
        simp (disch := decide) only [su_k]
        rw [hm.2.1 37 rfl, hm.1 25 rfl, hm.1 26 rfl]
        simp (disch := omega) only [le32_i, eq32_i]
        by_cases c2 : d 0 37 ≤ j
        · left
          rw [if_pos c2, if_neg (show ¬ k < d 0 37 by omega)]
          by_cases c3 : d 0 37 = 40
          · rw [if_pos c3, if_pos c3]
          · have g : inb (d 0 37) 40 := by omega
            rw [if_neg c3, if_neg c3, gd_k g, gd_k g, gd_k g, gd_k ho, su_e]
        · have hq := hd.chks j h0 (by omega)
          have g : inb j 40 := by omega
          rw [if_neg c2]
          simp only [gd_k g, gd_k ho]
          simp (disch := omega) only [eq32_i]
          by_cases e : j = k
          · left
            subst e
            have := k3 (by omega)
            unfold sp at this
            rw [if_pos (show j < d 0 37 by omega)]
            by_cases c3 : d 25 j = a
            · rw [if_pos c3]
              by_cases c4 : d 26 j = b
              · rw [if_pos c4]
              · rw [if_neg c4, if_pos (show d 25 j = b by omega), if_pos (show d 26 j = a by omega)]
            · rw [if_neg c3, if_pos (show d 25 j = b by omega), if_pos (show d 26 j = a by omega)]
          · right
            have := k4 j h0 (by omega)
            unfold sp at this
            refine ⟨j + 1, s, ?_, ⟨rfl, by omega, by omega⟩, by omega⟩
            by_cases c3 : d 25 j = a
            · rw [if_pos c3, if_neg (show ¬ d 26 j = b by omega)]
              by_cases c4 : d 25 j = b
              · rw [if_pos c4, if_neg (show ¬ d 26 j = a by omega)]
              · rw [if_neg c4]
            · rw [if_neg c3]
              by_cases c4 : d 25 j = b
              · rw [if_pos c4, if_neg (show ¬ d 26 j = a by omega)]
              · rw [if_neg c4]
      · rintro j s ⟨-, h0, h1⟩; omega
    obtain ⟨-, em, -⟩ := em
    rw [em]
    unfold x_Checks_hasRoomFor x_Checks_note
    rw [ek, bd_k, mn32_i (by omega) (by omega) (by omega) (by omega), mx32_i (by omega) (by omega) (by omega) (by omega)]
    simp (disch := omega) only [le32_i, lt32_i]
    obtain ⟨k1, k2, k3, k4⟩ := hk
    by_cases c1 : 40 ≤ k
    · rw [if_pos c1, bd_k, if_pos (by rfl), if_neg (by omega), if_pos (by omega)]
      exact ⟨_, _, _, rfl, rfl, d, hx, hm, hd⟩
    · have g : inb k 40 := by omega
      rw [if_neg c1, bd_k, if_neg (show ¬ eq32 1 0 by decide), ek, bd_k]
      simp (disch := omega) only [lt32_i]
      rw [if_pos (show k < 40 by omega), gd_k g, gd_k g, gd_k g, gd_k ho, bd_k]
      have e10 : (su (su (su σx 36 k (min a b)) 37 k (max a b)) 38 k o) 10 3 = d 0 37 := by
        rw [su_k _ _ _ (by decide), su_k _ _ _ (by decide), su_k _ _ _ (by decide)]; exact hx.chk
      rw [e10, mx32_i (by omega) (by omega) (by omega) (by omega), su_e]
      by_cases c2 : k < d 0 37
      · have hs := k3 c2
        rw [if_pos c2, show max (d 0 37) (k + 1) = d 0 37 by omega]
        refine ⟨_, _, _, rfl, rfl, su d 27 k o, ?_, RM_uk (by decide) (by decide) (by decide) hm rfl, ?_⟩
        · have e37 : (su d 27 k o) 0 37 = d 0 37 := by rw [su_k _ _ _ (by decide)]
          refine RX_chk (sam_k (by decide)) (fun j _ => by rw [su_k _ _ _ (by decide)]) (fun k' _ _ _ h => by rw [su_k _ _ _ h]) (fun k' h1 h2 h3 h4 => by rw [su_k _ _ _ h1, su_k _ _ _ h4, su_k _ _ _ h3, su_k _ _ _ h2]) (by rw [su_e, e37]) (fun i i0 i1 => ?_) hx
          rw [e37] at i1
          obtain ⟨g1, g2, g3⟩ := hx.chks i i0 i1
          simp (disch := decide) only [su_k]
          rw [su_r, su_r, su_r, su_r]
          by_cases e : i = k
          · rw [if_pos e, if_pos e, if_pos e, if_pos e, e]
            unfold sp at hs
            exact ⟨by omega, by omega, rfl⟩
          · rw [if_neg e, if_neg e, if_neg e, if_neg e]
            exact ⟨g1, g2, g3⟩
        · unfold DI at hd ⊢
          simp (disch := decide) only [su_k]
          obtain ⟨q1, q2, q3, q4, q5, q6, q7, q8, q9, q10, q11, q12, q13, q14, q15⟩ := hd
          refine ⟨q1, q2, q3, q4, q5, q6, q7, q8, q9, q10, q11, q12, q13, fun i i0 i1 => ?_, q15⟩
          have := q14 i i0 i1
          rw [su_r]
          refine ⟨this.1, this.2.1, this.2.2.1, ?_⟩
          by_cases e : i = k
          · rw [if_pos e]; exact ho
          · rw [if_neg e]; exact this.2.2.2
      · have e : k = d 0 37 := by omega
        subst e
        rw [if_neg c2, if_neg (by omega), show max (d 0 37) (d 0 37 + 1) = d 0 37 + 1 by omega]
        refine ⟨_, _, _, rfl, rfl, su (su (su (su d 25 (d 0 37) a) 26 (d 0 37) b) 27 (d 0 37) o) 0 37 (d 0 37 + 1), ?_, RM_uj (by decide) (by decide) (by decide) (RM_uk (by decide) (by decide) (by decide) (RM_uk (by decide) (by decide) (by decide) (RM_uk (by decide) (by decide) (by decide) hm rfl) rfl) rfl), ?_⟩
        · refine RX_chk (sam_t (sam_t (sam_t (sam_k (by decide)) (sam_k (by decide))) (sam_k (by decide))) (sam_j (by decide))) (fun j hj => by rw [su_n _ _ _ _ _ hj, su_k _ _ _ (by decide), su_k _ _ _ (by decide), su_k _ _ _ (by decide)]) (fun k' h0 h1 h2 h3 => by rw [su_k _ _ _ h0, su_k _ _ _ h3, su_k _ _ _ h2, su_k _ _ _ h1]) (fun k' h1 h2 h3 h4 => by rw [su_k _ _ _ h1, su_k _ _ _ h4, su_k _ _ _ h3, su_k _ _ _ h2]) (by rw [su_e, su_e]) (fun i i0 i1 => ?_) hx
          rw [su_e] at i1
          simp (disch := decide) only [su_k]
          rw [su_r, su_r, su_r, su_r, su_r, su_r]
          by_cases e : i = d 0 37
          · rw [if_pos e, if_pos e, if_pos e, if_pos e, if_pos e, if_pos e]
            exact ⟨rfl, rfl, rfl⟩
          · rw [if_neg e, if_neg e, if_neg e, if_neg e, if_neg e, if_neg e]
            exact hx.chks i i0 (by omega)
        · unfold DI at hd ⊢
          simp (disch := decide) only [su_k, su_e, su_n]
          obtain ⟨q1, q2, q3, q4, q5, q6, q7, q8, q9, q10, q11, q12, q13, q14, q15⟩ := hd
          refine ⟨q1, q2, q3, q4, q5, by omega, q7, q8, q9, q10, q11, q12, q13, fun i i0 i1 => ?_, q15⟩
          rw [su_r, su_r, su_r]
          by_cases e : i = d 0 37
          · rw [if_pos e, if_pos e, if_pos e]; exact ⟨c.1, c.2.1, c.2.2, ho⟩
          · rw [if_neg e, if_neg e, if_neg e]; exact q14 i i0 (by omega)
  · rw [if_neg c, if_neg c]
    exact ⟨_, _, _, rfl, rfl, d, hx, hm, hd⟩
