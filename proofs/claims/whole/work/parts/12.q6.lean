theorem x_wr_in (N : Nat) {d : St} (hd : DI d) {r s n : Int} (hr : 0 ≤ r ∧ r < d 0 1) (hs : 0 ≤ s ∧ s < 4) (hl : d 33 s = 1) (hn : n ≤ sm d r) (hn2 : n ≤ d 35 s) : ∀ (m : Nat) (k : Int) (σ : St), 0 ≤ k → k ≤ n → n - k < m → (∀ i, 0 ≤ i → i < sm d r → σ 21 (r * 10 + i) = sf d r i) → σ 12 s = d 34 s → itr (x_write_64 N r s n) (fun _ _ => none) m k σ = some (n, zg σ 14 (s * 40 + k) (s * 40 + n) (fun x => kp d s (sf d r (x - s * 40)))) := by
  have hR := hd.rows
  have hS := hd.sh s hs.1 hs.2
  have h1 := sm_r hd hr.1 hr.2
  intro m
  induction m with
  | zero => intro k σ h2 h3 h4; omega
  | succ m ih =>
    intro k σ h2 h3 h4 hg ht
    rw [itr_k, x_write_64]
    by_cases c : n ≤ k
    · rw [if_pos ((le32_i (by omega) (by omega) (by omega) (by omega)).mpr c), zg_e _ _ _ _ _ (by omega)]
    · rw [if_neg (fun z => c ((le32_i (by omega) (by omega) (by omega) (by omega)).mp z))]
      unfold x_Sounds_signAt
      rw [gd_k (by omega), bd_k, hg k h2 (by omega)]
      have e : x_Sheets_setItem N s k (sf d r k) σ = some (0, su σ 14 (s * 40 + k) (kp d s (sf d r k))) := by
        unfold x_Sheets_setItem x_Sheets_setItem_33 kp
        have g1 : inb (s * 40 + k) 160 := by omega
        simp only [gd_k (show inb s 4 from hs), gd_k g1, ht]
        simp (disch := omega) only [eq32_i]
        repeat' split
        all_goals first | rfl | (exfalso; omega)
      rw [e, bd_k, ih (k + 1) _ (by omega) (by omega) (by omega) (fun i a b => by rw [su_k _ _ _ (by decide)]; exact hg i a b) (by rw [su_k _ _ _ (by decide)]; exact ht), show s * 40 + (k + 1) = s * 40 + k + 1 by omega, zg_s σ 14 (s * 40 + k) (s * 40 + n) (kp d s (sf d r k)) (fun x => kp d s (sf d r (x - s * 40))) (by omega) (by show _ = kp d s (sf d r (s * 40 + k - s * 40)); rw [show s * 40 + k - s * 40 = k by omega])]
theorem m_wr_in (N : Nat) {d : St} (hd : DI d) {r s n : Int} (hr : 0 ≤ r ∧ r < d 0 1) (hs : 0 ≤ s ∧ s < 4) (hn : n = min (sm d r) (d 35 s)) : ∀ (m : Nat) (k : Int) (σ : St), 0 ≤ k → k ≤ n → n - k < m → (∀ i, 0 ≤ i → i < sm d r → σ 12 i = sf d r i) → σ 13 0 = sm d r → σ 34 = d 34 → σ 35 = d 35 → itr (m_write_41 N s) (fun _ _ => none) m k σ = some (n, zg σ 36 (40 * s + k) (40 * s + n) (fun x => kp d s (sf d r (x - 40 * s)))) := by
  have hR := hd.rows
  have hS := hd.sh s hs.1 hs.2
  have h1 := sm_r hd hr.1 hr.2
  intro m
  induction m with
  | zero => intro k σ h2 h3 h4; omega
  | succ m ih =>
    intro k σ h2 h3 h4 hg h13 h34 h35
    rw [itr_k, m_write_41, gd_k (show inb 0 2 by omega), h13, h35]
    by_cases c : n ≤ k
    · rw [zg_e _ _ _ _ _ (by omega)]
      by_cases c1 : sm d r ≤ k
      · rw [if_pos ((le32_i (by omega) (by omega) (by omega) (by omega)).mpr c1), show k = n by omega]
      · rw [if_neg (fun z => c1 ((le32_i (by omega) (by omega) (by omega) (by omega)).mp z)), gd_k (show inb s 4 from hs), if_pos ((le32_i (by omega) (by omega) (by omega) (by omega)).mpr (by omega)), show k = n by omega]
    · rw [if_neg (fun z => by rw [le32_i (by omega) (by omega) (by omega) (by omega)] at z; omega), gd_k (show inb s 4 from hs), if_neg (fun z => by rw [le32_i (by omega) (by omega) (by omega) (by omega)] at z; omega), gd_k (show inb k 20 by omega), hg k h2 (by omega)]
      have e : m_lay N s k (sf d r k) σ = some (0, su σ 36 (40 * s + k) (kp d s (sf d r k))) := by
        unfold m_lay m_lay_40 kp
        have g1 : inb (40 * s + k) 160 := by omega
        simp only [gd_k (show inb s 4 from hs), gd_k g1, h34]
        simp (disch := omega) only [eq32_i]
        repeat' split
        all_goals first | rfl | (exfalso; omega)
      rw [e, bd_k, ih (k + 1) _ (by omega) (by omega) (by omega) (fun i a b => by rw [su_k _ _ _ (by decide)]; exact hg i a b) (by rw [su_k _ _ _ (by decide)]; exact h13) (by rw [su_k _ _ _ (by decide)]; exact h34) (by rw [su_k _ _ _ (by decide)]; exact h35), show 40 * s + (k + 1) = 40 * s + k + 1 by omega, zg_s σ 36 (40 * s + k) (40 * s + n) (kp d s (sf d r k)) (fun x => kp d s (sf d r (x - 40 * s))) (by omega) (by show _ = kp d s (sf d r (40 * s + k - 40 * s)); rw [show 40 * s + k - 40 * s = k by omega])]
theorem RX_zitm {d σ : St} {s n : Int} {g g' : Int → Int} (hs : 0 ≤ s ∧ s < 4) (hn : n ≤ 40) (hx : RX d σ) (hd : DI d) (hg : ∀ k, 0 ≤ k → k < n → g (s * 40 + k) = g' (40 * s + k)) : RX (zg d 36 (40 * s + 0) (40 * s + n) g') (zg σ 14 (s * 40 + 0) (s * 40 + n) g) := by
  have S : sam d (zg d 36 (40 * s + 0) (40 * s + n) g') := sam_z (by decide)
  have hsh := hd.sh
  obtain ⟨⟨a1, a2, a3, a4, a5, a6, a7, a8⟩, b1, b2, b3, b4, b5, b6, b7, b8, b9, c1', c2', c3'⟩ := hx
  unfold RX
  simp (disch := decide) only [sam_ft S, sam_fg S, sam_sm S, sam_sf S, sam_sl S, zg_k]
  refine ⟨⟨a1, a2, a3, a4, a5, a6, a7, a8⟩, b1, b2, b3, b4, b5, b6, b7, b8, b9, c1', c2', fun x k g0 g1 g2 g3 => ?_⟩
  have := (hsh x g0 g1).2.2
  rw [zg_r, zg_r]
  by_cases e : x = s ∧ k < n
  · rw [if_pos (by omega), if_pos (by omega), e.1]; exact hg k g2 e.2
  · rw [if_neg (by omega), if_neg (by omega)]; exact c3' x k g0 g1 g2 g3
theorem sim_write {N : Nat} (hN : 100 < N) {σx σm : St} (h : RR σx σm) : ∀ a : Int, i32 a → ∀ b : Int, i32 b → OKp RR (x_write N a b σx) (m_write N a b σm) := by
  obtain ⟨d, hx, hm, hd⟩ := h
  intro r hr s hs
  have hR := hd.rows
  unfold x_write m_write
  rw [x_Rows_has_e N hr hx hd, m_isRow_e N hr hm hd, bd_k, bd_k]
  simp only [b01_0, itn]
  by_cases c1 : 0 ≤ r ∧ r < d 0 1
  · rw [if_pos c1, if_pos c1, x_Sheets_isSheet_e N σx hs, m_isSheet_e N σm hs, bd_k, bd_k]
    simp only [b01_0, itn]
    by_cases c2 : 0 ≤ s ∧ s < 4
    · have hS := hd.sh s c2.1 c2.2
      have r1 := sm_r hd c1.1 c1.2
      rw [if_pos c2, if_pos c2, x_Sheets_isLost_e N c2 hx hd, bd_k, gd_k (show inb s 4 from c2), hm.1 33 rfl]
      simp only [b01_0]
      by_cases c3 : d 33 s = 0
      · rw [if_neg (fun z => z c3), if_pos ((eq32_i (by omega) (by omega) (by omega) (by omega)).mpr c3)]
        exact ⟨_, _, _, rfl, rfl, RR_fnd hx hm hd⟩
      · obtain ⟨σ1, e1, e2, e3, e4⟩ := m_soundOf_e N hN hm hd c1.1 c1.2 (Or.inl rfl)
        unfold x_Sounds_lengthOf x_Sheets_sizeOf
        rw [if_pos c3, if_neg (fun z => c3 ((eq32_i (by omega) (by omega) (by omega) (by omega)).mp z)), gd_k (show inb r 36 by omega), bd_k, gd_k (show inb s 4 from c2), bd_k, (hx.snd r c1.1 c1.2).1, (hx.sh s c2.1 c2.2).2, mn32_i (by omega) (by omega) (by omega) (by omega), e1, bd_k]
        rw [x_wr_in N hd (n := min (sm d r) (d 35 s)) c1 c2 (by omega) (by omega) (by omega) N 0 σx (by omega) (by omega) (by omega) (hx.snd r c1.1 c1.2).2 (by rw [(hx.sh s c2.1 c2.2).1, if_pos (by omega)])]
        rw [m_wr_in N hd (n := min (sm d r) (d 35 s)) c1 c2 rfl N 0 σ1 (by omega) (by omega) (by omega) (fun i a b => by have := e4 i a b; rw [show (10 : Int) * 0 + i = i by omega] at this; exact this) e3 (e2.1.1 34 rfl) (e2.1.1 35 rfl)]
        refine ⟨_, _, _, rfl, rfl, _, RX_zitm c2 (by omega) hx hd (fun k a b => ?_), RM_z (by decide) (by decide) (by decide) e2.1 rfl, DI_zg (fun x a b => ?_) hd⟩
        · show kp d s (sf d r (s * 40 + k - s * 40)) = kp d s (sf d r (40 * s + k - 40 * s))
          rw [show s * 40 + k - s * 40 = k by omega, show 40 * s + k - 40 * s = k by omega]
        · have := sf_r hd c1.1 c1.2 (x - 40 * s) (by omega) (by omega)
          exact kp_r d s _ ⟨by omega, by omega⟩
    · rw [if_neg c2, if_neg c2]
      exact ⟨_, _, _, rfl, rfl, d, hx, hm, hd⟩
  · rw [if_neg c1, if_neg c1]
    exact ⟨_, _, _, rfl, rfl, d, hx, hm, hd⟩
