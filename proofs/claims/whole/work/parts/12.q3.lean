theorem m_group_e (N : Nat) (hN : 100 < N) {d σ : St} (hd : DI d) {p : Nat} (hp : (p : Int) ≤ d 0 12) (hP : PM d σ) (h16 : σ 0 16 = -1) (hdu : du (d 10) p = 0) (hA : AM d σ p) : RG d p (m_group N p σ) := by
  have ht := hd.typed
  unfold m_group
  exact m_group_in N hN hd (fun c a b => (hA c a b).2) N p σ (Nat.le_refl p) hp (by omega) hP h16 (by rw [hdu, if_pos rfl]) (fun k a b => by omega) (fun c a b => by
    rw [(hA c a b).1]
    by_cases z : sn (d 10) (c + 97) p = true
    · rw [if_pos z, if_pos z]
    · rw [if_neg z, if_neg z, if_neg z])
theorem PM_zg {d σ : St} {a b : Int} {g : Int → Int} (h : PM d σ) : PM d (zg σ 11 a b g) := ⟨fun k hk => by rw [zg_k σ a b g (fun e => by rw [e] at hk; cases hk)]; exact h.1 k hk, fun j hj => by rw [zg_k σ a b g (by decide)]; exact h.2.1 j hj, by rw [zg_k σ a b g (by decide)]; exact h.2.2⟩
theorem m_r93 (N : Nat) {d : St} (hd : DI d) (hft : 0 ≤ ft d) (hf2 : ft d ≤ 80) : ∀ (m : Nat) (v : Int) (σ : St), 0 ≤ v → v ≤ 26 → 26 - v < m → σ 0 16 = ft d → itr (m_reads_93 N) (fun _ _ => none) m v σ = some (0, zg σ 11 v 26 (fun _ => 0)) := by
  intro m
  induction m with
  | zero => intro v σ h0 h1 h2; omega
  | succ m ih =>
    intro v σ h0 h1 h2 h16
    rw [itr_k, m_reads_93, h16]
    simp (disch := omega) only [le32_i, eq32_i]
    by_cases c : 26 ≤ v
    · rw [if_pos c, zg_e _ _ _ _ _ (by omega)]
    · rw [if_neg c, if_neg (by omega), gd_k (by omega), ih (v + 1) _ (by omega) (by omega) (by omega) (by rw [su_k _ _ _ (by decide)]; exact h16), zg_s σ 11 v 26 0 (fun _ => 0) (by omega) rfl]
theorem ff_le (t : Int → Int) : ∀ n : Nat, ff t n ≤ n := by
  intro n
  induction n with
  | zero => exact Nat.le_refl 0
  | succ n ih =>
    rw [ff]
    repeat' split
    all_goals omega
theorem ft_r {d : St} (hd : DI d) : -1 ≤ ft d ∧ ft d ≤ 80 := by
  have := hd.typed
  have := ff_le (d 10) (d 0 12).toNat
  unfold ft
  repeat' split
  all_goals omega
/-- the text is read, and rightly -/
def RM1 (d σ : St) : Prop := RM d σ ∧ σ 0 15 = 1 ∧ σ 0 16 = ft d ∧ ∀ c, 0 ≤ c → c < 26 → σ 11 c = fg d c
theorem m_r91 (N : Nat) (hN : 100 < N) {d σ : St} (hd : DI d) (hP : PM d σ) (h16 : σ 0 16 = ft d) (hc : ft d = -1 → ∀ c, 0 ≤ c → c < 26 → σ 11 c = fg d c) : ∃ σ', m_reads_91 N σ = some (0, σ') ∧ RM1 d σ' := by
  have hr := ft_r hd
  unfold m_reads_91
  by_cases c : ft d = -1
  · obtain ⟨M, rfl⟩ : ∃ M, N = M + 1 := ⟨N - 1, by omega⟩
    refine ⟨σ, ?_, ⟨hP.1, hP.2.1, Or.inr ⟨hP.2.2, h16, hc c⟩⟩, hP.2.2, h16, hc c⟩
    rw [itr_k, m_reads_93, h16, c, if_neg (show ¬ le32 26 0 by decide), if_pos rfl]
  · rw [m_r93 N hd (by omega) hr.2 N 0 σ (by omega) (by omega) (by omega) h16]
    have hz : ∀ c', 0 ≤ c' → c' < 26 → zg σ 11 0 26 (fun _ => 0) 11 c' = fg d c' := fun c' a b => by
      rw [zg_r, if_pos ⟨a, b⟩]; unfold fg; rw [if_neg c]
    have h1 := PM_zg (a := 0) (b := 26) (g := fun _ => 0) hP
    have h2 : zg σ 11 0 26 (fun _ => 0) 0 16 = ft d := by rw [zg_k _ _ _ _ (by decide)]; exact h16
    exact ⟨_, rfl, ⟨h1.1, h1.2.1, Or.inr ⟨h1.2.2, h2, hz⟩⟩, h1.2.2, h2, hz⟩
theorem m_r45f (N : Nat) (hN : 100 < N) {d σ : St} (hd : DI d) (hP : PM d σ) (h16 : σ 0 16 = ft d) (h0 : 0 ≤ ft d) (m : Nat) (r : Int) : ∃ σ', itr (m_reads_45 N) (fun _ _ => none) (m + 1) r σ = some (0, σ') ∧ RM1 d σ' := by
  have hr := ft_r hd
  rw [itr_k, m_reads_45, h16, if_neg (fun z => by rw [eq32_i (by omega) (by omega) (by omega) (by omega)] at z; omega)]
  exact m_r91 N hN hd hP h16 (fun e => by omega)
theorem m_r45 (N : Nat) (hN : 100 < N) {d : St} (hd : DI d) : ∀ (m q : Nat) (σ : St), (q : Int) ≤ d 0 12 → d 0 12 - q + 1 < m → PM d σ → σ 0 16 = -1 → du (d 10) q = 3 → AM d σ q → ∃ σ', itr (m_reads_45 N) (fun _ _ => none) m q σ = some (0, σ') ∧ RM1 d σ' := by
  have ht := hd.typed
  intro m
  induction m with
  | zero => intro q σ h1 h2; omega
  | succ m ih =>
    intro q σ h1 h2 hP h16 hdu hA
    obtain ⟨M, rfl⟩ : ∃ M, m = M + 1 := ⟨m - 1, by omega⟩
    rw [itr_k, m_reads_45, h16, if_pos rfl, hP.2.1 12 rfl, hP.1 10 rfl]
    by_cases c : (q : Int) < d 0 12
    · have hb := hd.txt q (by omega) c
      rw [if_neg (fun z => by rw [le32_i (by omega) (by omega) (by omega) (by omega)] at z; omega), gd_k (by omega)]
      by_cases c59 : d 10 q = 59
      · have hdu2 : du (d 10) (q + 1) = 0 := by rw [du_go (by rw [hdu]; decide) (by rw [hdu, c59, nx_59]; decide) (by omega), hdu, c59, nx_59]
        have hA2 : AM d σ (q + 1) := fun x a b => by
          have e : sn (d 10) (x + 97) (q + 1) = sn (d 10) (x + 97) q := by rw [sn_s, decide_eq_false (by omega), Bool.or_false]
          rw [e]; exact hA x a b
        have hg := m_group_e N hN hd (p := q + 1) (by omega) hP h16 hdu2 hA2
        rw [if_pos (by rw [c59]), show (q : Int) + 1 = ((q + 1 : Nat) : Int) by omega]
        rcases hg with ⟨r, σ', e1, e2, e3, e4⟩ | ⟨q', σ', e1, e2, e3, e4, e5, e6, e7⟩
        · rw [e1, bd_k]
          exact m_r45f N hN hd e2 e3 e4 M r
        · rw [e1, bd_k]
          exact ih q' σ' e2 (by omega) e4 e5 e6 e7
      · have hft : ft d = q := ft_mid c (by rw [hdu]; decide) (du_no (Or.inl (by rw [hdu]; exact nx_3 c59)))
        rw [if_neg (fun z => c59 ((eq32_i (by omega) (by omega) (by omega) (by omega)).mp z))]
        exact m_r45f N hN hd (PM_16 hP) (by rw [su_e, hft]) (by omega) M q
    · rw [if_pos ((le32_i (by omega) (by omega) (by omega) (by omega)).mpr (by omega))]
      have hft : ft d = -1 := ft_ok (p := q) (by omega) hdu
      refine m_r91 N hN hd hP (by rw [h16, hft]) (fun _ x a b => ?_)
      obtain ⟨f1, f2⟩ := hA x a b
      unfold fg
      rw [f1, if_pos hft]
      by_cases z : sn (d 10) (x + 97) q = true
      · have := f2 z
        rw [if_pos z, if_neg (by omega)]
      · have hn : gF (d 10) x 0 (d 0 12).toNat = -1 := by
          have := gF_no (t := d 10) (c := x) (d 0 12).toNat 0 (fun k _ hk => by
            cases y : sn (d 10) (x + 97) q with
            | true => exact absurd y z
            | false => exact sn_no y k (by omega))
          exact this
        rw [if_neg z, if_pos hn]
theorem m_r20 (N : Nat) (hN : 100 < N) {d : St} (hd : DI d) : ∀ (m : Nat) (v : Int) (σ : St), 0 ≤ v → v ≤ 26 → 26 - v < m → PM d σ → σ 0 16 = -1 → (∀ c, 0 ≤ c → c < v → σ 11 c = 0) → ∃ σ', itr (m_reads_20 N) (fun _ _ => none) m v σ = some (0, σ') ∧ RM1 d σ' := by
  have ht := hd.typed
  intro m
  induction m with
  | zero => intro v σ h0 h1 h2; omega
  | succ m ih =>
    intro v σ h0 h1 h2 hP h16 hz
    rw [itr_k, m_reads_20]
    simp (disch := omega) only [le32_i]
    by_cases c : 26 ≤ v
    · have hg := m_group_e N hN hd (p := 0) (by omega) hP h16 rfl (fun x a b => ⟨by rw [hz x a (by omega)]; rfl, fun z => by cases z⟩)
      obtain ⟨M, rfl⟩ : ∃ M, N = M + 1 := ⟨N - 1, by omega⟩
      rw [if_pos c]
      rcases hg with ⟨r, σ', e1, e2, e3, e4⟩ | ⟨q', σ', e1, e2, e3, e4, e5, e6, e7⟩
      · rw [show m_group (M + 1) 0 σ = some (r, σ') from e1, bd_k]
        exact m_r45f (M + 1) hN hd e2 e3 e4 M r
      · rw [show m_group (M + 1) 0 σ = some ((q' : Int), σ') from e1, bd_k]
        exact m_r45 (M + 1) hN hd (M + 1) q' σ' e2 (by omega) e4 e5 e6 e7
    · rw [if_neg c, gd_k (by omega)]
      exact ih (v + 1) _ (by omega) (by omega) (by omega) (PM_11 hP) (by rw [su_k _ _ _ (by decide)]; exact h16) (fun x a b => by
        rw [su_r]
        by_cases e : x = v
        · rw [if_pos e]
        · rw [if_neg e]; exact hz x a (by omega))
theorem m_reads_e (N : Nat) (hN : 100 < N) {d σ : St} (hm : RM d σ) (hd : DI d) : ∃ σ', m_reads N σ = some (0, σ') ∧ RM1 d σ' := by
  unfold m_reads
  rcases hm.2.2 with h | ⟨h, h1, h2⟩
  · rw [h, if_pos rfl]
    have hP : PM d (su (su σ 0 15 1) 0 16 (-1)) := by
      refine PM_16 ⟨fun k hk => by rw [su_k σ 15 1 (fun e => by rw [e] at hk; cases hk)]; exact hm.1 k hk, fun j hj => by rw [su_n σ 0 15 1 j (fun e => by rw [e] at hj; cases hj)]; exact hm.2.1 j hj, by rw [su_e]⟩
    exact m_r20 N hN hd N 0 _ (by omega) (by omega) (by omega) hP (by rw [su_e]) (fun c a b => by omega)
  · rw [h, if_neg (by decide)]
    exact ⟨σ, rfl, hm, h, h1, h2⟩
theorem sim_fault {N : Nat} (hN : 100 < N) {σx σm : St} (h : RR σx σm) : OKp RR (x_fault N σx) (m_fault N σm) := by
  obtain ⟨d, hx, hm, hd⟩ := h
  obtain ⟨σ', e1, e2⟩ := m_reads_e N hN hm hd
  unfold x_fault m_fault
  rw [e1, bd_k, hx.ft, e2.2.2.1]
  exact ⟨_, _, _, rfl, rfl, d, hx, e2.1, hd⟩
