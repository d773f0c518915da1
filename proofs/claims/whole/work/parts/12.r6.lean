/-! checked, learnt -/
def ci (d : St) (w k : Int) : Int := if w = 0 then 1 else if w = 1 then d 27 k else if w = 2 then lk d (d 25 k) (d 26 k) else if d 27 k = 0 then lk d (d 25 k) (d 26 k) else 0
/-- CHECKED pairs: all, one person, LINKS among them, LINKS that are not one person -/
def ck (d : St) (w : Int) : Int := S (ci d w) (d 0 37)
theorem ci_r {d : St} (hd : DI d) (w : Int) {k : Int} (h0 : 0 ≤ k) (h1 : k < d 0 37) : 0 ≤ ci d w k ∧ ci d w k ≤ 1 := by
  have := hd.chks k h0 h1
  have := lk_r d (d 25 k) (d 26 k)
  unfold ci
  repeat' split
  all_goals omega
theorem ck_in {d : St} (hd : DI d) (w : Int) {n : Int} (h0 : 0 ≤ n) (h1 : n ≤ d 0 37) : 0 ≤ S (ci d w) n ∧ S (ci d w) n ≤ n := by
  have a := S_ge (f := ci d w) (n := n) (lo := 0) (fun i a b => (ci_r hd w a (by omega)).1) h0
  have b := S_le (f := ci d w) (n := n) (hi := 1) (fun i a b => (ci_r hd w a (by omega)).2) h0
  omega
theorem ck_r {d : St} (hd : DI d) (w : Int) : 0 ≤ ck d w ∧ ck d w ≤ 40 := by
  have h := hd.chk
  have := ck_in hd w h.1 (by omega)
  unfold ck; omega
theorem ck_0 {d : St} (hd : DI d) : ck d 0 = d 0 37 := by
  have a := S_ge (f := ci d 0) (n := d 0 37) (lo := 1) (fun i _ _ => by unfold ci; rw [if_pos rfl]; omega) hd.chk.1
  have b := S_le (f := ci d 0) (n := d 0 37) (hi := 1) (fun i _ _ => by unfold ci; rw [if_pos rfl]; omega) hd.chk.1
  unfold ck; omega
theorem lk_mm {d : St} (hd : DI d) {k : Int} (h0 : 0 ≤ k) (h1 : k < d 0 37) : lk d (min (d 25 k) (d 26 k)) (max (d 25 k) (d 26 k)) = lk d (d 25 k) (d 26 k) := by
  have := hd.chks k h0 h1
  by_cases c : d 25 k ≤ d 26 k
  · rw [show min (d 25 k) (d 26 k) = d 25 k by omega, show max (d 25 k) (d 26 k) = d 26 k by omega]
  · rw [show min (d 25 k) (d 26 k) = d 26 k by omega, show max (d 25 k) (d 26 k) = d 25 k by omega]
    exact lk_sym hd this.2.1 this.1
theorem x_countOne_e (N : Nat) (hN : 100 < N) {d σ : St} (hx : RX d σ) (hd : DI d) : x_Checks_countOne N σ = some (ck d 1, σ) := by
  have hC := hd.chk
  unfold x_Checks_countOne
  refine lq2 (Out := fun x => x = some (ck d 1, σ)) (Inv := fun v i s => s = σ ∧ 0 ≤ i ∧ i ≤ d 0 37 ∧ v = S (ci d 1) i) (fun _ i _ => d 0 37 - i) ?_ ?_ N 0 0 σ ⟨rfl, by omega, by omega, rfl⟩ (by omega)
  · rintro k v i s ⟨rfl, h0, h1, rfl⟩
    unfold x_Checks_countOne_4 x_Checks_countOne_24
    rw [hx.chk]
    simp (disch := omega) only [le32_i]
    by_cases c : d 0 37 ≤ i
    · left; rw [if_pos c, show i = d 0 37 by omega]; rfl
    · right
      have hq := hd.chks i h0 (by omega)
      refine ⟨_, i + 1, s, ?_, ⟨rfl, by omega, by omega, rfl⟩, by omega⟩
      rw [if_neg c, gd_k (by omega), (hx.chks i h0 (by omega)).2.2, S_s _ h0]
      simp (disch := omega) only [eq32_i]
      rw [show ci d 1 i = d 27 i from rfl]
      by_cases c2 : d 27 i = 0
      · rw [if_pos c2, c2, Int.add_zero]
      · rw [if_neg c2, show d 27 i = 1 by omega]
  · rintro v i s ⟨-, h0, h1, -⟩; omega
theorem x_chkLinks_e (N : Nat) (hN : 100 < N) {d σ : St} (hx : RX d σ) (hd : DI d) {w : Int} (hw : w = 0 ∨ w = 1) : x_Checks_countLinks N w σ = some (ck d (w + 2), σ) := by
  have hC := hd.chk
  unfold x_Checks_countLinks
  refine lq2 (Out := fun x => x = some (ck d (w + 2), σ)) (Inv := fun v i s => s = σ ∧ 0 ≤ i ∧ i ≤ d 0 37 ∧ v = S (ci d (w + 2)) i) (fun _ i _ => d 0 37 - i) ?_ ?_ N 0 0 σ ⟨rfl, by omega, by omega, rfl⟩ (by omega)
  · rintro k v i s ⟨rfl, h0, h1, rfl⟩
    unfold x_Checks_countLinks_5 x_Checks_countLinks_28 x_Checks_countLinks_52
    rw [hx.chk]
    simp (disch := omega) only [le32_i]
    by_cases c : d 0 37 ≤ i
    · left; rw [if_pos c, show i = d 0 37 by omega]; rfl
    · right
      have hq := hd.chks i h0 (by omega)
      have hl := lk_r d (d 25 i) (d 26 i)
      obtain ⟨g1, g2, g3⟩ := hx.chks i h0 (by omega)
      refine ⟨_, i + 1, s, ?_, ⟨rfl, by omega, by omega, rfl⟩, by omega⟩
      simp only [gd_k (show inb i 40 by omega)]
      rw [if_neg c, g1, g2, g3, x_areLinked_e N hN hx hd (by omega) (by omega) (by omega), lk_mm hd h0 (by omega), bd_k, S_s _ h0]
      simp (disch := omega) only [eq32_i]
      unfold ci
      rw [if_neg (show ¬ w + 2 = 0 by omega), if_neg (show ¬ w + 2 = 1 by omega)]
      by_cases c1 : w = 0
      · rw [if_pos c1, if_pos (show w + 2 = 2 by omega)]
        by_cases c2 : lk d (d 25 i) (d 26 i) = 0
        · rw [if_pos c2, c2, Int.add_zero]
        · rw [if_neg c2, show lk d (d 25 i) (d 26 i) = 1 by omega]
      · rw [if_neg c1, if_neg (show ¬ w + 2 = 2 by omega)]
        by_cases c3 : d 27 i = 0
        · rw [if_pos c3, if_pos c3]
          by_cases c2 : lk d (d 25 i) (d 26 i) = 0
          · rw [if_pos c2, c2, Int.add_zero]
          · rw [if_neg c2, show lk d (d 25 i) (d 26 i) = 1 by omega]
        · rw [if_neg c3, if_neg c3, Int.add_zero]
  · rintro v i s ⟨-, h0, h1, -⟩; omega
theorem m_isCheckedLink_e (N : Nat) (hN : 100 < N) {d σ : St} (hm : RM d σ) (hd : DI d) {k : Int} (h0 : 0 ≤ k) (h1 : k < d 0 37) : ∃ σ', m_isCheckedLink N k σ = some (lk d (d 25 k) (d 26 k), σ') ∧ RM d σ' ∧ fr σ σ' := by
  have hC := hd.chk
  obtain ⟨ha, hb, hab, -⟩ := hd.chks k h0 h1
  have kA := kn_r d (d 25 k)
  have kB := kn_r d (d 26 k)
  have hli := hd.line
  have hsc := sc_r1 hd ha hb
  obtain ⟨σ', e1, e2, e3⟩ := m_scoreOf_e N hN hm hd ha hb
  unfold m_isCheckedLink lk
  rw [gd_k (by omega), gd_k (by omega), hm.1 25 rfl, hm.1 26 rfl, m_isKnown_e N hm hd ha.1 ha.2, bd_k, m_isKnown_e N hm hd hb.1 hb.2, bd_k, e1, bd_k, e2.2.1 24 rfl]
  simp (disch := omega) only [eq32_i, lt32_i]
  by_cases c1 : kn d (d 25 k) = 0
  · rw [if_pos c1, b01_f (by omega)]; exact ⟨σ, rfl, hm, fr_rf σ⟩
  rw [if_neg c1]
  by_cases c2 : kn d (d 26 k) = 0
  · rw [if_pos c2, b01_f (by omega)]; exact ⟨σ, rfl, hm, fr_rf σ⟩
  rw [if_neg c2]
  by_cases c3 : sc d (d 25 k) (d 26 k) < d 0 24
  · rw [if_pos c3, b01_f (by omega)]; exact ⟨σ', rfl, e2, e3⟩
  · rw [if_neg c3, b01_t (by omega)]; exact ⟨σ', rfl, e2, e3⟩
theorem m_checkedOf_e (N : Nat) (hN : 100 < N) {d σ : St} (hm : RM d σ) (hd : DI d) {w : Int} (hw : 0 ≤ w ∧ w ≤ 3) : ∃ σ', m_checkedOf N w σ = some (ck d w, σ') ∧ RM d σ' ∧ fr σ σ' := by
  have hC := hd.chk
  have key : ∃ σ', m_checkedOf N w σ = some (ck d w, σ') ∧ RM d σ' := by
    unfold m_checkedOf
    refine lq2 (Out := fun x => ∃ σ', x = some (ck d w, σ') ∧ RM d σ') (Inv := fun v i s => RM d s ∧ 0 ≤ i ∧ i ≤ d 0 37 ∧ v = S (ci d w) i) (fun _ i _ => d 0 37 - i) ?_ ?_ N 0 0 σ ⟨hm, by omega, by omega, rfl⟩ (by omega)
    · rintro k v i s ⟨hs, h0, h1, rfl⟩
      unfold m_checkedOf_4
      rw [hs.2.1 37 rfl, hs.1 27 rfl]
      by_cases c : d 0 37 ≤ i
      · left; rw [if_pos ((le32_i (by omega) (by omega) (by omega) (by omega)).mpr c), show i = d 0 37 by omega]; exact ⟨s, rfl, hs⟩
      · right
        have hq := hd.chks i h0 (by omega)
        have hl := lk_r d (d 25 i) (d 26 i)
        obtain ⟨s', e1, e2, e3⟩ := m_isCheckedLink_e N hN hs hd h0 (show i < d 0 37 by omega)
        have fin : ∀ (t : Int) (s2 : St), t = ci d w i → RM d s2 → ∃ a' b' σ', k (S (ci d w) i + t) (i + 1) s2 = k a' b' σ' ∧ (RM d σ' ∧ 0 ≤ b' ∧ b' ≤ d 0 37 ∧ a' = S (ci d w) b') ∧ d 0 37 - b' < d 0 37 - i := fun t s2 ht hs2 => ⟨_, _, s2, rfl, ⟨hs2, by omega, by omega, by rw [S_s _ h0, ht]⟩, by omega⟩
        have g : inb i 40 := by omega
        have e31 : w ≠ 0 → (w = 1 → d 27 i = 0) → ∃ a' b' σ', m_checkedOf_31 N k w i (S (ci d w) i) s = k a' b' σ' ∧ (RM d σ' ∧ 0 ≤ b' ∧ b' ≤ d 0 37 ∧ a' = S (ci d w) b') ∧ d 0 37 - b' < d 0 37 - i := by
          intro c0 cz
          unfold m_checkedOf_31
          by_cases c1 : w = 1
          · rw [if_pos ((le32_i (by omega) (by omega) (by omega) (by omega)).mpr (by omega))]
            exact fin 0 s (by unfold ci; rw [if_neg c0, if_pos c1, cz c1]) hs
          rw [if_neg (fun z => by rw [le32_i (by omega) (by omega) (by omega) (by omega)] at z; omega), e1, bd_k, e2.1 27 rfl, gd_k g]
          by_cases c2 : lk d (d 25 i) (d 26 i) = 0
          · rw [if_pos ((eq32_i (by omega) (by omega) (by omega) (by omega)).mpr c2)]
            exact fin 0 s' (by unfold ci; rw [if_neg c0, if_neg c1, c2]; simp only [ite_self]) e2
          rw [if_neg (fun z => c2 ((eq32_i (by omega) (by omega) (by omega) (by omega)).mp z))]
          by_cases c3 : w = 2
          · rw [if_pos ((eq32_i (by omega) (by omega) (by omega) (by omega)).mpr c3)]
            exact fin 1 s' (by unfold ci; rw [if_neg c0, if_neg c1, if_pos c3]; omega) e2
          rw [if_neg (fun z => c3 ((eq32_i (by omega) (by omega) (by omega) (by omega)).mp z))]
          by_cases c4 : d 27 i = 0
          · rw [if_pos ((eq32_i (by omega) (by omega) (by omega) (by omega)).mpr c4)]
            exact fin 1 s' (by unfold ci; rw [if_neg c0, if_neg c1, if_neg c3, if_pos c4]; omega) e2
          · rw [if_neg (fun z => c4 ((eq32_i (by omega) (by omega) (by omega) (by omega)).mp z))]
            exact fin 0 s' (by unfold ci; rw [if_neg c0, if_neg c1, if_neg c3, if_neg c4]) e2
        rw [if_neg (fun z => c ((le32_i (by omega) (by omega) (by omega) (by omega)).mp z)), gd_k g]
        by_cases c0 : w = 0
        · rw [if_pos ((eq32_i (by omega) (by omega) (by omega) (by omega)).mpr c0)]
          exact fin 1 s (by unfold ci; rw [if_pos c0]) hs
        rw [if_neg (fun z => c0 ((eq32_i (by omega) (by omega) (by omega) (by omega)).mp z))]
        by_cases c1 : w = 1
        · rw [if_pos ((eq32_i (by omega) (by omega) (by omega) (by omega)).mpr c1)]
          by_cases c2 : d 27 i = 0
          · rw [if_pos ((eq32_i (by omega) (by omega) (by omega) (by omega)).mpr c2)]
            exact e31 c0 (fun _ => c2)
          · rw [if_neg (fun z => c2 ((eq32_i (by omega) (by omega) (by omega) (by omega)).mp z))]
            exact fin 1 s (by unfold ci; rw [if_neg c0, if_pos c1]; exact (hq.2.2.2.resolve_left c2).symm) hs
        rw [if_neg (fun z => c1 ((eq32_i (by omega) (by omega) (by omega) (by omega)).mp z))]
        exact e31 c0 (fun z => absurd z c1)
    · rintro v i s ⟨-, h0, h1, -⟩; omega
  obtain ⟨σ', e1, e2⟩ := key
  exact ⟨σ', e1, e2, fk_m_checkedOf N w σ _ _ e1⟩
theorem x_checked_e (N : Nat) (hN : 100 < N) {d σ : St} (hx : RX d σ) (hd : DI d) {w : Int} (hw : i32 w) : x_checked N w σ = some (if 0 ≤ w ∧ w ≤ 3 then ck d w else -2, σ) := by
  unfold x_checked
  rw [s32_i hw.1 hw.2, hx.chk, x_countOne_e N hN hx hd, x_chkLinks_e N hN hx hd (Or.inl rfl), x_chkLinks_e N hN hx hd (Or.inr rfl), bd_k, bd_k, bd_k, ← ck_0 hd]
  by_cases c0 : w = 0
  · subst c0; rw [if_pos rfl, if_pos (by omega)]
  rw [if_neg c0]
  by_cases c1 : w = 1
  · subst c1; rw [if_pos rfl, if_pos (by omega)]
  rw [if_neg c1]
  by_cases c2 : w = 2
  · subst c2; rw [if_pos rfl, if_pos (by omega)]; rfl
  rw [if_neg c2]
  by_cases c3 : w = 3
  · subst c3; rw [if_pos rfl, if_pos (by omega)]; rfl
  rw [if_neg c3, if_neg (by omega)]
theorem sim_checked {N : Nat} (hN : 100 < N) {σx σm : St} (h : RR σx σm) : ∀ a : Int, i32 a → OKp RR (x_checked N a σx) (m_checked N a σm) := by
  obtain ⟨d, hx, hm, hd⟩ := h
  intro a ha
  unfold m_checked
  rw [x_checked_e N hN hx hd ha, m_in_e N σm ha.1 ha.2 (by omega) (by omega) (by omega) (by omega), bd_k]
  simp only [b01_0, itn]
  by_cases c : 0 ≤ a ∧ a ≤ 3
  · obtain ⟨σ', e1, e2, e3⟩ := m_checkedOf_e N hN hm hd c
    rw [if_pos c, if_pos c, e1, bd_k]
    exact ⟨_, _, _, rfl, rfl, d, hx, e2, hd⟩
  · rw [if_neg c, if_neg c]
    exact ⟨_, _, _, rfl, rfl, d, hx, hm, hd⟩
/-- CHECKED pairs of KNOWN ROWS, one person or not, with a LEVEL; without one that is missing -/
def cl (d : St) (o f l k : Int) : Int := b01 (d 27 k = o ∧ (kn d (d 25 k) = 1 ∧ kn d (d 26 k) = 1) ∧ lv d (d 25 k) (d 26 k) f = l)
def ca (d : St) (o f k : Int) : Int := b01 (d 27 k = o ∧ (kn d (d 25 k) = 1 ∧ kn d (d 26 k) = 1) ∧ lv d (d 25 k) (d 26 k) f ≠ -1)
theorem cl_in (d : St) (o f l : Int) {n : Int} (h : 0 ≤ n) : 0 ≤ S (cl d o f l) n ∧ S (cl d o f l) n ≤ n := by
  have h1 := S_ge (f := cl d o f l) (n := n) (lo := 0) (fun i _ _ => b01_r.1) h
  have h2 := S_le (f := cl d o f l) (n := n) (hi := 1) (fun i _ _ => b01_r.2) h
  omega
theorem ca_in (d : St) (o f : Int) {n : Int} (h : 0 ≤ n) : 0 ≤ S (ca d o f) n ∧ S (ca d o f) n ≤ n := by
  have h1 := S_ge (f := ca d o f) (n := n) (lo := 0) (fun i _ _ => b01_r.1) h
  have h2 := S_le (f := ca d o f) (n := n) (hi := 1) (fun i _ _ => b01_r.2) h
  omega
theorem ca_e {d : St} (hd : DI d) (o f : Int) : S (cl d o f 0) (d 0 37) + S (cl d o f 1) (d 0 37) + S (cl d o f 2) (d 0 37) + S (cl d o f 3) (d 0 37) = S (ca d o f) (d 0 37) := by
  have hC := hd.chk
  rw [← S_ad _ _ hC.1, ← S_ad _ _ hC.1, ← S_ad _ _ hC.1]
  refine S_c (fun k h0 h1 => ?_) hC.1
  obtain ⟨ha, hb, hab, -⟩ := hd.chks k h0 h1
  have hl := lv_r (f := f) hd ha hb
  show cl d o f 0 k + cl d o f 1 k + cl d o f 2 k + cl d o f 3 k = ca d o f k
  unfold cl ca
  by_cases c : d 27 k = o ∧ (kn d (d 25 k) = 1 ∧ kn d (d 26 k) = 1)
  · rcases (show lv d (d 25 k) (d 26 k) f = -1 ∨ lv d (d 25 k) (d 26 k) f = 0 ∨ lv d (d 25 k) (d 26 k) f = 1 ∨ lv d (d 25 k) (d 26 k) f = 2 ∨ lv d (d 25 k) (d 26 k) f = 3 by omega) with e | e | e | e | e
    · rw [b01_f (by omega), b01_f (by omega), b01_f (by omega), b01_f (by omega), b01_f (by omega)]; rfl
    · rw [b01_t ⟨c.1, c.2, e⟩, b01_f (by omega), b01_f (by omega), b01_f (by omega), b01_t ⟨c.1, c.2, by omega⟩]; rfl
    · rw [b01_f (by omega), b01_t ⟨c.1, c.2, e⟩, b01_f (by omega), b01_f (by omega), b01_t ⟨c.1, c.2, by omega⟩]; rfl
    · rw [b01_f (by omega), b01_f (by omega), b01_t ⟨c.1, c.2, e⟩, b01_f (by omega), b01_t ⟨c.1, c.2, by omega⟩]; rfl
    · rw [b01_f (by omega), b01_f (by omega), b01_f (by omega), b01_t ⟨c.1, c.2, e⟩, b01_t ⟨c.1, c.2, by omega⟩]; rfl
  · have cc : ∀ x : Prop, ¬ (d 27 k = o ∧ (kn d (d 25 k) = 1 ∧ kn d (d 26 k) = 1) ∧ x) := fun x z => c ⟨z.1, z.2.1⟩
    rw [b01_f (cc _), b01_f (cc _), b01_f (cc _), b01_f (cc _), b01_f (cc _)]; rfl
theorem lv_mm {d : St} (hd : DI d) {k f : Int} (h0 : 0 ≤ k) (h1 : k < d 0 37) (hf : 0 ≤ f ∧ f < 4) : lv d (min (d 25 k) (d 26 k)) (max (d 25 k) (d 26 k)) f = lv d (d 25 k) (d 26 k) f := by
  have := hd.chks k h0 h1
  by_cases c : d 25 k ≤ d 26 k
  · rw [show min (d 25 k) (d 26 k) = d 25 k by omega, show max (d 25 k) (d 26 k) = d 26 k by omega]
  · rw [show min (d 25 k) (d 26 k) = d 26 k by omega, show max (d 25 k) (d 26 k) = d 25 k by omega]
    exact lv_sym hd this.2.1 this.1 hf
theorem kn_mm (d : St) (p q : Int) : (kn d (min p q) = 1 ∧ kn d (max p q) = 1) ↔ (kn d p = 1 ∧ kn d q = 1) := by
  by_cases c : p ≤ q
  · rw [show min p q = p by omega, show max p q = q by omega]
  · rw [show min p q = q by omega, show max p q = p by omega]
    exact ⟨fun h => ⟨h.2, h.1⟩, fun h => ⟨h.2, h.1⟩⟩
theorem x_countLevel_e (N : Nat) (hN : 100 < N) {d σ : St} (hx : RX d σ) (hd : DI d) {o f l : Int} (ho : bit1 o) (hf : 0 ≤ f ∧ f < 4) (hl : 0 ≤ l ∧ l < 4) : x_Checks_countLevel N o f l σ = some (S (cl d o f l) (d 0 37), σ) := by
  have hC := hd.chk
  unfold x_Checks_countLevel
  refine lq2 (Out := fun x => x = some (S (cl d o f l) (d 0 37), σ)) (Inv := fun v i s => s = σ ∧ 0 ≤ i ∧ i ≤ d 0 37 ∧ v = S (cl d o f l) i) (fun _ i _ => d 0 37 - i) ?_ ?_ N 0 0 σ ⟨rfl, by omega, by omega, rfl⟩ (by omega)
  · rintro k v i s ⟨rfl, h0, h1, rfl⟩
    unfold x_Checks_countLevel_6 x_Checks_countLevel_75
    rw [hx.chk]
    simp (disch := omega) only [le32_i]
    by_cases c : d 0 37 ≤ i
    · left; rw [if_pos c, show i = d 0 37 by omega]
    · right
      obtain ⟨ha, hb, hab, h27⟩ := hd.chks i h0 (by omega)
      obtain ⟨g1, g2, g3⟩ := hx.chks i h0 (by omega)
      have g : inb i 40 := by omega
      have hlv := lv_r (f := f) hd ha hb
      refine ⟨_, i + 1, s, ?_, ⟨rfl, by omega, by omega, rfl⟩, by omega⟩
      rw [if_neg c, gd_k g, gd_k g, gd_k g, g1, g2, g3, x_areKnown_e N hx hd (by omega) (by omega), bd_k, x_levelOf_e N hN hx hd (by omega) (by omega) (by omega) hf, bd_k, lv_mm hd h0 (by omega) hf, S_s _ h0]
      simp only [b01_0, itn]
      simp (disch := omega) only [eq32_i]
      unfold cl
      by_cases c1 : d 27 i = o
      · rw [if_pos c1]
        by_cases c2 : kn d (d 25 i) = 1 ∧ kn d (d 26 i) = 1
        · rw [if_pos ((kn_mm d _ _).mpr c2)]
          by_cases c3 : lv d (d 25 i) (d 26 i) f = l
          · rw [if_pos c3, b01_t ⟨c1, c2, c3⟩]
          · rw [if_neg c3, b01_f (fun z => c3 z.2.2), Int.add_zero]
        · rw [if_neg (fun z => c2 ((kn_mm d _ _).mp z)), b01_f (fun z => c2 z.2.1), Int.add_zero]
      · rw [if_neg c1, b01_f (fun z => c1 z.1), Int.add_zero]
  · rintro v i s ⟨-, h0, h1, -⟩; omega
/-- LEARNT -/
def le (d : St) (o f l : Int) : Int := max 1 ((2000 * (S (cl d o f l) (d 0 37) + 1) + (S (ca d o f) (d 0 37) + 4)) / (2 * (S (ca d o f) (d 0 37) + 4)))
theorem x_learnt_e (N : Nat) (hN : 100 < N) {d σ : St} (hx : RX d σ) (hd : DI d) {o f l : Int} (ho : bit1 o) (hf : 0 ≤ f ∧ f < 4) (hl : 0 ≤ l ∧ l < 4) : itr (x_learnt_25 N o f l) (fun _ _ _ => none) N 0 0 σ = some (le d o f l, σ) := by
  have hC := hd.chk
  have r1 := cl_in d o f l hC.1
  have r2 := ca_in d o f hC.1
  refine lq2 (Out := fun x => x = some (le d o f l, σ)) (Inv := fun v i s => s = σ ∧ 0 ≤ i ∧ i ≤ 4 ∧ v = S (fun j => S (cl d o f j) (d 0 37)) i) (fun _ i _ => 4 - i) ?_ ?_ N 0 0 σ ⟨rfl, by omega, by omega, rfl⟩ (by omega)
  · rintro k v i s ⟨rfl, h0, h1, rfl⟩
    unfold x_learnt_25
    simp (disch := omega) only [le32_i]
    by_cases c : 4 ≤ i
    · left
      have e : S (fun j => S (cl d o f j) (d 0 37)) i = S (ca d o f) (d 0 37) := by
        rw [show i = 4 by omega, ← ca_e hd o f]
        show 0 + S (cl d o f 0) (d 0 37) + S (cl d o f 1) (d 0 37) + S (cl d o f 2) (d 0 37) + S (cl d o f 3) (d 0 37) = _
        omega
      unfold x_Checks_thousandths x_Checks_thousandths_20
      rw [if_pos c, x_countLevel_e N hN hx hd ho hf hl, bd_k, e]
      simp (disch := omega) only [le32_i, eq32_i]
      rw [if_pos (by omega), gd_k (by omega), bd_k, dv32_i (by omega) (by omega) (by omega) (by omega)]
      have q0 : 0 ≤ (2000 * (S (cl d o f l) (d 0 37) + 1) + (S (ca d o f) (d 0 37) + 4)) / (2 * (S (ca d o f) (d 0 37) + 4)) := Int.ediv_nonneg (by omega) (by omega)
      have q1 : (2000 * (S (cl d o f l) (d 0 37) + 1) + (S (ca d o f) (d 0 37) + 4)) / (2 * (S (ca d o f) (d 0 37) + 4)) ≤ (2000 * (S (cl d o f l) (d 0 37) + 1) + (S (ca d o f) (d 0 37) + 4)) := Int.ediv_le_self _ (by omega)
      rw [mx32_i (by omega) (by omega) (by omega) (by omega)]; rfl
    · right
      refine ⟨_, i + 1, s, ?_, ⟨rfl, by omega, by omega, rfl⟩, by omega⟩
      rw [if_neg c, x_countLevel_e N hN hx hd ho hf ⟨h0, by omega⟩, bd_k, S_s _ h0]
  · rintro v i s ⟨-, h0, h1, -⟩; omega
theorem m_learnt_e (N : Nat) (hN : 100 < N) {d σ : St} (hm : RM d σ) (hd : DI d) {o f l : Int} (ho : bit1 o) (hf : 0 ≤ f ∧ f < 4) (hl : 0 ≤ l ∧ l < 4) : ∃ σ', itr (m_learnt_30 N o f l) (fun _ _ _ _ => none) N 0 0 0 σ = some (le d o f l, σ') ∧ RM d σ' := by
  have hC := hd.chk
  refine lq3 (Out := fun x => ∃ σ', x = some (le d o f l, σ') ∧ RM d σ') (Inv := fun u v i s => RM d s ∧ 0 ≤ i ∧ i ≤ d 0 37 ∧ u = S (ca d o f) i ∧ v = S (cl d o f l) i) (fun _ _ i _ => d 0 37 - i) ?_ ?_ N 0 0 0 σ ⟨hm, by omega, by omega, rfl, rfl⟩ (by omega)
  · rintro k u v i s ⟨hs, h0, h1, rfl, rfl⟩
    have r1 := cl_in d o f l h0
    have r2 := ca_in d o f h0
    unfold m_learnt_30 m_learnt_112 m_learnt_128 m_learnt_131
    rw [hs.2.1 37 rfl]
    simp (disch := omega) only [le32_i, eq32_i]
    by_cases c : d 0 37 ≤ i
    · left
      have e : i = d 0 37 := by omega
      have q0 : 0 ≤ (2000 * (S (cl d o f l) i + 1) + S (ca d o f) i + 4) / (2 * (S (ca d o f) i + 4)) := Int.ediv_nonneg (by omega) (by omega)
      have q1 : (2000 * (S (cl d o f l) i + 1) + S (ca d o f) i + 4) / (2 * (S (ca d o f) i + 4)) ≤ (2000 * (S (cl d o f l) i + 1) + S (ca d o f) i + 4) := Int.ediv_le_self _ (by omega)
      rw [if_pos c, gd_k (by omega), dv32_i (by omega) (by omega) (by omega) (by omega)]
      refine ⟨s, ?_, hs⟩
      unfold le
      rw [← e, show 2000 * (S (cl d o f l) i + 1) + (S (ca d o f) i + 4) = 2000 * (S (cl d o f l) i + 1) + S (ca d o f) i + 4 by omega]
      by_cases c2 : 1 ≤ (2000 * (S (cl d o f l) i + 1) + S (ca d o f) i + 4) / (2 * (S (ca d o f) i + 4))
      · rw [if_pos ((le32_i (by omega) (by omega) (by omega) (by omega)).mpr c2)]; congr 2; omega
      · rw [if_neg (fun z => c2 ((le32_i (by omega) (by omega) (by omega) (by omega)).mp z))]; congr 2; omega
    · right
      obtain ⟨ha, hb, hab, h27⟩ := hd.chks i h0 (by omega)
      have g : inb i 40 := by omega
      have kA := kn_r d (d 25 i)
      have kB := kn_r d (d 26 i)
      have hlv := lv_r (f := f) hd ha hb
      have fin : ∀ (t1 t2 : Int) (s2 : St), t1 = ca d o f i → t2 = cl d o f l i → RM d s2 → ∃ a' b' c' σ', k (S (ca d o f) i + t1) (S (cl d o f l) i + t2) (i + 1) s2 = k a' b' c' σ' ∧ (RM d σ' ∧ 0 ≤ c' ∧ c' ≤ d 0 37 ∧ a' = S (ca d o f) c' ∧ b' = S (cl d o f l) c') ∧ d 0 37 - c' < d 0 37 - i := fun t1 t2 s2 h1 h2 hs2 => ⟨_, _, _, s2, rfl, ⟨hs2, by omega, by omega, by rw [S_s _ h0, h1], by rw [S_s _ h0, h2]⟩, by omega⟩
      have fin0 : (¬ (d 27 i = o ∧ (kn d (d 25 i) = 1 ∧ kn d (d 26 i) = 1))) → ∃ a' b' c' σ', k (S (ca d o f) i) (S (cl d o f l) i) (i + 1) s = k a' b' c' σ' ∧ (RM d σ' ∧ 0 ≤ c' ∧ c' ≤ d 0 37 ∧ a' = S (ca d o f) c' ∧ b' = S (cl d o f l) c') ∧ d 0 37 - c' < d 0 37 - i := by
        intro cc
        have := fin 0 0 s (by unfold ca; rw [b01_f (fun z => cc ⟨z.1, z.2.1⟩)]) (by unfold cl; rw [b01_f (fun z => cc ⟨z.1, z.2.1⟩)]) hs
        rw [Int.add_zero, Int.add_zero] at this
        exact this
      obtain ⟨s', e1, e2, e3⟩ := m_level_q N hN hs hd ha hb hf
      rw [if_neg c]
      simp only [gd_k g]
      rw [hs.1 27 rfl, hs.1 25 rfl, m_isKnown_e N hs hd ha.1 ha.2, bd_k, hs.1 26 rfl, m_isKnown_e N hs hd hb.1 hb.2, bd_k, hs.1 25 rfl, hs.1 26 rfl, e1, bd_k]
      simp (disch := omega) only [eq32_i]
      by_cases c1 : d 27 i = o
      · rw [if_pos c1]
        by_cases c2 : kn d (d 25 i) = 0
        · rw [if_pos c2]; exact fin0 (by omega)
        rw [if_neg c2]
        by_cases c3 : kn d (d 26 i) = 0
        · rw [if_pos c3]; exact fin0 (by omega)
        rw [if_neg c3]
        have hk : kn d (d 25 i) = 1 ∧ kn d (d 26 i) = 1 := by omega
        by_cases c4 : lv d (d 25 i) (d 26 i) f = -1
        · rw [if_pos c4, if_neg (by omega)]
          exact fin 0 0 s' (by unfold ca; rw [b01_f (fun z => z.2.2 c4)]) (by unfold cl; rw [b01_f (by omega)]) e2
        · rw [if_neg c4]
          by_cases c5 : lv d (d 25 i) (d 26 i) f = l
          · rw [if_pos c5]
            exact fin 1 1 s' (by unfold ca; rw [b01_t ⟨c1, hk, c4⟩]) (by unfold cl; rw [b01_t ⟨c1, hk, c5⟩]) e2
          · rw [if_neg c5]
            exact fin 1 0 s' (by unfold ca; rw [b01_t ⟨c1, hk, c4⟩]) (by unfold cl; rw [b01_f (fun z => c5 z.2.2)]) e2
      · rw [if_neg c1]; exact fin0 (fun z => c1 z.1)
  · rintro u v i s ⟨-, h0, h1, -⟩; omega
theorem sim_learnt {N : Nat} (hN : 100 < N) {σx σm : St} (h : RR σx σm) : ∀ o : Int, bit1 o → ∀ f : Int, i32 f → ∀ l : Int, i32 l → OKp RR (x_learnt N o f l σx) (m_learnt N o f l σm) := by
  obtain ⟨d, hx, hm, hd⟩ := h
  intro o ho f hf l hl
  unfold x_learnt m_learnt
  rw [x_isBelow_e N σx hf.1 hf.2 (by omega) (by omega), m_in_e N σm hf.1 hf.2 (by omega) (by omega) (by omega) (by omega), bd_k, bd_k, x_isBelow_e N σx hl.1 hl.2 (by omega) (by omega), m_in_e N σm hl.1 hl.2 (by omega) (by omega) (by omega) (by omega), bd_k, bd_k]
  simp only [b01_0, itn]
  by_cases c : 0 ≤ f ∧ f < 4
  · rw [if_pos c, if_pos (show 0 ≤ f ∧ f ≤ 3 by omega)]
    by_cases c2 : 0 ≤ l ∧ l < 4
    · obtain ⟨σ', e1, e2⟩ := m_learnt_e N hN hm hd ho c c2
      rw [if_pos c2, if_pos (show 0 ≤ l ∧ l ≤ 3 by omega), x_learnt_e N hN hx hd ho c c2, e1]
      exact ⟨_, _, _, rfl, rfl, d, hx, e2, hd⟩
    · rw [if_neg c2, if_neg (show ¬ (0 ≤ l ∧ l ≤ 3) by omega)]
      exact ⟨_, _, _, rfl, rfl, d, hx, hm, hd⟩
  · rw [if_neg c, if_neg (show ¬ (0 ≤ f ∧ f ≤ 3) by omega)]
    exact ⟨_, _, _, rfl, rfl, d, hx, hm, hd⟩
