/-! LINKS -/
theorem x_areKnown_e (N : Nat) {d σ : St} (hx : RX d σ) (hd : DI d) {a b : Int} (ha : 0 ≤ a ∧ a < d 0 1) (hb : 0 ≤ b ∧ b < d 0 1) : x_Rows_areKnown N a b σ = some (b01 (kn d a = 1 ∧ kn d b = 1), σ) := by
  have k1 := kn_r d a
  have k2 := kn_r d b
  unfold x_Rows_areKnown
  rw [x_Rows_isKnown_e N hx hd ha.1 ha.2, bd_k, x_Rows_isKnown_e N hx hd hb.1 hb.2, bd_k]
  simp (disch := omega) only [eq32_i]
  by_cases c : kn d a = 0
  · rw [if_pos c, b01_f (by omega)]
  · rw [if_neg c]
    by_cases c2 : kn d b = 0
    · rw [if_pos c2, b01_f (by omega)]
    · rw [if_neg c2, b01_t (by omega)]
def lk (d : St) (a b : Int) : Int := b01 ((kn d a = 1 ∧ kn d b = 1) ∧ d 0 24 ≤ sc d a b)
theorem lk_r (d : St) (a b : Int) : 0 ≤ lk d a b ∧ lk d a b ≤ 1 := b01_r
theorem lk_sym {d : St} (hd : DI d) {a b : Int} (ha : 0 ≤ a ∧ a < d 0 1) (hb : 0 ≤ b ∧ b < d 0 1) : lk d a b = lk d b a := by
  unfold lk
  rw [sc_sym hd ha hb]
  exact b01_c ⟨fun h => ⟨⟨h.1.2, h.1.1⟩, h.2⟩, fun h => ⟨⟨h.1.2, h.1.1⟩, h.2⟩⟩
theorem x_areLinked_e (N : Nat) (hN : 100 < N) {d σ : St} (hx : RX d σ) (hd : DI d) {a b : Int} (ha : 0 ≤ a ∧ a < d 0 1) (hb : 0 ≤ b ∧ b < d 0 1) (hab : a ≠ b) : x_Pairs_areLinked N a b σ = some (lk d a b, σ) := by
  have h1 := sc_r1 hd ha hb
  have h2 := hd.line
  unfold x_Pairs_areLinked lk
  rw [x_areKnown_e N hx hd ha hb, bd_k]
  simp only [b01_0, itn]
  by_cases c : kn d a = 1 ∧ kn d b = 1
  · rw [if_pos c, x_scoreOf_e N hN hx hd ha hb hab, bd_k, hx.line]
    simp (disch := omega) only [lt32_i]
    by_cases c2 : sc d a b < d 0 24
    · rw [if_pos c2, b01_f (by omega)]
    · rw [if_neg c2, b01_t ⟨c, by omega⟩]
  · rw [if_neg c, b01_f (fun z => c z.1)]
/-- how many LINKS -/
def nl2 (d : St) : Int := S (fun a => S (fun b => if b < a then lk d a b else 0) a) (d 0 1)
theorem nl2_in (d : St) {a n : Int} (h0 : 0 ≤ n) : 0 ≤ S (fun b => if b < a then lk d a b else 0) n ∧ S (fun b => if b < a then lk d a b else 0) n ≤ n := by
  have h1 := S_ge (f := fun b => if b < a then lk d a b else 0) (n := n) (lo := 0) (fun i _ _ => by have := lk_r d a i; show 0 ≤ (if i < a then lk d a i else 0); split <;> omega) h0
  have h2 := S_le (f := fun b => if b < a then lk d a b else 0) (n := n) (hi := 1) (fun i _ _ => by have := lk_r d a i; show (if i < a then lk d a i else 0) ≤ 1; split <;> omega) h0
  omega
theorem nl2_p {d : St} (hd : DI d) {n : Int} (h0 : 0 ≤ n) (h1 : n ≤ 36) : 0 ≤ S (fun a => S (fun b => if b < a then lk d a b else 0) a) n ∧ S (fun a => S (fun b => if b < a then lk d a b else 0) a) n ≤ 1296 := by
  have a1 := S_ge (f := fun a => S (fun b => if b < a then lk d a b else 0) a) (n := n) (lo := 0) (fun i h _ => (nl2_in d (a := i) h).1) h0
  have a2 := S_le (f := fun a => S (fun b => if b < a then lk d a b else 0) a) (n := n) (hi := 36) (fun i h h2 => by have := (nl2_in d (a := i) h).2; show S (fun b => if b < i then lk d i b else 0) i ≤ 36; omega) h0
  omega
theorem nl2_r {d : St} (hd : DI d) : 0 ≤ nl2 d ∧ nl2 d ≤ 1296 := nl2_p hd hd.rows.1 hd.rows.2
theorem nl2_x {d : St} (hd : DI d) : S (fun a => S (fun b => if a < b then lk d a b else 0) (d 0 1)) (d 0 1) = nl2 d :=
  S_tri (lk d) hd.rows.1 (fun _ _ h0 h1 h2 h3 => lk_sym hd ⟨h0, h1⟩ ⟨h2, h3⟩)
theorem x_countLinks_e (N : Nat) (hN : 100 < N) {d σ : St} (hx : RX d σ) (hd : DI d) : x_Pairs_countLinks N σ = some (nl2 d, σ) := by
  have hr := hd.rows
  unfold x_Pairs_countLinks
  refine lq2 (Out := fun x => x = some (nl2 d, σ)) (Inv := fun v a s => s = σ ∧ 0 ≤ a ∧ a ≤ d 0 1 ∧ v = S (fun a => S (fun b => if a < b then lk d a b else 0) (d 0 1)) a) (fun _ a _ => d 0 1 - a) ?_ ?_ N 0 0 σ ⟨rfl, by omega, by omega, rfl⟩ (by omega)
  · rintro k v a s ⟨rfl, h0, h1, rfl⟩
    unfold x_Pairs_countLinks_4
    rw [hx.rows]
    simp (disch := omega) only [le32_i]
    by_cases c : d 0 1 ≤ a
    · left; rw [if_pos c, show a = d 0 1 by omega, nl2_x hd]
    · right
      refine ⟨_, a + 1, s, ?_, ⟨rfl, by omega, by omega, rfl⟩, by omega⟩
      rw [if_neg c, S_s _ h0]
      refine lq2 (Out := fun x => x = k (S (fun a => S (fun b => if a < b then lk d a b else 0) (d 0 1)) a + S (fun b => if a < b then lk d a b else 0) (d 0 1)) (a + 1) s) (Inv := fun v b s' => s' = s ∧ a + 1 ≤ b ∧ b ≤ d 0 1 ∧ v = S (fun a => S (fun b => if a < b then lk d a b else 0) (d 0 1)) a + S (fun b => if a < b then lk d a b else 0) b) (fun _ b _ => d 0 1 - b) ?_ ?_ N _ (a + 1) s ⟨rfl, by omega, by omega, ?_⟩ (by omega)
      · rintro k2 v b s' ⟨rfl, h2, h3, rfl⟩
        unfold x_Pairs_countLinks_19 x_Pairs_countLinks_42
        rw [hx.rows]
        simp (disch := omega) only [le32_i]
        by_cases c2 : d 0 1 ≤ b
        · left; rw [if_pos c2, show b = d 0 1 by omega]
        · right
          have hl := lk_r d a b
          refine ⟨_, b + 1, s', ?_, ⟨rfl, by omega, by omega, rfl⟩, by omega⟩
          rw [if_neg c2, x_areLinked_e N hN hx hd ⟨h0, by omega⟩ ⟨by omega, by omega⟩ (by omega), bd_k, S_s _ (show 0 ≤ b by omega), if_pos (show a < b by omega)]
          simp (disch := omega) only [eq32_i]
          by_cases c3 : lk d a b = 0
          · rw [if_pos c3, c3, Int.add_zero]
          · rw [if_neg c3, show lk d a b = 1 by omega, Int.add_assoc]
      · rintro v b s' ⟨-, h2, h3, -⟩; omega
      · rw [S_z (f := fun b => if a < b then lk d a b else 0) (n := a + 1) (fun i _ h => if_neg (by omega)) (by omega), Int.add_zero]
  · rintro v a s ⟨-, h0, h1, -⟩; omega
theorem RM_17 {d σ : St} {i v : Int} (h : RM d σ) : RM d (su σ 17 i v) := RM_k (by decide) (by decide) (by decide) h
theorem RM_26 {d σ : St} {v : Int} (h : RM d σ) : RM d (su σ 0 26 v) := RM_j (by decide) (by decide) (by decide) h
/-- what the reference's looking for LINKS leaves -/
def LO (d σ σ' : St) : Prop := RM d σ' ∧ σ' 0 26 = nl2 d ∧ (∀ a b, 0 ≤ a → a < d 0 1 → 0 ≤ b → b < d 0 1 → a ≠ b → σ' 17 (36 * a + b) = lk d a b) ∧ (σ 0 15 = 1 → σ' 0 15 = 1)
theorem m_looks_e (N : Nat) (hN : 100 < N) {d σ : St} (hm : RM d σ) (hd : DI d) : ∃ σ', m_looks N σ = some (0, σ') ∧ LO d σ σ' := by
  have hr := hd.rows
  have hli := hd.line
  unfold m_looks
  refine lq1 (Out := fun x => ∃ σ', x = some (0, σ') ∧ LO d σ σ') (Inv := fun a s => RM d s ∧ (σ 0 15 = 1 → s 0 15 = 1) ∧ 0 ≤ a ∧ a ≤ d 0 1 ∧ s 0 26 = S (fun a => S (fun b => if b < a then lk d a b else 0) a) a ∧ (∀ x y, 0 ≤ y → y < x → x < a → s 17 (36 * x + y) = lk d x y ∧ s 17 (36 * y + x) = lk d x y)) (fun a _ => d 0 1 - a) ?_ ?_ N 0 _ ⟨RM_26 hm, fun h => by rw [su_n _ _ _ _ _ (by decide)]; exact h, by omega, by omega, by rw [su_e]; rfl, fun x y _ _ _ => by omega⟩ (by omega)
  · rintro k a s ⟨hs, hq, h0, h1, e26, e17⟩
    unfold m_looks_7
    rw [hs.2.1 1 rfl]
    simp (disch := omega) only [le32_i]
    by_cases c : d 0 1 ≤ a
    · left
      rw [if_pos c]
      refine ⟨s, rfl, hs, by rw [e26, show a = d 0 1 by omega]; rfl, fun x y x0 x1 y0 y1 hxy => ?_, hq⟩
      by_cases g : y < x
      · exact (e17 x y y0 g (by omega)).1
      · rw [(e17 y x x0 (by omega) (by omega)).2]; exact lk_sym hd ⟨y0, y1⟩ ⟨x0, x1⟩
    · right
      have key : ∃ s', itr (m_looks_17 N k a) (fun _ _ => none) N 0 s = k (a + 1) s' ∧ RM d s' ∧ (σ 0 15 = 1 → s' 0 15 = 1) ∧ s' 0 26 = S (fun a => S (fun b => if b < a then lk d a b else 0) a) (a + 1) ∧ (∀ x y, 0 ≤ y → y < x → x < a + 1 → s' 17 (36 * x + y) = lk d x y ∧ s' 17 (36 * y + x) = lk d x y) := by
        refine lq1 (Out := fun x => ∃ s', x = k (a + 1) s' ∧ RM d s' ∧ (σ 0 15 = 1 → s' 0 15 = 1) ∧ s' 0 26 = S (fun a => S (fun b => if b < a then lk d a b else 0) a) (a + 1) ∧ (∀ x y, 0 ≤ y → y < x → x < a + 1 → s' 17 (36 * x + y) = lk d x y ∧ s' 17 (36 * y + x) = lk d x y)) (Inv := fun b s' => RM d s' ∧ (σ 0 15 = 1 → s' 0 15 = 1) ∧ 0 ≤ b ∧ b ≤ a ∧ s' 0 26 = S (fun a => S (fun b => if b < a then lk d a b else 0) a) a + S (fun b => if b < a then lk d a b else 0) b ∧ (∀ x y, 0 ≤ y → y < x → (x < a ∨ (x = a ∧ y < b)) → s' 17 (36 * x + y) = lk d x y ∧ s' 17 (36 * y + x) = lk d x y)) (fun b _ => a - b) ?_ ?_ N 0 s ⟨hs, hq, by omega, by omega, by rw [e26, S_0, Int.add_zero], fun x y y0 yx hh => e17 x y y0 yx (by omega)⟩ (by omega)
        · rintro k2 b s1 ⟨hs1, hq1, b0, b1, f26, f17⟩
          unfold m_looks_17
          simp (disch := omega) only [le32_i]
          by_cases c2 : a ≤ b
          · left
            rw [if_pos c2]
            exact ⟨s1, rfl, hs1, hq1, by rw [f26, S_s _ h0, show b = a by omega], fun x y y0 yx hh => f17 x y y0 yx (by omega)⟩
          · right
            have ha : 0 ≤ a ∧ a < d 0 1 := by omega
            have hb : 0 ≤ b ∧ b < d 0 1 := by omega
            have kA := kn_r d a
            have kB := kn_r d b
            have n1 := nl2_p hd (n := a) (by omega) (by omega)
            have n2 := nl2_in d (a := a) (n := b) b0
            have fin : ∀ (t : Int) (s2 : St), t = lk d a b → RM d s2 → fr s1 s2 → ∃ a' σ', m_looks_56 N k k2 a b t s2 = k2 a' σ' ∧ (RM d σ' ∧ (σ 0 15 = 1 → σ' 0 15 = 1) ∧ 0 ≤ a' ∧ a' ≤ a ∧ σ' 0 26 = S (fun a => S (fun b => if b < a then lk d a b else 0) a) a + S (fun b => if b < a then lk d a b else 0) a' ∧ (∀ x y, 0 ≤ y → y < x → (x < a ∨ (x = a ∧ y < a')) → σ' 17 (36 * x + y) = lk d x y ∧ σ' 17 (36 * y + x) = lk d x y)) ∧ a - a' < a - b := by
              intro t s2 ht hs2 hf
              have hl := lk_r d a b
              have g26 : s2 0 26 = s1 0 26 := hf.2.1 26 (by decide) (by decide)
              have g17 : s2 17 = s1 17 := hf.1 17 (by decide) (by decide) (by decide) (by decide) (by decide)
              refine ⟨b + 1, su (su (su s2 17 (36 * a + b) t) 17 (36 * b + a) t) 0 26 (s1 0 26 + t), ?_, ⟨RM_26 (RM_17 (RM_17 hs2)), fun z => ?_, by omega, by omega, ?_, fun x y y0 yx hh => ?_⟩, by omega⟩
              · unfold m_looks_56 m_looks_95
                rw [gd_k (by omega), gd_k (show bit1 t by unfold bit1; omega), gd_k (by omega), gd_k (show bit1 t by unfold bit1; omega)]
                simp (disch := omega) only [eq32_i]
                have e26 : (su (su s2 17 (36 * a + b) t) 17 (36 * b + a) t) 0 26 = s1 0 26 := by
                  rw [su_k _ _ _ (by decide), su_k _ _ _ (by decide)]; exact g26
                by_cases z : t = 0
                · rw [if_pos z, e26, z]
                · rw [if_neg z, e26, show t = 1 by omega]
              · rw [su_n _ _ _ _ _ (by decide), su_k _ _ _ (by decide), su_k _ _ _ (by decide)]
                exact hf.2.2 (hq1 z)
              · rw [su_e, f26, S_s _ b0, if_pos (by omega), ht]; omega
              · rw [su_k _ _ _ (by decide), su_r, su_r, su_r, su_r, g17]
                by_cases e : x = a ∧ y = b
                · obtain ⟨rfl, rfl⟩ := e
                  rw [if_neg (by omega), if_pos rfl, if_pos rfl]
                  exact ⟨ht, ht⟩
                · have := f17 x y y0 yx (by omega)
                  rw [if_neg (by omega), if_neg (by omega), if_neg (by omega), if_neg (by omega)]
                  exact this
            rw [if_neg c2, m_isKnown_e N hs1 hd ha.1 ha.2, bd_k]
            unfold m_looks_55
            simp (disch := omega) only [eq32_i]
            by_cases c3 : kn d a = 0
            · rw [if_pos c3]
              exact fin 0 s1 (by unfold lk; rw [b01_f (by omega)]) hs1 (fr_rf s1)
            · rw [if_neg c3, m_isKnown_e N hs1 hd hb.1 hb.2, bd_k]
              simp (disch := omega) only [eq32_i]
              by_cases c4 : kn d b = 0
              · rw [if_pos c4]
                exact fin 0 s1 (by unfold lk; rw [b01_f (by omega)]) hs1 (fr_rf s1)
              · obtain ⟨s2, q1, q2, q3⟩ := m_scoreOf_e N hN hs1 hd ha hb
                have hsc := sc_r1 hd ha hb
                rw [if_neg c4, q1, bd_k, q2.2.1 24 rfl]
                simp (disch := omega) only [lt32_i]
                by_cases c5 : sc d a b < d 0 24
                · rw [if_pos c5]
                  exact fin 0 s2 (by unfold lk; rw [b01_f (by omega)]) q2 q3
                · rw [if_neg c5]
                  exact fin 1 s2 (by unfold lk; rw [b01_t ⟨by omega, by omega⟩]) q2 q3
        · rintro b s' ⟨-, -, b0, b1, -⟩; omega
      obtain ⟨s', q1, q2, q3, q4, q5⟩ := key
      rw [if_neg c, q1]
      exact ⟨a + 1, s', rfl, ⟨q2, q3, by omega, by omega, q4, q5⟩, by omega⟩
  · rintro a s ⟨-, -, h0, h1, -⟩; omega
theorem sim_links {N : Nat} (hN : 100 < N) {σx σm : St} (h : RR σx σm) : OKp RR (x_links N σx) (m_links N σm) := by
  obtain ⟨d, hx, hm, hd⟩ := h
  obtain ⟨σ', e1, e2⟩ := m_looks_e N hN hm hd
  unfold x_links m_links
  rw [x_countLinks_e N hN hx hd, bd_k, e1, bd_k, e2.2.1]
  exact ⟨_, _, _, rfl, rfl, d, hx, e2.1, hd⟩
