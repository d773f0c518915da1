/-! sheets -/
def zg (σ : St) (k : Nat) (a b : Int) (g : Int → Int) : St := fun k' => if k' = k then (fun j => if a ≤ j ∧ j < b then g j else σ k j) else σ k'
theorem zg_k (σ : St) {k k' : Nat} (a b : Int) (g : Int → Int) (h : k' ≠ k) : zg σ k a b g k' = σ k' := by unfold zg; rw [if_neg h]
theorem zg_r (σ : St) (k : Nat) (a b : Int) (g : Int → Int) (j : Int) : zg σ k a b g k j = if a ≤ j ∧ j < b then g j else σ k j := by unfold zg; rw [if_pos rfl]
theorem zg_s (σ : St) (k : Nat) (a b v : Int) (g : Int → Int) (h : a < b) (hv : v = g a) : zg (su σ k a v) k (a + 1) b g = zg σ k a b g := by
  subst hv
  funext k' 
  by_cases e : k' = k
  · subst e
    funext j
    rw [zg_r, zg_r, su_r]
    by_cases c : j = a
    · subst c; rw [if_neg (by omega), if_pos rfl, if_pos (by omega)]
    · by_cases c2 : a ≤ j ∧ j < b
      · rw [if_pos (by omega), if_pos c2]
      · rw [if_neg (by omega), if_neg c, if_neg c2]
  · rw [zg_k _ _ _ _ e, zg_k _ _ _ _ e, su_k _ _ _ e]
theorem zg_e (σ : St) (k : Nat) (a b : Int) (g : Int → Int) (h : b ≤ a) : zg σ k a b g = σ := by
  funext k'
  by_cases e : k' = k
  · subst e
    funext j
    rw [zg_r, if_neg (by omega)]
  · rw [zg_k _ _ _ _ e]
theorem RM_z {d σ : St} {k : Nat} {a b : Int} {g : Int → Int} (h0 : k ≠ 0) (h10 : k ≠ 10) (h11 : k ≠ 11) (h : RM d σ) (hk : pk k = true) : RM (zg d k a b g) (zg σ k a b g) := by
  have S : sam (fun k' => d k') d := ⟨rfl, rfl, rfl, rfl⟩
  have e1 : ft (zg d k a b g) = ft d := by unfold ft; rw [zg_k d a b g (Ne.symm h0), zg_k d a b g (Ne.symm h10)]
  have e2 : ∀ c, fg (zg d k a b g) c = fg d c := fun c => by unfold fg; rw [e1, zg_k d a b g (Ne.symm h0), zg_k d a b g (Ne.symm h10)]
  refine ⟨fun k' hk' => ?_, fun j hj => ?_, ?_⟩
  · by_cases e : k' = k
    · subst e; funext j; rw [zg_r, zg_r, h.1 k' hk']
    · rw [zg_k σ a b g e, zg_k d a b g e]; exact h.1 k' hk'
  · rw [zg_k σ a b g (Ne.symm h0), zg_k d a b g (Ne.symm h0)]; exact h.2.1 j hj
  · rw [zg_k σ a b g (Ne.symm h0), zg_k σ a b g (Ne.symm h11), e1]
    rcases h.2.2 with a' | ⟨a', b', c'⟩
    · exact Or.inl a'
    · exact Or.inr ⟨a', b', fun x h1 h2 => by rw [e2]; exact c' x h1 h2⟩
theorem RM_zs {d σ : St} {k : Nat} {a b : Int} {g : Int → Int} (hk : pk k = false) (h0 : k ≠ 0) (h11 : k ≠ 11) (h : RM d σ) : RM d (zg σ k a b g) := by
  have e0 : zg σ k a b g 0 = σ 0 := zg_k σ a b g (Ne.symm h0)
  have e1 : zg σ k a b g 11 = σ 11 := zg_k σ a b g (Ne.symm h11)
  refine ⟨fun k' hk' => ?_, fun j hj => ?_, ?_⟩
  · rw [zg_k σ a b g (fun e => by rw [e, hk] at hk'; cases hk')]; exact h.1 k' hk'
  · rw [e0]; exact h.2.1 j hj
  · rw [e0, e1]; exact h.2.2
theorem sam_z {d : St} {k : Nat} {a b : Int} {g : Int → Int} (h : k ≠ 0 ∧ k ≠ 2 ∧ k ≠ 3 ∧ k ≠ 10) : sam d (zg d k a b g) := ⟨zg_k d a b g (Ne.symm h.2.1), zg_k d a b g (Ne.symm h.2.2.1), zg_k d a b g (Ne.symm h.2.2.2), by rw [zg_k d a b g (Ne.symm h.1)]⟩
theorem x_renew_e (N : Nat) (s n : Int) (hs : 0 ≤ s ∧ s < 4) (hn : 0 ≤ n ∧ n ≤ 40) : ∀ (m : Nat) (v : Int) (σ : St), 0 ≤ v → v ≤ n → n - v < m → itr (x_Sheets_renew_17 N s n) (fun _ _ => none) m v σ = some (0, zg σ 14 (s * 40 + v) (s * 40 + n) (fun _ => 0)) := by
  intro m
  induction m with
  | zero => intro v σ h0 h1 h2; omega
  | succ m ih =>
    intro v σ h0 h1 h2
    rw [itr_k, x_Sheets_renew_17]
    simp (disch := omega) only [le32_i]
    by_cases c : n ≤ v
    · rw [if_pos c, zg_e _ _ _ _ _ (by omega)]
    · rw [if_neg c, gd_k (by omega), ih (v + 1) _ (by omega) (by omega) (by omega)]
      have e : s * 40 + (v + 1) = s * 40 + v + 1 := by omega
      rw [e, zg_s σ 14 (s * 40 + v) (s * 40 + n) 0 (fun _ => 0) (by omega) rfl]
theorem m_sheet_59_e (N : Nat) (s n : Int) (hs : 0 ≤ s ∧ s < 4) : ∀ (m : Nat) (v : Int) (σ : St), 0 ≤ v → v ≤ 40 → 40 - v < m → itr (m_sheet_59 N s n) (fun _ _ => none) m v σ = some (n, zg σ 36 (40 * s + v) (40 * s + 40) (fun _ => 0)) := by
  intro m
  induction m with
  | zero => intro v σ h0 h1 h2; omega
  | succ m ih =>
    intro v σ h0 h1 h2
    rw [itr_k, m_sheet_59]
    simp (disch := omega) only [le32_i]
    by_cases c : 40 ≤ v
    · rw [if_pos c, zg_e _ _ _ _ _ (by omega)]
    · rw [if_neg c, gd_k (by omega), ih (v + 1) _ (by omega) (by omega) (by omega)]
      have e : 40 * s + (v + 1) = 40 * s + v + 1 := by omega
      rw [e, zg_s σ 36 (40 * s + v) (40 * s + 40) 0 (fun _ => 0) (by omega) rfl]
theorem RR_fnd {d σx σm : St} {v : Int} (hx : RX d σx) (hm : RM d σm) (hd : DI d) : RR (su σx 1 3 v) (su σm 0 51 v) := by
  refine ⟨su d 0 51 v, RX_fnd hx, RM_uj (by decide) (by decide) (by decide) hm, ?_⟩
  unfold DI at hd ⊢
  simp (disch := decide) only [su_k, su_n]
  exact hd
theorem sim_sheet {N : Nat} (hN : 100 < N) {σx σm : St} (h : RR σx σm) : ∀ a : Int, i32 a → ∀ b : Int, i32 b → ∀ c : Int, i32 c → OKp RR (x_sheet N a b c σx) (m_sheet N a b c σm) := by
  obtain ⟨d, hx, hm, hd⟩ := h
  intro a ha b hb n hn
  unfold x_sheet m_sheet x_Sheets_noteFinding m_meets x_Sheets_renew
  simp (disch := omega) only [x_Sheets_isSheet_e, x_Sheets_isType_e, m_isSheet_e, m_in_e, bd_k, b01_0, itn, le32_i]
  by_cases c1 : 0 ≤ a ∧ a < 4
  · rw [if_pos c1, if_pos c1]
    by_cases c2 : 0 ≤ b ∧ b < 3
    · rw [if_pos c2, if_pos (by omega : 0 ≤ b ∧ b ≤ 2)]
      by_cases c3 : n ≤ 40
      · rw [if_pos c3, if_pos c3]
        by_cases c4 : 0 ≤ n
        · rw [if_pos c4, if_pos c4]
          simp only [gd_k (show inb a 4 from c1)]
          rw [x_renew_e N a n c1 ⟨c4, c3⟩ N 0 _ (by omega) c4 (by omega), bd_k, m_sheet_59_e N a n c1 N 0 _ (by omega) (by omega) (by omega)]
          refine ⟨_, _, _, rfl, rfl, zg (su (su (su d 33 a 1) 34 a b) 35 a n) 36 (40 * a + 0) (40 * a + 40) (fun _ => 0), ?_, RM_z (by decide) (by decide) (by decide) (RM_uk (by decide) (by decide) (by decide) (RM_uk (by decide) (by decide) (by decide) (RM_uk (by decide) (by decide) (by decide) hm rfl) rfl) rfl) rfl, ?_⟩
          · have S : sam d (zg (su (su (su d 33 a 1) 34 a b) 35 a n) 36 (40 * a + 0) (40 * a + 40) (fun _ => 0)) := sam_t (sam_t (sam_t (sam_k (by decide)) (sam_k (by decide))) (sam_k (by decide))) (sam_z (by decide))
            have hsh := hd.sh
            obtain ⟨⟨a1, a2, a3, a4, a5, a6, a7, a8⟩, b1, b2, b3, b4, b5, b6, b7, b8, b9, c1', c2', c3'⟩ := hx
            unfold RX
            simp (disch := decide) only [sam_ft S, sam_fg S, sam_sm S, sam_sf S, sam_sl S, su_k, zg_k]
            refine ⟨⟨a1, a2, a3, a4, a5, a6, a7, a8⟩, b1, b2, b3, b4, b5, b6, b7, b8, b9, c1', fun i h0 h1 => ?_, fun i k h0 h1 h2 h3 => ?_⟩
            · simp only [su_r]
              obtain ⟨g1, g2⟩ := c2' i h0 h1
              by_cases e : i = a
              · simp only [if_pos e, if_true]; exact ⟨trivial, trivial⟩
              · simp only [if_neg e]; exact ⟨g1, g2⟩
            · simp (disch := decide) only [su_r, su_k] at h3
              rw [zg_r, zg_r]
              have := (hsh i h0 h1).2.2
              by_cases e : i = a
              · rw [if_pos e] at h3
                rw [if_pos (by omega), if_pos (by omega)]
              · rw [if_neg e] at h3
                rw [if_neg (by omega), if_neg (by omega)]
                exact c3' i k h0 h1 h2 h3
          · have hsh := hd.sh
            have hit := hd.itm
            unfold DI at hd ⊢
            simp (disch := decide) only [su_k, zg_k]
            refine ⟨hd.1, hd.2.1, hd.2.2.1, hd.2.2.2.1, hd.2.2.2.2.1, hd.2.2.2.2.2.1, hd.2.2.2.2.2.2.1, hd.2.2.2.2.2.2.2.1, hd.2.2.2.2.2.2.2.2.1, hd.2.2.2.2.2.2.2.2.2.1, hd.2.2.2.2.2.2.2.2.2.2.1, hd.2.2.2.2.2.2.2.2.2.2.2.1, hd.2.2.2.2.2.2.2.2.2.2.2.2.1, hd.2.2.2.2.2.2.2.2.2.2.2.2.2.1, fun i h0 h1 => ?_, fun i h0 h1 => ?_⟩
            · have := hsh i h0 h1
              simp only [su_r]
              by_cases e : i = a
              · simp only [if_pos e]; exact ⟨Or.inr trivial, by omega, by omega⟩
              · simp only [if_neg e]; exact this
            · have := hit i h0 h1
              rw [zg_r]
              by_cases e : 40 * a + 0 ≤ i ∧ i < 40 * a + 40
              · rw [if_pos e]; omega
              · rw [if_neg e]; exact this
        · rw [if_neg c4, if_neg c4]
          exact ⟨_, _, _, rfl, rfl, RR_fnd hx hm hd⟩
      · rw [if_neg c3, if_neg c3]
        exact ⟨_, _, _, rfl, rfl, d, hx, hm, hd⟩
    · rw [if_neg c2, if_neg (by omega)]
      exact ⟨_, _, _, rfl, rfl, d, hx, hm, hd⟩
  · rw [if_neg c1, if_neg c1]
    exact ⟨_, _, _, rfl, rfl, d, hx, hm, hd⟩
