theorem zg_c (σ : St) (k : Nat) (a b : Int) (g g' : Int → Int) (h : ∀ x, a ≤ x → x < b → g x = g' x) : zg σ k a b g = zg σ k a b g' := by
  funext k'
  by_cases e : k' = k
  · subst e
    funext j
    rw [zg_r, zg_r]
    by_cases c : a ≤ j ∧ j < b
    · rw [if_pos c, if_pos c, h j c.1 c.2]
    · rw [if_neg c, if_neg c]
  · rw [zg_k _ _ _ _ e, zg_k _ _ _ _ e]
theorem m_copy_157_e (N : Nat) (t j n : Int) (ht : 0 ≤ t ∧ t < 4) (hj : 0 ≤ j) (hn : j + n ≤ 40) : ∀ (m : Nat) (v : Int) (σ : St), 0 ≤ v → v ≤ n → n - v < m → itr (m_copy_157 N t j n) (fun _ _ => none) m v σ = some (1, zg σ 36 (40 * t + j + v) (40 * t + j + n) (fun x => σ 37 (x - (40 * t + j)))) := by
  intro m
  induction m with
  | zero => intro v σ h0 h1 h2; omega
  | succ m ih =>
    intro v σ h0 h1 h2
    rw [itr_k, m_copy_157]
    simp (disch := omega) only [le32_i]
    by_cases c : n ≤ v
    · rw [if_pos c, zg_e _ _ _ _ _ (by omega)]
    · rw [if_neg c, gd_k (by omega), gd_k (by omega), ih (v + 1) _ (by omega) (by omega) (by omega), su_k _ _ _ (by decide)]
      have e : 40 * t + j + (v + 1) = 40 * t + j + v + 1 := by omega
      rw [e, zg_s σ 36 (40 * t + j + v) (40 * t + j + n) (σ 37 v) (fun x => σ 37 (x - (40 * t + j))) (by omega) (by show σ 37 v = σ 37 (40 * t + j + v - (40 * t + j)); rw [show 40 * t + j + v - (40 * t + j) = v by omega])]
theorem m_copy_120_e (N : Nat) (s i t j n : Int) (hs : 0 ≤ s ∧ s < 4) (hi : 0 ≤ i) (hn : i + n ≤ 40) : ∀ (m : Nat) (v : Int) (σ : St), 0 ≤ v → v ≤ n → n - v < m → itr (m_copy_120 N s i t j n) (fun _ _ => none) m v σ = itr (m_copy_157 N t j n) (fun _ _ => none) N 0 (zg σ 37 v n (fun x => σ 36 (40 * s + i + x))) := by
  intro m
  induction m with
  | zero => intro v σ h0 h1 h2; omega
  | succ m ih =>
    intro v σ h0 h1 h2
    rw [itr_k, m_copy_120]
    simp (disch := omega) only [le32_i]
    by_cases c : n ≤ v
    · rw [if_pos c, zg_e _ _ _ _ _ (by omega)]
    · rw [if_neg c, gd_k (by omega), gd_k (by omega), ih (v + 1) _ (by omega) (by omega) (by omega), su_k _ _ _ (by decide), zg_s σ 37 v n (σ 36 (40 * s + i + v)) (fun x => σ 36 (40 * s + i + x)) (by omega) rfl]
theorem x_Sheets_hasItems_e (N : Nat) {s i n : Int} {d σ : St} (h : 0 ≤ s ∧ s < 4) (hi : i32 i) (hn : i32 n) (hx : RX d σ) (hd : DI d) : x_Sheets_hasItems N s i n σ = some (b01 (0 ≤ i ∧ 0 ≤ n ∧ i + n ≤ d 35 s), σ) := by
  have g := hd.sh s h.1 h.2
  unfold x_Sheets_hasItems
  rw [(hx.sh s h.1 h.2).2]
  simp only [gd_k (show inb s 4 from h)]
  by_cases c1 : i < 0
  · rw [if_pos ((lt32_i (by omega) (by omega) (by omega) (by omega)).mpr c1), b01_f (by omega)]
  · rw [if_neg (fun z => c1 ((lt32_i (by omega) (by omega) (by omega) (by omega)).mp z))]
    by_cases c2 : n < 0
    · rw [if_pos ((lt32_i (by omega) (by omega) (by omega) (by omega)).mpr c2), b01_f (by omega)]
    · rw [if_neg (fun z => c2 ((lt32_i (by omega) (by omega) (by omega) (by omega)).mp z))]
      simp (disch := omega) only [lt32_i]
      by_cases c3 : d 35 s - n < i
      · rw [if_pos c3, b01_f (by omega)]
      · rw [if_neg c3, b01_t (by omega)]
theorem RX_cpy {d σ : St} {s i t j n : Int} (hs : 0 ≤ s ∧ s < 4) (ht : 0 ≤ t ∧ t < 4) (hi : 0 ≤ i) (hj : 0 ≤ j) (hn : 0 ≤ n) (h1 : i + n ≤ d 35 s) (h2 : j + n ≤ d 35 t) (hx : RX d σ) (hd : DI d) : RX (zg d 36 (40 * t + j) (40 * t + j + n) (fun x => d 36 (40 * s + i + (x - (40 * t + j))))) (cpy σ 14 14 (s * 40 + i) (t * 40 + j) n) := by
  have S : sam d (zg d 36 (40 * t + j) (40 * t + j + n) (fun x => d 36 (40 * s + i + (x - (40 * t + j))))) := sam_z (by decide)
  have hsh := hd.sh
  have ck : ∀ k : Nat, k ≠ 14 → cpy σ 14 14 (s * 40 + i) (t * 40 + j) n k = σ k := fun k hk => by unfold cpy; rw [if_neg hk]
  have cr : ∀ x : Int, cpy σ 14 14 (s * 40 + i) (t * 40 + j) n 14 x = if t * 40 + j ≤ x ∧ x < t * 40 + j + n then σ 14 (s * 40 + i + (x - (t * 40 + j))) else σ 14 x := fun x => by unfold cpy; rw [if_pos rfl]
  obtain ⟨⟨a1, a2, a3, a4, a5, a6, a7, a8⟩, b1, b2, b3, b4, b5, b6, b7, b8, b9, c1', c2', c3'⟩ := hx
  unfold RX
  simp (disch := decide) only [sam_ft S, sam_fg S, sam_sm S, sam_sf S, sam_sl S, zg_k, ck]
  refine ⟨⟨a1, a2, a3, a4, a5, a6, a7, a8⟩, b1, b2, b3, b4, b5, b6, b7, b8, b9, c1', c2', fun x k g0 g1 g2 g3 => ?_⟩
  have hb := (hsh x g0 g1).2.2
  have hbt := (hsh t ht.1 ht.2).2.2
  rw [cr, zg_r]
  by_cases e : x = t ∧ j ≤ k ∧ k < j + n
  · obtain ⟨e1, e2, e3⟩ := e
    subst e1
    have g := c3' s (i + (k - j)) hs.1 hs.2 (by omega) (by omega)
    rw [if_pos (by omega), if_pos (by omega), show s * 40 + i + (x * 40 + k - (x * 40 + j)) = s * 40 + (i + (k - j)) by omega, show 40 * s + i + (40 * x + k - (40 * x + j)) = 40 * s + (i + (k - j)) by omega]
    exact g
  · rw [if_neg (by omega), if_neg (by omega)]; exact c3' x k g0 g1 g2 g3
theorem DI_zg {d : St} {a b : Int} {g : Int → Int} (hg : ∀ x, a ≤ x → x < b → i32 (g x)) (hd : DI d) : DI (zg d 36 a b g) := by
  have hit := hd.itm
  unfold DI at hd ⊢
  simp (disch := decide) only [zg_k]
  refine ⟨hd.1, hd.2.1, hd.2.2.1, hd.2.2.2.1, hd.2.2.2.2.1, hd.2.2.2.2.2.1, hd.2.2.2.2.2.2.1, hd.2.2.2.2.2.2.2.1, hd.2.2.2.2.2.2.2.2.1, hd.2.2.2.2.2.2.2.2.2.1, hd.2.2.2.2.2.2.2.2.2.2.1, hd.2.2.2.2.2.2.2.2.2.2.2.1, hd.2.2.2.2.2.2.2.2.2.2.2.2.1, hd.2.2.2.2.2.2.2.2.2.2.2.2.2.1, hd.2.2.2.2.2.2.2.2.2.2.2.2.2.2.1, fun i h0 h1 => ?_⟩
  have := hit i h0 h1
  rw [zg_r]
  by_cases e : a ≤ i ∧ i < b
  · rw [if_pos e]; exact hg i e.1 e.2
  · rw [if_neg e]; exact this
theorem x39 (N : Nat) (s : St) : x_copy_39 N s = some (-10 - 1, su s 1 3 1) := rfl
theorem x98 (N : Nat) (s : St) : x_copy_98 N s = some (-10 - 2, su s 1 3 2) := rfl
theorem m35 (N : Nat) (s : St) : m_copy_35 N s = some (-10 - 1, su s 0 51 1) := rfl
theorem m111 (N : Nat) (s : St) : m_copy_111 N s = some (-10 - 2, su s 0 51 2) := rfl
theorem sim_copy {N : Nat} (hN : 100 < N) {σx σm : St} (h : RR σx σm) : ∀ a : Int, i32 a → ∀ b : Int, i32 b → ∀ c : Int, i32 c → ∀ e : Int, i32 e → ∀ n : Int, i32 n → OKp RR (x_copy N a b c e n σx) (m_copy N a b c e n σm) := by
  obtain ⟨d, hx, hm, hd⟩ := h
  intro s hs i hi t ht j hj n hn
  unfold x_copy m_copy
  rw [x_Sheets_isSheet_e N σx hs, m_isSheet_e N σm hs, bd_k, bd_k]
  simp only [b01_0, itn]
  by_cases c1 : 0 ≤ s ∧ s < 4
  · rw [if_pos c1, if_pos c1, x_Sheets_isSheet_e N σx ht, m_isSheet_e N σm ht, bd_k, bd_k]
    simp only [b01_0, itn]
    by_cases c2 : 0 ≤ t ∧ t < 4
    · rw [if_pos c2, if_pos c2, x_Sheets_isLost_e N c1 hx hd, bd_k, x_Sheets_isLost_e N c2 hx hd, bd_k, hm.1 33 rfl, hm.1 34 rfl, hm.1 35 rfl]
      have g1 := hd.sh s c1.1 c1.2
      have g2 := hd.sh t c2.1 c2.2
      simp only [gd_k (show inb s 4 from c1), gd_k (show inb t 4 from c2), b01_0]
      by_cases c3 : d 33 s = 0
      · rw [if_neg (fun z => z c3), if_pos ((eq32_i (by omega) (by omega) (by omega) (by omega)).mpr c3), x39, m35]
        exact ⟨_, _, _, rfl, rfl, RR_fnd hx hm hd⟩
      · rw [if_pos c3, if_neg (fun z => c3 ((eq32_i (by omega) (by omega) (by omega) (by omega)).mp z))]
        by_cases c4 : d 33 t = 0
        · rw [if_neg (fun z => z c4), if_pos ((eq32_i (by omega) (by omega) (by omega) (by omega)).mpr c4), x39, m35]
          exact ⟨_, _, _, rfl, rfl, RR_fnd hx hm hd⟩
        · rw [if_pos c4, if_neg (fun z => c4 ((eq32_i (by omega) (by omega) (by omega) (by omega)).mp z))]
          unfold x_Sheets_areOfOneType
          rw [(hx.sh s c1.1 c1.2).1, (hx.sh t c2.1 c2.2).1, if_pos (show d 33 s = 1 by omega), if_pos (show d 33 t = 1 by omega), gd_k (show inb s 4 from c1), gd_k (show inb t 4 from c2)]
          simp (disch := omega) only [eq32_i]
          by_cases c5 : d 34 s = d 34 t
          · rw [if_pos c5, if_pos c5, bd_k, if_neg (show ¬ eq32 1 0 by decide), x_Sheets_hasItems_e N c1 hi hn hx hd, bd_k]
            simp (disch := omega) only [lt32_i, s32_i, lt64_i, le64_i, x98, m111, b01_0, itn]
            by_cases c6 : 0 ≤ i ∧ 0 ≤ n ∧ i + n ≤ d 35 s
            · rw [if_pos c6, if_neg (by omega), x_Sheets_hasItems_e N c2 hj hn hx hd, bd_k]
              simp only [b01_0, itn]
              by_cases c7 : 0 ≤ j ∧ 0 ≤ n ∧ j + n ≤ d 35 t
              · unfold x_Sheets_moveItems
                rw [if_pos c7, if_neg (by omega), if_neg (by omega), if_neg (by omega), if_pos (by omega), gd_k (by omega), bd_k, m_copy_120_e N s i t j n c1 (by omega) (by omega) N 0 _ (by omega) (by omega) (by omega), m_copy_157_e N t j n c2 (by omega) (by omega) N 0 _ (by omega) (by omega) (by omega)]
                rw [zg_c _ 36 (40 * t + j + 0) (40 * t + j + n) _ (fun x => d 36 (40 * s + i + (x - (40 * t + j)))) (fun x hx1 hx2 => by rw [zg_r, if_pos (by omega), hm.1 36 rfl]), show 40 * t + j + 0 = 40 * t + j by omega]
                refine ⟨_, _, _, rfl, rfl, _, RX_cpy c1 c2 (by omega) (by omega) (by omega) (by omega) (by omega) hx hd, RM_z (by decide) (by decide) (by decide) (RM_zs (by decide) (by decide) (by decide) hm) rfl, DI_zg (fun x h0 h1 => ?_) hd⟩
                exact hd.itm _ (by omega) (by omega)
              · rw [if_neg c7]
                by_cases c8 : j < 0
                · rw [if_pos c8]
                  exact ⟨_, _, _, rfl, rfl, RR_fnd hx hm hd⟩
                · rw [if_neg c8, if_neg (by omega), if_neg (by omega), if_neg (by omega)]
                  exact ⟨_, _, _, rfl, rfl, RR_fnd hx hm hd⟩
            · rw [if_neg c6]
              repeat' split
              all_goals first | exact ⟨_, _, _, rfl, rfl, RR_fnd hx hm hd⟩ | (exfalso; omega)
          · rw [if_neg c5, if_neg c5, bd_k, if_pos rfl]
            exact ⟨_, _, _, rfl, rfl, RR_fnd hx hm hd⟩
    · rw [if_neg c2, if_neg c2]
      exact ⟨_, _, _, rfl, rfl, d, hx, hm, hd⟩
  · rw [if_neg c1, if_neg c1]
    exact ⟨_, _, _, rfl, rfl, d, hx, hm, hd⟩
