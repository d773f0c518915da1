/-! row: a new row -/
theorem x_areFacts_e (N : Nat) {y p q : Int} (s : St) (hy : i32 y) (hp : i32 p) (hq : i32 q) : x_areFacts N y p q s = some (b01 ((y = -1 ∨ (1500 ≤ y ∧ y ≤ 1999)) ∧ (-1 ≤ p ∧ p ≤ 7) ∧ (-1 ≤ q ∧ q ≤ 1)), s) := by
  have e32 : x_areFacts_32 N q s = some (b01 (-1 ≤ q ∧ q ≤ 1), s) := by
    unfold x_areFacts_32 x_areFacts_45
    rw [x_isBelow_e N s hq.1 hq.2 (by omega) (by omega), bd_k]
    simp only [b01_0, itn]
    by_cases c : q = -1
    · rw [if_pos ((eq32_i hq.1 hq.2 (by omega) (by omega)).mpr c), b01_t (by omega)]
    · rw [if_neg (fun z => c ((eq32_i hq.1 hq.2 (by omega) (by omega)).mp z))]
      by_cases c2 : 0 ≤ q ∧ q < 2
      · rw [if_pos c2, b01_t (by omega)]
      · rw [if_neg c2, b01_f (by omega)]
  have e18 : x_areFacts_18 N p q s = some (b01 ((-1 ≤ p ∧ p ≤ 7) ∧ (-1 ≤ q ∧ q ≤ 1)), s) := by
    unfold x_areFacts_18
    rw [x_isBelow_e N s hp.1 hp.2 (by omega) (by omega), bd_k, e32]
    simp only [b01_0, itn]
    by_cases c2 : -1 ≤ q ∧ q ≤ 1
    · rw [b01_t c2]
      by_cases c : p = -1
      · rw [if_pos ((eq32_i hp.1 hp.2 (by omega) (by omega)).mpr c), b01_t (by omega)]
      · rw [if_neg (fun z => c ((eq32_i hp.1 hp.2 (by omega) (by omega)).mp z))]
        by_cases c3 : 0 ≤ p ∧ p < 8
        · rw [if_pos c3, b01_t (by omega)]
        · rw [if_neg c3, b01_f (by omega)]
    · rw [b01_f c2, b01_f (fun z => c2 z.2)]
      repeat' split
      all_goals rfl
  unfold x_areFacts
  rw [x_isWithin_e N s hy.1 hy.2 (by omega) (by omega) (by omega) (by omega), bd_k, e18]
  simp only [b01_0, itn]
  by_cases c2 : (-1 ≤ p ∧ p ≤ 7) ∧ (-1 ≤ q ∧ q ≤ 1)
  · rw [b01_t c2]
    by_cases c : y = -1
    · rw [if_pos ((eq32_i hy.1 hy.2 (by omega) (by omega)).mpr c), b01_t ⟨Or.inl c, c2⟩]
    · rw [if_neg (fun z => c ((eq32_i hy.1 hy.2 (by omega) (by omega)).mp z))]
      by_cases c3 : 1500 ≤ y ∧ y ≤ 1999
      · rw [if_pos c3, b01_t ⟨Or.inr c3, c2⟩]
      · rw [if_neg c3, b01_f (fun z => z.1.elim c c3)]
  · rw [b01_f c2, b01_f (fun z => c2 z.2)]
    repeat' split
    all_goals rfl
/-- the n items from i on are letters -/
def isl (d : St) (s i n : Int) : Prop := ∀ k, 0 ≤ k → k < n → 97 ≤ d 36 (40 * s + i + k) ∧ d 36 (40 * s + i + k) ≤ 122
theorem x_areL_e (N : Nat) (hN : 100 < N) {d σ : St} {s i n : Int} (h : 0 ≤ s ∧ s < 4) (hi : 0 ≤ i) (hn : 1 ≤ n ∧ n ≤ 10) (hz : i + n ≤ d 35 s) (hx : RX d σ) (hd : DI d) : (isl d s i n → x_Sheets_areLetters N s i n σ = some (1, σ)) ∧ (¬ isl d s i n → x_Sheets_areLetters N s i n σ = some (0, σ)) := by
  have g := hd.sh s h.1 h.2
  unfold x_Sheets_areLetters
  refine lq1 (Out := fun z => (isl d s i n → z = some (1, σ)) ∧ (¬ isl d s i n → z = some (0, σ))) (Inv := fun x t => t = σ ∧ 0 ≤ x ∧ x ≤ n ∧ ∀ k, 0 ≤ k → k < x → 97 ≤ d 36 (40 * s + i + k) ∧ d 36 (40 * s + i + k) ≤ 122) (fun x _ => n - x) ?_ ?_ N 0 σ ⟨rfl, by omega, by omega, fun k _ _ => by omega⟩ (by omega)
  · rintro k x t ⟨rfl, x0, x1, g2⟩
    unfold x_Sheets_areLetters_3
    by_cases c : n ≤ x
    · left
      rw [if_pos ((le32_i (by omega) (by omega) (by omega) (by omega)).mpr c)]
      exact ⟨fun _ => rfl, fun z => absurd (fun k k0 k1 => g2 k k0 (by omega)) z⟩
    · have e := hx.itm s (i + x) h.1 h.2 (by omega) (by omega)
      have e2 := hd.itm (40 * s + (i + x)) (by omega) (by omega)
      have e3 : 40 * s + (i + x) = 40 * s + i + x := by omega
      unfold x_Sheets_itemAt
      rw [if_neg (fun z => c ((le32_i (by omega) (by omega) (by omega) (by omega)).mp z)), gd_k (by omega), e, bd_k, x_isLetter_e N t e2, bd_k]
      simp only [b01_0, itn]
      rw [e3]
      by_cases c2 : 97 ≤ d 36 (40 * s + i + x) ∧ d 36 (40 * s + i + x) ≤ 122
      · right
        rw [if_pos c2]
        refine ⟨_, t, rfl, ⟨rfl, by omega, by omega, fun k k0 k1 => ?_⟩, by omega⟩
        by_cases e4 : k = x
        · rw [e4]; exact c2
        · exact g2 k k0 (by omega)
      · left
        rw [if_neg c2]
        exact ⟨fun z => absurd (z x x0 (by omega)) c2, fun _ => rfl⟩
  · rintro x t ⟨-, x0, x1, -⟩; omega
theorem m_row_112_e (N : Nat) (hN : 100 < N) {d σ : St} {v1 s i n v5 v6 v7 : Int} (h : 0 ≤ s ∧ s < 4) (hi : 0 ≤ i) (hn : 1 ≤ n ∧ n ≤ 10) (hz : i + n ≤ d 35 s) (hm : RM d σ) (hd : DI d) : (isl d s i n → itr (m_row_112 N v1 s i n v5 v6 v7) (fun _ _ => none) N 0 σ = if d 0 1 = 36 then some (-4, σ) else itr (m_row_167 N v1 s i n v5 v6 v7) (fun _ _ => none) N 0 σ) ∧ (¬ isl d s i n → itr (m_row_112 N v1 s i n v5 v6 v7) (fun _ _ => none) N 0 σ = some (-3, σ)) := by
  have g := hd.sh s h.1 h.2
  have hr := hd.rows
  refine lq1 (Out := fun z => (isl d s i n → z = if d 0 1 = 36 then some (-4, σ) else itr (m_row_167 N v1 s i n v5 v6 v7) (fun _ _ => none) N 0 σ) ∧ (¬ isl d s i n → z = some (-3, σ))) (Inv := fun x t => t = σ ∧ 0 ≤ x ∧ x ≤ n ∧ ∀ k, 0 ≤ k → k < x → 97 ≤ d 36 (40 * s + i + k) ∧ d 36 (40 * s + i + k) ≤ 122) (fun x _ => n - x) ?_ ?_ N 0 σ ⟨rfl, by omega, by omega, fun k _ _ => by omega⟩ (by omega)
  · rintro k x t ⟨rfl, x0, x1, g2⟩
    unfold m_row_112
    by_cases c : n ≤ x
    · left
      rw [if_pos ((le32_i (by omega) (by omega) (by omega) (by omega)).mpr c), hm.2.1 1 rfl]
      refine ⟨fun _ => ?_, fun z => absurd (fun k k0 k1 => g2 k k0 (by omega)) z⟩
      by_cases c2 : d 0 1 = 36
      · rw [if_pos c2, if_pos ((eq32_i (by omega) (by omega) (by omega) (by omega)).mpr c2)]
      · rw [if_neg c2, if_neg (fun z => c2 ((eq32_i (by omega) (by omega) (by omega) (by omega)).mp z))]
    · have e2 := hd.itm (40 * s + i + x) (by omega) (by omega)
      rw [if_neg (fun z => c ((le32_i (by omega) (by omega) (by omega) (by omega)).mp z)), gd_k (by omega), hm.1 36 rfl, m_in_e N t e2.1 e2.2 (by omega) (by omega) (by omega) (by omega), bd_k]
      simp only [b01_0, itn]
      by_cases c2 : 97 ≤ d 36 (40 * s + i + x) ∧ d 36 (40 * s + i + x) ≤ 122
      · right
        rw [if_pos c2]
        refine ⟨_, t, rfl, ⟨rfl, by omega, by omega, fun k k0 k1 => ?_⟩, by omega⟩
        by_cases e4 : k = x
        · rw [e4]; exact c2
        · exact g2 k k0 (by omega)
      · left
        rw [if_neg c2]
        exact ⟨fun z => absurd (z x x0 (by omega)) c2, fun _ => rfl⟩
  · rintro x t ⟨-, x0, x1, -⟩; omega
/-- the new row's cells, on the reference's side -/
def nr (d : St) (R n v1 v5 v6 v7 dy : Int) (g : Int → Int) : St := su (su (su (su (su (su (su (su (zg d 2 (10 * R) (10 * R + n) g) 3 R n) 1 R v1) 4 R v5) 5 R v6) 6 R v7) 7 R dy) 8 R (-1)) 0 1 (R + 1)
theorem m_row_end (N : Nat) (v1 v2 v3 v4 v5 v6 v7 : Int) (k : Int → St → MM) (v8 : Int) (s : St) {R : Int} (hR : s 0 1 = R) (h0 : 0 ≤ R ∧ R < 36) (h : v4 ≤ v8) (h4 : i32 v4) (h8 : i32 v8) : m_row_167 N v1 v2 v3 v4 v5 v6 v7 k v8 s = some (R, su (su (su (su (su (su (su (su s 3 R v4) 1 R v1) 4 R v5) 5 R v6) 6 R v7) 7 R (s 0 0)) 8 R (-1)) 0 1 (R + 1)) := by
  have g : inb R 36 := by omega
  have e : R + 1 - 1 = R := by omega
  unfold m_row_167
  rw [if_pos ((le32_i h4.1 h4.2 h8.1 h8.2).mpr h)]
  simp (disch := decide) only [su_k, su_e, su_n, hR]
  simp only [gd_k g, e]
theorem m_row_167_e (N : Nat) (hN : 100 < N) {d σ : St} {v1 s i n v5 v6 v7 : Int} (h : 0 ≤ s ∧ s < 4) (hi : 0 ≤ i) (hn : 1 ≤ n ∧ n ≤ 10) (hz : i + n ≤ d 35 s) (hR : d 0 1 < 36) (hm : RM d σ) (hd : DI d) : itr (m_row_167 N v1 s i n v5 v6 v7) (fun _ _ => none) N 0 σ = some (d 0 1, nr σ (d 0 1) n v1 v5 v6 v7 (d 0 0) (fun x => d 36 (40 * s + i + (x - 10 * d 0 1)))) := by
  have g := hd.sh s h.1 h.2
  have hr := hd.rows
  refine lq1 (Out := fun z => z = some (d 0 1, nr σ (d 0 1) n v1 v5 v6 v7 (d 0 0) (fun x => d 36 (40 * s + i + (x - 10 * d 0 1))))) (Inv := fun x t => 0 ≤ x ∧ x ≤ n ∧ t 0 0 = d 0 0 ∧ t 0 1 = d 0 1 ∧ t 36 = d 36 ∧ zg t 2 (10 * d 0 1 + x) (10 * d 0 1 + n) (fun x => d 36 (40 * s + i + (x - 10 * d 0 1))) = zg σ 2 (10 * d 0 1) (10 * d 0 1 + n) (fun x => d 36 (40 * s + i + (x - 10 * d 0 1)))) (fun x _ => n - x) ?_ ?_ N 0 σ ⟨by omega, by omega, hm.2.1 0 rfl, hm.2.1 1 rfl, hm.1 36 rfl, by rw [show 10 * d 0 1 + 0 = 10 * d 0 1 by omega]⟩ (by omega)
  · rintro k x t ⟨x0, x1, g1, g2, g3, g4⟩
    by_cases c : n ≤ x
    · left
      rw [zg_e _ _ _ _ _ (by omega)] at g4
      rw [m_row_end N v1 s i n v5 v6 v7 k x t g2 (by omega) c (by omega) (by omega), g1, g4]
      rfl
    · right
      unfold m_row_167
      rw [if_neg (fun z => c ((le32_i (by omega) (by omega) (by omega) (by omega)).mp z)), g2, g3, gd_k (by omega), gd_k (by omega)]
      refine ⟨_, _, rfl, ⟨by omega, by omega, by rw [su_k _ _ _ (by decide)]; exact g1, by rw [su_k _ _ _ (by decide)]; exact g2, by rw [su_k _ _ _ (by decide)]; exact g3, ?_⟩, by omega⟩
      rw [← g4, show 10 * d 0 1 + (x + 1) = 10 * d 0 1 + x + 1 by omega]
      exact zg_s t 2 (10 * d 0 1 + x) (10 * d 0 1 + n) _ _ (by omega) (by show _ = d 36 (40 * s + i + (10 * d 0 1 + x - 10 * d 0 1)); rw [show 10 * d 0 1 + x - 10 * d 0 1 = x by omega])
  · rintro x t ⟨x0, x1, -⟩; omega
theorem RM_nr {d σ : St} {R n v1 v5 v6 v7 dy : Int} {g : Int → Int} (hm : RM d σ) : RM (nr d R n v1 v5 v6 v7 dy g) (nr σ R n v1 v5 v6 v7 dy g) := by
  unfold nr
  exact RM_uj (by decide) (by decide) (by decide) (RM_uk (by decide) (by decide) (by decide) (RM_uk (by decide) (by decide) (by decide) (RM_uk (by decide) (by decide) (by decide) (RM_uk (by decide) (by decide) (by decide) (RM_uk (by decide) (by decide) (by decide) (RM_uk (by decide) (by decide) (by decide) (RM_uk (by decide) (by decide) (by decide) (RM_z (by decide) (by decide) (by decide) hm rfl) rfl) rfl) rfl) rfl) rfl) rfl) rfl)
theorem osa_c {f f' g g' : Nat → Int} {la lb : Nat} (hf : ∀ i, i < la → f i = f' i) (hg : ∀ j, j < lb → g j = g' j) : ∀ (n i j : Nat), i + j ≤ n → i ≤ la → j ≤ lb → osa f g i j = osa f' g' i j := by
  intro n
  induction n with
  | zero => intro i j h _ _; rw [show i = 0 by omega, show j = 0 by omega, osa_0, osa_0]
  | succ n ih =>
    intro i j h hi hj
    cases i with
    | zero => rw [osa_0, osa_0]
    | succ i =>
      cases j with
      | zero => rw [osa_z, osa_z]
      | succ j =>
        rw [osa_s, osa_s, ih i (j + 1) (by omega) (by omega) hj, ih (i + 1) j (by omega) hi (by omega), ih i j (by omega) (by omega) (by omega), ih (i - 1) (j - 1) (by omega) (by omega) (by omega), hf i (by omega), hf (i - 1) (by omega), hg j (by omega), hg (j - 1) (by omega)]
