/-! row: the class's side -/
section NRS
variable (d : St) (R n v1 v5 v6 v7 dy : Int) (g : Int → Int)
theorem nr_0 (j : Int) : nr d R n v1 v5 v6 v7 dy g 0 j = if j = 1 then R + 1 else d 0 j := by
  unfold nr; rw [su_r]; simp (disch := decide) only [su_k, zg_k]
theorem nr_1 (j : Int) : nr d R n v1 v5 v6 v7 dy g 1 j = if j = R then v1 else d 1 j := by
  unfold nr; simp (disch := decide) only [su_k, zg_k, su_r]
theorem nr_2 (j : Int) : nr d R n v1 v5 v6 v7 dy g 2 j = if 10 * R ≤ j ∧ j < 10 * R + n then g j else d 2 j := by
  unfold nr; simp (disch := decide) only [su_k]; rw [zg_r]
theorem nr_3 (j : Int) : nr d R n v1 v5 v6 v7 dy g 3 j = if j = R then n else d 3 j := by
  unfold nr; simp (disch := decide) only [su_k, zg_k, su_r]
theorem nr_4 (j : Int) : nr d R n v1 v5 v6 v7 dy g 4 j = if j = R then v5 else d 4 j := by
  unfold nr; simp (disch := decide) only [su_k, zg_k, su_r]
theorem nr_5 (j : Int) : nr d R n v1 v5 v6 v7 dy g 5 j = if j = R then v6 else d 5 j := by
  unfold nr; simp (disch := decide) only [su_k, zg_k, su_r]
theorem nr_6 (j : Int) : nr d R n v1 v5 v6 v7 dy g 6 j = if j = R then v7 else d 6 j := by
  unfold nr; simp (disch := decide) only [su_k, zg_k, su_r]
theorem nr_7 (j : Int) : nr d R n v1 v5 v6 v7 dy g 7 j = if j = R then dy else d 7 j := by
  unfold nr; simp (disch := decide) only [su_k, zg_k, su_r]
theorem nr_8 (j : Int) : nr d R n v1 v5 v6 v7 dy g 8 j = if j = R then -1 else d 8 j := by
  unfold nr; simp (disch := decide) only [su_k, zg_k, su_r]
theorem nr_k {k : Nat} (h : 9 ≤ k) : nr d R n v1 v5 v6 v7 dy g k = d k := by
  unfold nr
  rw [su_k _ _ _ (show k ≠ 0 by omega), su_k _ _ _ (show k ≠ 8 by omega), su_k _ _ _ (show k ≠ 7 by omega), su_k _ _ _ (show k ≠ 6 by omega), su_k _ _ _ (show k ≠ 5 by omega), su_k _ _ _ (show k ≠ 4 by omega), su_k _ _ _ (show k ≠ 1 by omega), su_k _ _ _ (show k ≠ 3 by omega), zg_k _ _ _ _ (show k ≠ 2 by omega)]
theorem nr_ft : ft (nr d R n v1 v5 v6 v7 dy g) = ft d := by
  unfold ft; rw [nr_0, nr_k _ _ _ _ _ _ _ _ _ (by decide)]; rfl
theorem nr_fg (c : Int) : fg (nr d R n v1 v5 v6 v7 dy g) c = fg d c := by
  unfold fg; rw [nr_ft, nr_0, nr_k _ _ _ _ _ _ _ _ _ (by decide)]; rfl
end NRS
theorem nr_DI {d : St} {n v1 v5 v6 v7 : Int} {g : Int → Int} (hd : DI d) (hR : d 0 1 < 36) (h1 : 0 ≤ v1 ∧ v1 ≤ 2) (hn : 1 ≤ n ∧ n ≤ 10) (h5 : v5 = -1 ∨ (1500 ≤ v5 ∧ v5 ≤ 1999)) (h6 : -1 ≤ v6 ∧ v6 ≤ 7) (h7 : -1 ≤ v7 ∧ v7 ≤ 1) (hg : ∀ k, 0 ≤ k → k < n → 97 ≤ g (10 * d 0 1 + k) ∧ g (10 * d 0 1 + k) ≤ 122) : DI (nr d (d 0 1) n v1 v5 v6 v7 (d 0 0) g) := by
  obtain ⟨q1, q2, q3, q4, q5, q6, q7, q8, q9, q10, q11, q12, q13, q14, q15, q16⟩ := hd
  have k0 : ∀ j : Int, j ≠ 1 → nr d (d 0 1) n v1 v5 v6 v7 (d 0 0) g 0 j = d 0 j := fun j hj => by rw [nr_0, if_neg hj]
  have k1 : nr d (d 0 1) n v1 v5 v6 v7 (d 0 0) g 0 1 = d 0 1 + 1 := by rw [nr_0, if_pos rfl]
  have kk : ∀ k : Nat, 9 ≤ k → nr d (d 0 1) n v1 v5 v6 v7 (d 0 0) g k = d k := fun k hk => nr_k _ _ _ _ _ _ _ _ _ hk
  unfold DI
  rw [k0 0 (by decide), k0 10 (by decide), k0 12 (by decide), k0 24 (by decide), k0 37 (by decide), k1, kk 9 (by decide), kk 10 (by decide), kk 15 (by decide), kk 16 (by decide), kk 25 (by decide), kk 26 (by decide), kk 27 (by decide), kk 33 (by decide), kk 34 (by decide), kk 35 (by decide), kk 36 (by decide)]
  refine ⟨q1, by omega, q3, q4, q5, q6, fun r r0 r1 => ?_, fun r k r0 r1 k0' k1' => ?_, q9, q10, q11, q12, q13, fun k a b => ?_, q15, q16⟩
  · rw [nr_1, nr_3, nr_4, nr_5, nr_6, nr_7, nr_8]
    by_cases e : r = d 0 1
    · simp only [if_pos e]; exact ⟨h1, hn, h5, h6, h7, q1, by omega, by omega⟩
    · simp only [if_neg e]; exact q7 r r0 (by omega)
  · rw [nr_3] at k1'
    rw [nr_2]
    by_cases e : r = d 0 1
    · subst e
      rw [if_pos rfl] at k1'
      rw [if_pos (by omega)]
      exact hg k k0' k1'
    · have hl := (q7 r r0 (by omega)).2.1
      rw [if_neg e] at k1'
      rw [if_neg (by omega)]
      exact q8 r k r0 (by omega) k0' k1'
  · have := q14 k a b
    exact ⟨⟨this.1.1, by omega⟩, ⟨this.2.1.1, by omega⟩, this.2.2⟩
theorem nr_sl {d : St} {n v1 v5 v6 v7 dy : Int} {g : Int → Int} (hd : DI d) {a b : Int} (ha : 0 ≤ a ∧ a < d 0 1) (hb : 0 ≤ b ∧ b < d 0 1) : sl (nr d (d 0 1) n v1 v5 v6 v7 dy g) a b = sl d a b := by
  have h1 := hd.row a ha.1 ha.2
  have h2 := hd.row b hb.1 hb.2
  unfold sl
  rw [nr_3, nr_3, if_neg (show ¬ a = d 0 1 by omega), if_neg (show ¬ b = d 0 1 by omega)]
  exact osa_c (la := (d 3 a).toNat) (lb := (d 3 b).toNat) (fun i hi => by rw [nr_2, if_neg (by omega)]) (fun i hi => by rw [nr_2, if_neg (by omega)]) _ _ _ (Nat.le_refl _) (Nat.le_refl _) (Nat.le_refl _)
theorem nr_sst {d : St} {n v1 v5 v6 v7 dy : Int} {g : Int → Int} {r : Int} (h1 : r < d 0 1) : ∀ k : Nat, k ≤ 10 → sst (nr d (d 0 1) n v1 v5 v6 v7 dy g) r k = sst d r k := by
  intro k
  induction k with
  | zero => intro _; rfl
  | succ k ih =>
    intro hk
    have e : sg (nr d (d 0 1) n v1 v5 v6 v7 dy g) r k = sg d r k := by
      unfold sg
      rw [nr_2, if_neg (show ¬ (10 * d 0 1 ≤ 10 * r + (k : Int) ∧ 10 * r + (k : Int) < 10 * d 0 1 + n) by omega), nr_fg]
    rw [sst, sst, ih (by omega), e]
theorem nr_sm {d : St} {n v1 v5 v6 v7 dy : Int} {g : Int → Int} (hd : DI d) {r : Int} (h0 : 0 ≤ r) (h1 : r < d 0 1) : sm (nr d (d 0 1) n v1 v5 v6 v7 dy g) r = sm d r ∧ sf (nr d (d 0 1) n v1 v5 v6 v7 dy g) r = sf d r := by
  have h2 := hd.row r h0 h1
  unfold sm sf
  rw [nr_3, if_neg (show ¬ r = d 0 1 by omega), nr_sst h1 _ (by omega)]
  exact ⟨rfl, rfl⟩
/-- the class after the row's facts are in, before its letters -/
def xa (σ : St) (R v1 v5 v6 v7 dy : Int) : St := su (su (su (su (su (su (su (su σ 15 (R * 7 + 0) v1) 15 (R * 7 + 1) v5) 15 (R * 7 + 2) v6) 15 (R * 7 + 3) v7) 15 (R * 7 + 4) 0) 15 (R * 7 + 5) dy) 15 (R * 7 + 6) (-1)) 3 2 (R + 1)
theorem x_add_e (N : Nat) (v1 v5 v6 v7 : Int) {s : St} {R dy : Int} (h2 : s 3 2 = R) (h3 : s 3 3 = dy) (h : 0 ≤ R ∧ R < 36) : x_Rows_add N v1 v5 v6 v7 s = some (0, xa s R v1 v5 v6 v7 dy) := by
  unfold x_Rows_add xa
  simp (disch := decide) only [su_k, h2, h3]
  rw [gd_k (by omega), gd_k (by omega), gd_k (by omega), gd_k (by omega), gd_k (by omega), gd_k (by omega), gd_k (by omega)]
theorem x_spell_e (N : Nat) (hN : 100 < N) {d σ τ : St} {s i n : Int} (v1 v5 v6 v7 : Int) (h : 0 ≤ s ∧ s < 4) (hi : 0 ≤ i) (hn : 1 ≤ n ∧ n ≤ 10) (hz : i + n ≤ d 35 s) (hR : 0 ≤ d 0 1 ∧ d 0 1 < 36) (hx : RX d σ) (hd : DI d) (e14 : τ 14 = σ 14) (e4 : τ 15 (d 0 1 * 7 + 4) = 0) : ∃ τ', itr (x_row_146 N s i n (d 0 1)) (fun _ _ => none) N 0 τ = bd (x_Slips_learn N (d 0 1) τ') (fun _ t => bd (x_Sounds_hear N (d 0 1) t) (fun _ t => some (d 0 1, t))) ∧ (∀ k, k ≠ 15 → k ≠ 16 → τ' k = τ k) ∧ (∀ x, τ' 15 x = if x = d 0 1 * 7 + 4 then n else τ 15 x) ∧ (∀ x, τ' 16 x = if d 0 1 * 10 ≤ x ∧ x < d 0 1 * 10 + n then d 36 (40 * s + i + (x - d 0 1 * 10)) else τ 16 x) := by
  have g := hd.sh s h.1 h.2
  refine lq1 (Out := fun z => ∃ τ', z = bd (x_Slips_learn N (d 0 1) τ') (fun _ t => bd (x_Sounds_hear N (d 0 1) t) (fun _ t => some (d 0 1, t))) ∧ (∀ k, k ≠ 15 → k ≠ 16 → τ' k = τ k) ∧ (∀ x, τ' 15 x = if x = d 0 1 * 7 + 4 then n else τ 15 x) ∧ (∀ x, τ' 16 x = if d 0 1 * 10 ≤ x ∧ x < d 0 1 * 10 + n then d 36 (40 * s + i + (x - d 0 1 * 10)) else τ 16 x)) (Inv := fun v t => 0 ≤ v ∧ v ≤ n ∧ (∀ k, k ≠ 15 → k ≠ 16 → t k = τ k) ∧ (∀ x, t 15 x = if x = d 0 1 * 7 + 4 then v else τ 15 x) ∧ (∀ x, t 16 x = if d 0 1 * 10 ≤ x ∧ x < d 0 1 * 10 + v then d 36 (40 * s + i + (x - d 0 1 * 10)) else τ 16 x)) (fun v _ => n - v) ?_ ?_ N 0 τ ⟨by omega, by omega, fun _ _ _ => rfl, fun x => ?_, fun x => ?_⟩ (by omega)
  · rintro k v t ⟨v0, v1', g1, g2, g3⟩
    unfold x_row_146
    by_cases c : n ≤ v
    · left
      have e : v = n := by omega
      rw [if_pos ((le32_i (by omega) (by omega) (by omega) (by omega)).mpr c)]
      rw [e] at g2 g3
      exact ⟨t, rfl, g1, g2, g3⟩
    · right
      have e := hx.itm s (i + v) h.1 h.2 (by omega) (by omega)
      have e3 : 40 * s + (i + v) = 40 * s + i + v := by omega
      have ef : t 15 (d 0 1 * 7 + 4) = v := by rw [g2, if_pos rfl]
      unfold x_Sheets_itemAt x_Rows_spell x_Rows_fact
      rw [if_neg (fun z => c ((le32_i (by omega) (by omega) (by omega) (by omega)).mp z)), gd_k (by omega), bd_k, gd_k (by omega), bd_k, ef, if_neg (fun z => by rw [le32_i (by omega) (by omega) (by omega) (by omega)] at z; omega), gd_k (by omega), gd_k (by omega), bd_k, g1 14 (by decide) (by decide), e14, e, e3]
      refine ⟨_, _, rfl, ⟨by omega, by omega, fun k h15 h16 => by rw [su_k _ _ _ h15, su_k _ _ _ h16]; exact g1 k h15 h16, fun x => ?_, fun x => ?_⟩, by omega⟩
      · rw [su_r, su_k _ _ _ (by decide), g2]
        by_cases e5 : x = d 0 1 * 7 + 4
        · rw [if_pos e5, if_pos e5]
        · rw [if_neg e5, if_neg e5, if_neg e5]
      · rw [su_k _ _ _ (by decide), su_r, g3]
        by_cases e5 : x = d 0 1 * 10 + v
        · rw [if_pos e5, if_pos (by omega), show x - d 0 1 * 10 = v by omega]
        · rw [if_neg e5]
          by_cases e6 : d 0 1 * 10 ≤ x ∧ x < d 0 1 * 10 + v
          · rw [if_pos e6, if_pos (by omega)]
          · rw [if_neg e6, if_neg (by omega)]
  · rintro v t ⟨v0, v1', -⟩; omega
  · by_cases e : x = d 0 1 * 7 + 4
    · rw [if_pos e, e]; exact e4
    · rw [if_neg e]
  · rw [if_neg (by omega)]
theorem xa_k (σ : St) (R v1 v5 v6 v7 dy : Int) {k : Nat} (h3 : k ≠ 3) (h15 : k ≠ 15) : xa σ R v1 v5 v6 v7 dy k = σ k := by
  unfold xa
  rw [su_k _ _ _ h3]
  simp only [su_k _ _ _ h15]
theorem xa_3 (σ : St) (R v1 v5 v6 v7 dy j : Int) : xa σ R v1 v5 v6 v7 dy 3 j = if j = 2 then R + 1 else σ 3 j := by
  unfold xa
  rw [su_r]
  simp (disch := decide) only [su_k]
theorem xa_n (σ : St) (R v1 v5 v6 v7 dy : Int) {r j : Int} (h0 : r < R) (hj : 0 ≤ j ∧ j < 7) : xa σ R v1 v5 v6 v7 dy 15 (r * 7 + j) = σ 15 (r * 7 + j) := by
  unfold xa
  rw [su_k _ _ _ (by decide), su_n _ _ _ _ _ (by omega), su_n _ _ _ _ _ (by omega), su_n _ _ _ _ _ (by omega), su_n _ _ _ _ _ (by omega), su_n _ _ _ _ _ (by omega), su_n _ _ _ _ _ (by omega), su_n _ _ _ _ _ (by omega)]
theorem xa_r (σ : St) (R v1 v5 v6 v7 dy : Int) : xa σ R v1 v5 v6 v7 dy 15 (R * 7 + 0) = v1 ∧ xa σ R v1 v5 v6 v7 dy 15 (R * 7 + 1) = v5 ∧ xa σ R v1 v5 v6 v7 dy 15 (R * 7 + 2) = v6 ∧ xa σ R v1 v5 v6 v7 dy 15 (R * 7 + 3) = v7 ∧ xa σ R v1 v5 v6 v7 dy 15 (R * 7 + 4) = 0 ∧ xa σ R v1 v5 v6 v7 dy 15 (R * 7 + 5) = dy ∧ xa σ R v1 v5 v6 v7 dy 15 (R * 7 + 6) = -1 := by
  unfold xa
  simp (disch := omega) only [su_e, su_n, su_k _ _ _ (show (15 : Nat) ≠ 3 by decide)]
  exact ⟨trivial, trivial, trivial, trivial, trivial, trivial, trivial⟩
