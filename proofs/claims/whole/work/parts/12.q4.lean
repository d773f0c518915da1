theorem fd_r (t : Int → Int) : ∀ (m : Nat) (n : Int), fd t n m = -1 ∨ (48 ≤ fd t n m ∧ fd t n m ≤ 57) := by
  intro m
  induction m with
  | zero => intro n; exact Or.inl rfl
  | succ m ih =>
    intro n
    rw [fd]
    by_cases c : 48 ≤ t n ∧ t n ≤ 57
    · rw [if_pos c]; exact Or.inr c
    · rw [if_neg c]; exact ih (n + 1)
theorem gF_r (t : Int → Int) (c : Int) : ∀ (m : Nat) (n : Int), gF t c n m = -1 ∨ (48 ≤ gF t c n m ∧ gF t c n m ≤ 57) := by
  intro m
  induction m with
  | zero => intro n; exact Or.inl rfl
  | succ m ih =>
    intro n
    rw [gF]
    by_cases e : t n = c + 97
    · rw [if_pos e]; exact fd_r t m (n + 1)
    · rw [if_neg e]; exact ih (n + 1)
theorem fg_r (d : St) (c : Int) : fg d c = 0 ∨ (48 ≤ fg d c ∧ fg d c ≤ 57) := by
  have := gF_r (d 10) c (d 0 12).toNat 0
  unfold fg
  repeat' split
  all_goals omega
theorem sg_r {d : St} (hd : DI d) {r k : Int} (h0 : 0 ≤ r) (h1 : r < d 0 1) (h2 : 0 ≤ k) (h3 : k < d 3 r) : 48 ≤ sg d r k ∧ sg d r k ≤ 122 := by
  have hl := hd.let r k h0 h1 h2 h3
  have := fg_r d (d 2 (10 * r + k) - 97)
  unfold sg
  split <;> omega
theorem sst_n (d : St) (r : Int) : ∀ k : Nat, 0 ≤ (sst d r k).1 ∧ (sst d r k).1 ≤ k := by
  intro k
  induction k with
  | zero => exact ⟨Int.le_refl 0, Int.le_refl 0⟩
  | succ k ih =>
    rw [sst]
    split
    · exact ⟨by show 0 ≤ (sst d r k).1 + 1; omega, by show (sst d r k).1 + 1 ≤ _; omega⟩
    · omega
theorem sst_r {d : St} (hd : DI d) {r : Int} (h0 : 0 ≤ r) (h1 : r < d 0 1) : ∀ k : Nat, (k : Int) ≤ d 3 r → ∀ i, 0 ≤ i → i < (sst d r k).1 → 48 ≤ (sst d r k).2 i ∧ (sst d r k).2 i ≤ 122 := by
  intro k
  induction k with
  | zero => intro _ i a b; exact absurd b (by show ¬ i < 0; omega)
  | succ k ih =>
    intro hk i a b
    have hs := sg_r hd h0 h1 (k := k) (by omega) (by omega)
    have := sst_n d r k
    rw [sst] at b ⊢
    by_cases c : sg d r k ≠ 48 ∧ ((sst d r k).1 = 0 ∨ (sst d r k).2 ((sst d r k).1 - 1) ≠ sg d r k)
    · rw [if_pos c] at b ⊢
      have b' : i < (sst d r k).1 + 1 := b
      show 48 ≤ (if i = (sst d r k).1 then sg d r k else (sst d r k).2 i) ∧ (if i = (sst d r k).1 then sg d r k else (sst d r k).2 i) ≤ 122
      by_cases e : i = (sst d r k).1
      · rw [if_pos e]; exact hs
      · rw [if_neg e]; exact ih (by omega) i a (by omega)
    · rw [if_neg c] at b ⊢
      exact ih (by omega) i a b
theorem sm_r {d : St} (hd : DI d) {r : Int} (h0 : 0 ≤ r) (h1 : r < d 0 1) : 0 ≤ sm d r ∧ sm d r ≤ 10 := by
  have hr := hd.row r h0 h1
  have := sst_n d r (d 3 r).toNat
  unfold sm
  omega
theorem sf_r {d : St} (hd : DI d) {r : Int} (h0 : 0 ≤ r) (h1 : r < d 0 1) : ∀ i, 0 ≤ i → i < sm d r → 48 ≤ sf d r i ∧ sf d r i ≤ 122 := by
  have hr := hd.row r h0 h1
  exact sst_r hd h0 h1 (d 3 r).toNat (by omega)
theorem RM1_k {d σ : St} {k : Nat} {i v : Int} (hk : pk k = false) (h0 : k ≠ 0) (h11 : k ≠ 11) (h : RM1 d σ) : RM1 d (su σ k i v) :=
  ⟨RM_k hk h0 h11 h.1, by rw [su_k _ _ _ (Ne.symm h0)]; exact h.2.1, by rw [su_k _ _ _ (Ne.symm h0)]; exact h.2.2.1, fun c a b => by rw [su_k _ _ _ (Ne.symm h11)]; exact h.2.2.2 c a b⟩
theorem m_sound_in (N : Nat) {d : St} (hd : DI d) {r o : Int} (h0 : 0 ≤ r) (h1 : r < d 0 1) (ho : o = 0 ∨ o = 1) : ∀ (m k : Nat) (σ : St), (k : Int) ≤ d 3 r → d 3 r - k < m → RM1 d σ → (∀ i, 0 ≤ i → i < (sst d r k).1 → σ 12 (10 * o + i) = (sst d r k).2 i) →
    ∃ σ', itr (m_soundOf_9 N r o) (fun _ _ _ => none) m (sst d r k).1 k σ = some (0, σ') ∧ RM1 d σ' ∧ σ' 13 o = sm d r ∧ (∀ i, 0 ≤ i → i < sm d r → σ' 12 (10 * o + i) = sf d r i) ∧ (∀ x, x ≠ o → σ' 13 x = σ 13 x) ∧ (∀ x, (x < 10 * o ∨ 10 * o + 10 ≤ x) → σ' 12 x = σ 12 x) := by
  have hr := hd.row r h0 h1
  have hR := hd.rows
  intro m
  induction m with
  | zero => intro k σ h2 h3; omega
  | succ m ih =>
    intro k σ h2 h3 hm hs
    have hn := sst_n d r k
    rw [itr_k, m_soundOf_9, hm.1.1 3 rfl, hm.1.1 2 rfl, gd_k (by omega)]
    by_cases c : d 3 r ≤ k
    · have e : k = (d 3 r).toNat := by omega
      rw [if_pos ((le32_i (by omega) (by omega) (by omega) (by omega)).mpr c), gd_k (by omega)]
      refine ⟨_, rfl, RM1_k (by decide) (by decide) (by decide) hm, ?_, ?_, ?_, ?_⟩
      · rw [su_e, e]; rfl
      · intro i a b
        rw [su_k _ _ _ (by decide)]
        have := hs i a (by rw [e]; exact b)
        rw [this, e]; rfl
      · intro x hx; rw [su_n _ _ _ _ _ hx]
      · intro x hx; rw [su_k _ _ _ (by decide)]
    · have hl := hd.let r k h0 h1 (by omega) (by omega)
      have hg := sg_r hd h0 h1 (k := k) (by omega) (by omega)
      have hfr := fg_r d (d 2 (10 * r + (k : Int)) - 97)
      have key : m_soundOf_63 N (itr (m_soundOf_9 N r o) (fun _ _ _ => none) m) r o (sst d r k).1 k (sg d r k) σ = itr (m_soundOf_9 N r o) (fun _ _ _ => none) m (sst d r (k + 1)).1 ((k + 1 : Nat) : Int) (if sg d r k ≠ 48 ∧ ((sst d r k).1 = 0 ∨ (sst d r k).2 ((sst d r k).1 - 1) ≠ sg d r k) then su σ 12 (10 * o + (sst d r k).1) (sg d r k) else σ) := by
        unfold m_soundOf_63 m_soundOf_98 m_soundOf_94 m_soundOf_99 m_soundOf_122
        have ek : (k : Int) + 1 = ((k + 1 : Nat) : Int) := by omega
        rw [if_pos (show eq32 0 0 from rfl), if_neg (show ¬ eq32 1 0 by decide), gd_k (show inb (10 * o + (sst d r k).1) 20 by omega), ek, sst]
        simp (disch := omega) only [eq32_i]
        by_cases c1 : sg d r k = 48
        · rw [if_pos c1, if_neg (fun z => z.1 c1), if_neg (fun z => z.1 c1)]
        · rw [if_neg c1]
          by_cases c2 : (sst d r k).1 = 0
          · rw [if_pos c2, if_pos ⟨c1, Or.inl c2⟩, if_pos ⟨c1, Or.inl c2⟩]
          · have hv := hs ((sst d r k).1 - 1) (by omega) (by omega)
            have hv2 := sst_r hd h0 h1 k h2 ((sst d r k).1 - 1) (by omega) (by omega)
            rw [if_neg c2, gd_k (by omega), show 10 * o + (sst d r k).1 - 1 = 10 * o + ((sst d r k).1 - 1) by omega, hv]
            simp (disch := omega) only [eq32_i]
            by_cases c3 : (sst d r k).2 ((sst d r k).1 - 1) = sg d r k
            · rw [if_pos c3, if_neg (fun z => z.2.elim c2 (fun y => y c3)), if_neg (fun z => z.2.elim c2 (fun y => y c3))]
            · rw [if_neg c3, if_pos ⟨c1, Or.inr c3⟩, if_pos ⟨c1, Or.inr c3⟩]
      have fin : ∃ σ', m_soundOf_63 N (itr (m_soundOf_9 N r o) (fun _ _ _ => none) m) r o (sst d r k).1 k (sg d r k) σ = some (0, σ') ∧ RM1 d σ' ∧ σ' 13 o = sm d r ∧ (∀ i, 0 ≤ i → i < sm d r → σ' 12 (10 * o + i) = sf d r i) ∧ (∀ x, x ≠ o → σ' 13 x = σ 13 x) ∧ (∀ x, (x < 10 * o ∨ 10 * o + 10 ≤ x) → σ' 12 x = σ 12 x) := by
        rw [key]
        by_cases cc : sg d r k ≠ 48 ∧ ((sst d r k).1 = 0 ∨ (sst d r k).2 ((sst d r k).1 - 1) ≠ sg d r k)
        · rw [if_pos cc]
          have e1 : (sst d r (k + 1)).1 = (sst d r k).1 + 1 := by rw [sst, if_pos cc]
          have e2 : ∀ i, (sst d r (k + 1)).2 i = if i = (sst d r k).1 then sg d r k else (sst d r k).2 i := by intro i; rw [sst, if_pos cc]
          obtain ⟨σ', q1, q2, q3, q4, q5, q6⟩ := ih (k + 1) (su σ 12 (10 * o + (sst d r k).1) (sg d r k)) (by omega) (by omega) (RM1_k (by decide) (by decide) (by decide) hm) (fun i a b => by
            rw [e2, su_r]
            by_cases e : i = (sst d r k).1
            · rw [if_pos e, if_pos (by omega)]
            · rw [if_neg e, if_neg (by omega)]; exact hs i a (by omega))
          exact ⟨σ', q1, q2, q3, q4, fun x hx => by rw [q5 x hx, su_k _ _ _ (by decide)], fun x hx => by rw [q6 x hx, su_n _ _ _ _ _ (by omega)]⟩
        · rw [if_neg cc]
          have e1 : sst d r (k + 1) = sst d r k := by rw [sst, if_neg cc]
          exact ih (k + 1) σ (by omega) (by omega) hm (fun i a b => by rw [e1] at b ⊢; exact hs i a b)
      rw [if_neg (fun z => c ((le32_i (by omega) (by omega) (by omega) (by omega)).mp z)), gd_k (by omega), gd_k (by omega), hm.2.2.2 _ (by omega) (by omega)]
      unfold m_soundOf_56
      simp (disch := omega) only [eq32_i]
      by_cases c1 : (k : Int) = 0
      · have e : d 2 (10 * r + (k : Int)) = sg d r k := by unfold sg; rw [if_pos (Or.inl c1)]
        rw [if_pos c1, e]; exact fin
      · rw [if_neg c1]
        by_cases c2 : fg d (d 2 (10 * r + (k : Int)) - 97) = 0
        · have e : d 2 (10 * r + (k : Int)) = sg d r k := by unfold sg; rw [if_pos (Or.inr c2)]
          rw [if_pos c2, e]; exact fin
        · have e : fg d (d 2 (10 * r + (k : Int)) - 97) = sg d r k := by unfold sg; rw [if_neg (fun z => z.elim c1 c2)]
          rw [if_neg c2, e]; exact fin
theorem m_soundOf_e (N : Nat) (hN : 100 < N) {d σ : St} (hm : RM d σ) (hd : DI d) {r o : Int} (h0 : 0 ≤ r) (h1 : r < d 0 1) (ho : o = 0 ∨ o = 1) : ∃ σ', m_soundOf N r o σ = some (0, σ') ∧ RM1 d σ' ∧ σ' 13 o = sm d r ∧ (∀ i, 0 ≤ i → i < sm d r → σ' 12 (10 * o + i) = sf d r i) := by
  have hr := hd.row r h0 h1
  obtain ⟨σ1, e1, e2⟩ := m_reads_e N hN hm hd
  unfold m_soundOf
  rw [e1, bd_k]
  obtain ⟨σ', q1, q2, q3, q4, q5, q6⟩ := m_sound_in N hd h0 h1 ho N 0 σ1 (by omega) (by omega) e2 (fun i a b => absurd b (by show ¬ i < 0; omega))
  exact ⟨σ', q1, q2, q3, q4⟩
