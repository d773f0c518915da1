/-! the class reads the text -/
theorem x_isLetter_e (N : Nat) {b : Int} (s : St) (h : i32 b) : x_isLetter N b s = some (b01 (97 ≤ b ∧ b ≤ 122), s) := by
  unfold x_isLetter
  rw [x_isWithin_e N s h.1 h.2 (by omega) (by omega) (by omega) (by omega), bd_k, gd_k b01_bit]
theorem x_isFigure_e (N : Nat) {b : Int} (s : St) (h : i32 b) : x_isFigure N b s = some (b01 (48 ≤ b ∧ b ≤ 57), s) := by
  unfold x_isFigure
  rw [x_isWithin_e N s h.1 h.2 (by omega) (by omega) (by omega) (by omega), bd_k, gd_k b01_bit]
theorem x_due_e (N : Nat) {q b : Int} (s : St) (hq : q = 0 ∨ q = 1 ∨ q = 2 ∨ q = 3) (hb : i32 b) : x_Sounds_dueBehind N q b s = some (nx q b, s) := by
  have e45 : x_Sounds_dueBehind_45 N q b s = some (if q = 3 ∧ b = 59 then 0 else -1, s) := by
    unfold x_Sounds_dueBehind_45
    by_cases c1 : q = 3
    · rw [if_pos ((eq32_i (by omega) (by omega) (by omega) (by omega)).mpr c1)]
      by_cases c2 : b = 59
      · rw [if_pos ((eq32_i (by omega) (by omega) (by omega) (by omega)).mpr c2), if_pos ⟨c1, c2⟩]
      · rw [if_neg (fun z => c2 ((eq32_i (by omega) (by omega) (by omega) (by omega)).mp z)), if_neg (fun z => c2 z.2)]
    · rw [if_neg (fun z => c1 ((eq32_i (by omega) (by omega) (by omega) (by omega)).mp z)), if_neg (fun z => c1 z.1)]
  have e31 : x_Sounds_dueBehind_31 N q b s = some (if q = 2 ∧ 48 ≤ b ∧ b ≤ 57 then 3 else if q = 3 ∧ b = 59 then 0 else -1, s) := by
    unfold x_Sounds_dueBehind_31
    rw [x_isFigure_e N s hb, bd_k, e45]
    simp only [b01_0, itn]
    by_cases c1 : q = 2
    · rw [if_pos ((eq32_i (by omega) (by omega) (by omega) (by omega)).mpr c1)]
      by_cases c2 : 48 ≤ b ∧ b ≤ 57
      · rw [if_pos c2, if_pos ⟨c1, c2⟩]
      · rw [if_neg c2, if_neg (show ¬ (q = 2 ∧ 48 ≤ b ∧ b ≤ 57) from fun z => c2 z.2)]
    · rw [if_neg (fun z => c1 ((eq32_i (by omega) (by omega) (by omega) (by omega)).mp z)), if_neg (show ¬ (q = 2 ∧ 48 ≤ b ∧ b ≤ 57) from fun z => c1 z.1)]
  have e18 : x_Sounds_dueBehind_18 N q b s = some (if q = 1 ∧ b = 61 then 2 else if q = 2 ∧ 48 ≤ b ∧ b ≤ 57 then 3 else if q = 3 ∧ b = 59 then 0 else -1, s) := by
    unfold x_Sounds_dueBehind_18
    rw [e31]
    by_cases c1 : q = 1
    · rw [if_pos ((eq32_i (by omega) (by omega) (by omega) (by omega)).mpr c1)]
      by_cases c2 : b = 61
      · rw [if_pos ((eq32_i (by omega) (by omega) (by omega) (by omega)).mpr c2), if_pos ⟨c1, c2⟩]
      · rw [if_neg (fun z => c2 ((eq32_i (by omega) (by omega) (by omega) (by omega)).mp z))]
        conv => rhs; rw [if_neg (fun z => c2 z.2)]
    · rw [if_neg (fun z => c1 ((eq32_i (by omega) (by omega) (by omega) (by omega)).mp z))]
      conv => rhs; rw [if_neg (fun z => c1 z.1)]
  have e9 : x_Sounds_dueBehind_9 N q b s = some (if 97 ≤ b ∧ b ≤ 122 then 1 else if q = 1 ∧ b = 61 then 2 else if q = 2 ∧ 48 ≤ b ∧ b ≤ 57 then 3 else if q = 3 ∧ b = 59 then 0 else -1, s) := by
    unfold x_Sounds_dueBehind_9
    rw [x_isLetter_e N s hb, bd_k, e18]
    simp only [b01_0, itn]
    by_cases c : 97 ≤ b ∧ b ≤ 122
    · rw [if_pos c, if_pos c]
    · rw [if_neg c, if_neg c]
  unfold x_Sounds_dueBehind nx
  rw [e9, e18]
  by_cases c0 : q = 0
  · rw [if_pos ((eq32_i (by omega) (by omega) (by omega) (by omega)).mpr c0)]
    by_cases c : 97 ≤ b ∧ b ≤ 122
    · rw [if_pos c, if_pos ⟨Or.inl c0, c⟩]
    · rw [if_neg c, if_neg (show ¬ ((q = 0 ∨ q = 1) ∧ 97 ≤ b ∧ b ≤ 122) from fun z => c z.2)]
  · rw [if_neg (fun z => c0 ((eq32_i (by omega) (by omega) (by omega) (by omega)).mp z))]
    by_cases c1 : q = 1
    · rw [if_pos ((eq32_i (by omega) (by omega) (by omega) (by omega)).mpr c1)]
      by_cases c : 97 ≤ b ∧ b ≤ 122
      · rw [if_pos c, if_pos ⟨Or.inr c1, c⟩]
      · rw [if_neg c, if_neg (show ¬ ((q = 0 ∨ q = 1) ∧ 97 ≤ b ∧ b ≤ 122) from fun z => c z.2)]
    · rw [if_neg (fun z => c1 ((eq32_i (by omega) (by omega) (by omega) (by omega)).mp z)), if_neg (show ¬ ((q = 0 ∨ q = 1) ∧ 97 ≤ b ∧ b ≤ 122) by omega)]
theorem nx_r (q b : Int) : nx q b = -1 ∨ nx q b = 0 ∨ nx q b = 1 ∨ nx q b = 2 ∨ nx q b = 3 := by
  unfold nx
  repeat' split
  all_goals omega
theorem du_r (t : Int → Int) : ∀ n : Nat, du t n = -1 ∨ du t n = 0 ∨ du t n = 1 ∨ du t n = 2 ∨ du t n = 3 := by
  intro n
  induction n with
  | zero => exact Or.inr (Or.inl rfl)
  | succ n ih =>
    have := nx_r (du t n) (t n)
    rw [du]
    repeat' split
    all_goals omega
/-- the text, as the class holds it -/
def TX (d σ : St) : Prop := σ 5 4 = d 0 12 ∧ ∀ k, 0 ≤ k → k < d 0 12 → σ 19 k = d 10 k
theorem x_firstFault_e (N : Nat) (hN : 100 < N) {d σ : St} (hT : TX d σ) (hd : DI d) : x_Sounds_firstFault N σ = some (ft d, σ) := by
  have hn := hd.typed
  unfold x_Sounds_firstFault
  refine lq3 (Out := fun z => z = some (ft d, σ)) (Inv := fun q v x s => s = σ ∧ ∃ i m : Nat, x = i ∧ (i : Int) ≤ d 0 12 ∧ q = du (d 10) i ∧ du (d 10) i ≠ -1 ∧ v = m ∧ m < 2 ^ 26 ∧ ∀ c : Nat, c < 26 → (m.testBit c = true ↔ sn (d 10) ((c : Int) + 97) i = true)) (fun _ _ x _ => d 0 12 - x) ?_ ?_ N 0 0 0 σ ⟨rfl, 0, 0, rfl, by omega, rfl, by show (0 : Int) ≠ -1; decide, rfl, by decide, fun c _ => by rw [Nat.zero_testBit]; exact ⟨fun z => Bool.noConfusion z, fun z => Bool.noConfusion z⟩⟩ (by omega)
  · rintro k q v x s ⟨rfl, i, m, rfl, hi, rfl, hdu, rfl, hm, hb⟩
    have hr := du_r (d 10) i
    unfold x_Sounds_firstFault_6 x_Sounds_firstFault_67
    rw [hT.1]
    by_cases c : d 0 12 ≤ i
    · left
      rw [if_pos ((le32_i (by omega) (by omega) (by omega) (by omega)).mpr c)]
      by_cases c2 : du (d 10) i = 3
      · rw [if_pos ((eq32_i (by omega) (by omega) (by omega) (by omega)).mpr c2), ft_ok (p := i) (by omega) c2]
      · rw [if_neg (fun z => c2 ((eq32_i (by omega) (by omega) (by omega) (by omega)).mp z)), ft_end (p := i) (by omega) hdu c2, show d 0 12 = (i : Int) by omega]
    · have ht := hd.txt i (by omega) (by omega)
      have hx := nx_r (du (d 10) i) (d 10 i)
      rw [if_neg (fun z => c ((le32_i (by omega) (by omega) (by omega) (by omega)).mp z)), gd_k (by omega), hT.2 i (by omega) (by omega), x_due_e N s (by omega) (by omega), bd_k]
      by_cases c2 : nx (du (d 10) i) (d 10 i) = -1
      · left
        rw [if_pos ((eq32_i (by omega) (by omega) (by omega) (by omega)).mpr c2), ft_mid (p := i) (by omega) hdu (du_no (Or.inl c2))]
      rw [if_neg (fun z => c2 ((eq32_i (by omega) (by omega) (by omega) (by omega)).mp z)), x_isLetter_e N s (by omega), bd_k]
      simp only [b01_0, itn]
      by_cases c3 : 97 ≤ d 10 i ∧ d 10 i ≤ 122
      · rw [if_pos c3]
        obtain ⟨l, hl⟩ := Int.eq_ofNat_of_zero_le (show 0 ≤ d 10 i - 97 by omega)
        have tt1 := bi_tst (a := m) (n := l) (by omega) (by omega)
        have tr := bi_tstr (a := m) (n := l) (by omega) (by omega)
        have hbl := hb l (by omega)
        rw [show (l : Int) + 97 = d 10 i by omega] at hbl
        rw [hl]
        by_cases c4 : an32 (m : Int) (sl32 1 (l : Int)) = 0
        · right
          have hno : ¬ sn (d 10) (d 10 i) i = true := fun z => by rw [hbl.mpr z] at tt1; exact Bool.noConfusion (tt1.mp c4)
          have e1 := du_go hdu c2 (fun z => hno z.2.2)
          have hm2 : m ||| 2 ^ l < 2 ^ 26 := Nat.or_lt_two_pow hm (Nat.pow_lt_pow_right (by omega) (by omega))
          rw [if_pos ((eq32_i (by omega) (by omega) (by omega) (by omega)).mpr c4), bi_sl l (by omega), bi_or (by omega) (Nat.pow_lt_pow_right (by omega) (by omega))]
          refine ⟨_, _, _, s, rfl, ⟨rfl, i + 1, m ||| 2 ^ l, by omega, by omega, e1.symm, by rw [e1]; exact c2, rfl, hm2, fun c hc => ?_⟩, by omega⟩
          rw [tb_or, hb c hc, sn_s, Bool.or_eq_true, decide_eq_true_iff]
          exact ⟨fun z => z.elim Or.inl (fun e => Or.inr (by omega)), fun z => z.elim Or.inl (fun e => Or.inr (by omega))⟩
        · left
          have hyes : sn (d 10) (d 10 i) i = true := by
            rw [← hbl]
            cases z : m.testBit l
            · exact absurd (tt1.mpr z) c4
            · rfl
          rw [if_neg (fun z => c4 ((eq32_i (by omega) (by omega) (by omega) (by omega)).mp z)), ft_mid (p := i) (by omega) hdu (du_no (Or.inr ⟨c3.1, c3.2, hyes⟩))]
      · right
        have e1 := du_go hdu c2 (fun z => c3 ⟨z.1, z.2.1⟩)
        rw [if_neg c3]
        refine ⟨_, _, _, s, rfl, ⟨rfl, i + 1, m, by omega, by omega, e1.symm, by rw [e1]; exact c2, rfl, hm, fun c hc => ?_⟩, by omega⟩
        rw [hb c hc, sn_s, Bool.or_eq_true, decide_eq_true_iff]
        exact ⟨Or.inl, fun z => z.elim (fun y => y) (fun e => absurd (by omega) c3)⟩
  · rintro q v x s ⟨-, i, m, rfl, hi, -⟩; omega
/-- figures, as the class holds them -/
def FG (d σ : St) : Prop := σ 5 5 = ft d ∧ ∀ c, 0 ≤ c → c < 26 → σ 20 c = if fg d c = 0 then -1 else fg d c
theorem x_read_e (N : Nat) (hN : 100 < N) {d σ : St} (hT : TX d σ) (hd : DI d) : ∃ σ', x_Sounds_read N σ = some (0, σ') ∧ FG d σ' ∧ (∀ k, k ≠ 5 → k ≠ 20 → σ' k = σ k) ∧ ∀ j, j ≠ 5 → σ' 5 j = σ 5 j := by
  have hn := hd.typed
  have hfr := ft_r hd
  unfold x_Sounds_read
  rw [x_firstFault_e N hN hT hd, bd_k, fill_e N 20 26 (-1) _ (by omega) (by omega), bd_k]
  have e55 : (zg (su σ 5 5 (ft d)) 20 0 (26 : Nat) (fun _ => -1)) 5 5 = ft d := by rw [zg_k _ _ _ _ (by decide), su_e]
  have e54 : (zg (su σ 5 5 (ft d)) 20 0 (26 : Nat) (fun _ => -1)) 5 4 = d 0 12 := by rw [zg_k _ _ _ _ (by decide), su_n _ _ _ _ _ (by decide)]; exact hT.1
  have fr1 : ∀ k, k ≠ 5 → k ≠ 20 → (zg (su σ 5 5 (ft d)) 20 0 (26 : Nat) (fun _ => -1)) k = σ k := fun k h5 h20 => by rw [zg_k _ _ _ _ h20, su_k _ _ _ h5]
  have fr2 : ∀ j, j ≠ 5 → (zg (su σ 5 5 (ft d)) 20 0 (26 : Nat) (fun _ => -1)) 5 j = σ 5 j := fun j h5 => by rw [zg_k _ _ _ _ (by decide), su_n _ _ _ _ _ h5]
  have z20 : ∀ c, 0 ≤ c → c < 26 → (zg (su σ 5 5 (ft d)) 20 0 (26 : Nat) (fun _ => -1)) 20 c = -1 := fun c c0 c1 => by rw [zg_r, if_pos ⟨c0, by omega⟩]
  rw [e55, e54]
  by_cases c : ft d = -1
  · rw [if_pos ((eq32_i (by omega) (by omega) (by omega) (by omega)).mpr c)]
    refine lq2 (Out := fun z => ∃ σ', z = some (0, σ') ∧ FG d σ' ∧ (∀ k, k ≠ 5 → k ≠ 20 → σ' k = σ k) ∧ ∀ j, j ≠ 5 → σ' 5 j = σ 5 j) (Inv := fun f x s => (∀ k, k ≠ 5 → k ≠ 20 → s k = σ k) ∧ (∀ j, j ≠ 5 → s 5 j = σ 5 j) ∧ s 5 5 = ft d ∧ ∃ i : Nat, x = (i : Int) - 1 ∧ (i : Int) ≤ d 0 12 ∧ f = fd (d 10) i ((d 0 12).toNat - i) ∧ ∀ c : Int, 0 ≤ c → c < 26 → s 20 c = gF (d 10) c i ((d 0 12).toNat - i)) (fun _ x _ => x + 1) ?_ ?_ N (-1) _ _ ⟨fr1, fr2, e55, (d 0 12).toNat, by omega, by omega, by rw [Nat.sub_self]; rfl, fun c c0 c1 => by rw [z20 c c0 c1, Nat.sub_self]; rfl⟩ (by omega)
    · rintro k f x s ⟨h1, h2, h3, i, rfl, hi, rfl, h4⟩
      unfold x_Sounds_read_34 x_Sounds_read_87
      by_cases c0 : i = 0
      · left
        rw [if_pos ((lt32_i (by omega) (by omega) (by omega) (by omega)).mpr (by omega))]
        refine ⟨s, rfl, ⟨h3, fun c1 a0 a1 => ?_⟩, h1, h2⟩
        have g := gF_r (d 10) c1 (d 0 12).toNat 0
        rw [h4 c1 a0 a1, c0, Nat.sub_zero]
        unfold fg
        rw [if_pos c]
        by_cases e : gF (d 10) c1 0 (d 0 12).toNat = -1
        · rw [if_pos e, if_pos rfl]; exact e
        · rw [if_neg e, if_neg (by omega)]; rfl
      · right
        obtain ⟨j, rfl⟩ : ∃ j, i = j + 1 := ⟨i - 1, by omega⟩
        have ej : ((j + 1 : Nat) : Int) - 1 = (j : Int) := by omega
        have em : (d 0 12).toNat - j = ((d 0 12).toNat - (j + 1)) + 1 := by omega
        have ht := hd.txt j (by omega) (by omega)
        have e19 : s 19 (j : Int) = d 10 j := by rw [h1 19 (by decide) (by decide)]; exact hT.2 j (by omega) (by omega)
        have gj : inb (j : Int) 80 := by omega
        have ec : ((j : Nat) : Int) + 1 = ((j + 1 : Nat) : Int) := by omega
        rw [ej, if_neg (fun z => by rw [lt32_i (by omega) (by omega) (by omega) (by omega)] at z; omega), gd_k gj, e19, x_isFigure_e N s (by omega), bd_k, gd_k gj, gd_k gj, e19, x_isLetter_e N s (by omega), bd_k, gd_k gj, e19]
        simp only [b01_0, itn]
        by_cases c1 : 48 ≤ d 10 j ∧ d 10 j ≤ 57
        · rw [if_pos c1]
          refine ⟨_, _, s, rfl, ⟨h1, h2, h3, j, by omega, by omega, by rw [em, fd, if_pos c1], fun c a0 a1 => ?_⟩, by omega⟩
          rw [h4 c a0 a1, em, gF, if_neg (by omega), ec]
        · rw [if_neg c1]
          by_cases c2 : 97 ≤ d 10 j ∧ d 10 j ≤ 122
          · rw [if_pos c2, gd_k (by omega)]
            refine ⟨_, _, _, rfl, ⟨fun k h5 h20 => by rw [su_k _ _ _ h20]; exact h1 k h5 h20, fun y hy => by rw [su_k _ _ _ (by decide)]; exact h2 y hy, by rw [su_k _ _ _ (by decide)]; exact h3, j, by omega, by omega, by rw [em, fd, if_neg c1, ec], fun c a0 a1 => ?_⟩, by omega⟩
            rw [su_r, em, gF, ec]
            by_cases e : c = d 10 j - 97
            · rw [if_pos e, if_pos (by omega)]
            · rw [if_neg e, if_neg (by omega)]; exact h4 c a0 a1
          · rw [if_neg c2]
            refine ⟨_, _, s, rfl, ⟨h1, h2, h3, j, by omega, by omega, by rw [em, fd, if_neg c1, ec], fun c a0 a1 => ?_⟩, by omega⟩
            rw [h4 c a0 a1, em, gF, if_neg (by omega), ec]
    · rintro f x s ⟨-, -, -, i, rfl, -⟩; omega
  · rw [if_neg (fun z => c ((eq32_i (by omega) (by omega) (by omega) (by omega)).mp z))]
    refine ⟨_, rfl, ⟨e55, fun c1 a0 a1 => ?_⟩, fr1, fr2⟩
    rw [z20 c1 a0 a1]
    unfold fg
    rw [if_neg c, if_pos rfl]
