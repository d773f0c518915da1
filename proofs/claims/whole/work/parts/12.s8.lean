/-! cut -/
theorem x_enter_e (N : Nat) (hN : 100 < N) {d σ : St} {g : Int} (hx : XB d σ) (hd : DI d) (hg : 0 ≤ g ∧ g < 36) (hn : sz (bo d) g (d 0 1) ≤ 12) :
    ∃ σ', x_Cut_enter N g σ = some (0, σ') ∧ RX d σ' ∧ σ' 9 4 = sz (bo d) g (d 0 1) ∧ ME d g (σ' 32) ∧ ∀ i j, 0 ≤ i → i < sz (bo d) g (d 0 1) → 0 ≤ j → j < sz (bo d) g (d 0 1) → rm σ' i j = ad d (σ' 32) i j := by
  have hR := hd.rows
  have hz := sz_r (bo d) g hR.1
  have hBL := hx.2.2.1
  have e69 : ∀ s : St, RX d s → s 9 4 = sz (bo d) g (d 0 1) → ME d g (s 32) → ∃ σ', itr (x_Cut_enter_69 N) (fun _ _ => none) N 0 s = some (0, σ') ∧ RX d σ' ∧ σ' 9 4 = sz (bo d) g (d 0 1) ∧ ME d g (σ' 32) ∧ ∀ i j, 0 ≤ i → i < sz (bo d) g (d 0 1) → 0 ≤ j → j < sz (bo d) g (d 0 1) → rm σ' i j = ad d (σ' 32) i j := by
    intro s h1 h2 h3
    refine lq1 (Out := fun z => ∃ σ', z = some (0, σ') ∧ RX d σ' ∧ σ' 9 4 = sz (bo d) g (d 0 1) ∧ ME d g (σ' 32) ∧ ∀ i j, 0 ≤ i → i < sz (bo d) g (d 0 1) → 0 ≤ j → j < sz (bo d) g (d 0 1) → rm σ' i j = ad d (σ' 32) i j) (Inv := fun i s => RX d s ∧ s 9 4 = sz (bo d) g (d 0 1) ∧ ME d g (s 32) ∧ 0 ≤ i ∧ i ≤ sz (bo d) g (d 0 1) ∧ ∀ x y, 0 ≤ x → x < i → 0 ≤ y → y < sz (bo d) g (d 0 1) → rm s x y = ad d (s 32) x y) (fun i _ => sz (bo d) g (d 0 1) - i) ?_ ?_ N 0 s ⟨h1, h2, h3, by omega, by omega, fun x y _ _ _ _ => by omega⟩ (by omega)
    · rintro k i s ⟨h1, h2, h3, i0, i1, h4⟩
      unfold x_Cut_enter_69
      rw [h2]
      by_cases c : sz (bo d) g (d 0 1) ≤ i
      · left
        rw [if_pos ((le32_i (by omega) (by omega) (by omega) (by omega)).mpr c)]
        exact ⟨s, rfl, h1, h2, h3, fun x y x0 x1 y0 y1 => h4 x y x0 (by omega) y0 y1⟩
      · right
        rw [if_neg (fun z => c ((le32_i (by omega) (by omega) (by omega) (by omega)).mp z))]
        have key : ∃ s', itr (x_Cut_enter_81 N k i) (fun _ _ => none) N 0 s = k (i + 1) s' ∧ RX d s' ∧ s' 9 4 = sz (bo d) g (d 0 1) ∧ ME d g (s' 32) ∧ ∀ x y, 0 ≤ x → x < i + 1 → 0 ≤ y → y < sz (bo d) g (d 0 1) → rm s' x y = ad d (s' 32) x y := by
          refine lq1 (Out := fun z => ∃ s', z = k (i + 1) s' ∧ RX d s' ∧ s' 9 4 = sz (bo d) g (d 0 1) ∧ ME d g (s' 32) ∧ ∀ x y, 0 ≤ x → x < i + 1 → 0 ≤ y → y < sz (bo d) g (d 0 1) → rm s' x y = ad d (s' 32) x y) (Inv := fun j s => RX d s ∧ s 9 4 = sz (bo d) g (d 0 1) ∧ ME d g (s 32) ∧ 0 ≤ j ∧ j ≤ sz (bo d) g (d 0 1) ∧ ∀ x y, 0 ≤ x → (x < i ∨ (x = i ∧ y < j)) → 0 ≤ y → y < sz (bo d) g (d 0 1) → rm s x y = ad d (s 32) x y) (fun j _ => sz (bo d) g (d 0 1) - j) ?_ ?_ N 0 s ⟨h1, h2, h3, by omega, by omega, fun x y x0 x1 y0 y1 => h4 x y x0 (by omega) y0 y1⟩ (by omega)
          · rintro k2 j s ⟨h1, h2, h3, j0, j1, h4⟩
            unfold x_Cut_enter_81 x_Cut_enter_122
            rw [h2]
            by_cases c2 : sz (bo d) g (d 0 1) ≤ j
            · left
              rw [if_pos ((le32_i (by omega) (by omega) (by omega) (by omega)).mpr c2)]
              exact ⟨s, rfl, h1, h2, h3, fun x y x0 x1 y0 y1 => h4 x y x0 (by omega) y0 y1⟩
            · right
              rw [if_neg (fun z => c2 ((le32_i (by omega) (by omega) (by omega) (by omega)).mp z))]
              have mi := ME_i hR.1 h3 i0 (by omega)
              have mj := ME_i hR.1 h3 j0 (by omega)
              have fin : ∀ t, t = ad d (s 32) i j → (t = 0 ∨ t = 1) → ∃ a' σ', x_Cut_enter_123 N k k2 i j t s = k2 a' σ' ∧ (RX d σ' ∧ σ' 9 4 = sz (bo d) g (d 0 1) ∧ ME d g (σ' 32) ∧ 0 ≤ a' ∧ a' ≤ sz (bo d) g (d 0 1) ∧ ∀ x y, 0 ≤ x → (x < i ∨ (x = i ∧ y < a')) → 0 ≤ y → y < sz (bo d) g (d 0 1) → rm σ' x y = ad d (σ' 32) x y) ∧ sz (bo d) g (d 0 1) - a' < sz (bo d) g (d 0 1) - j := by
                intro t ht hb
                have e : x_Cut_enter_123 N k k2 i j t s = k2 (j + 1) (su s 33 (i * 12 + j) t) := by
                  unfold x_Cut_enter_123 x_Cut_enter_147
                  rw [gd_k (by omega), gd_k (by omega)]
                  rcases hb with z | z
                  · rw [if_pos (by rw [z]), z]
                  · rw [if_neg (by rw [z]; decide), z]
                refine ⟨j + 1, su s 33 (i * 12 + j) t, e, ⟨RX_k rfl h1, by rw [su_k _ _ _ (by decide)]; exact h2, by rw [su_k _ _ _ (by decide)]; exact h3, by omega, by omega, fun x y x0 x1 y0 y1 => ?_⟩, by omega⟩
                unfold rm
                rw [su_r, su_k _ _ _ (by decide)]
                by_cases z : x = i ∧ y = j
                · rw [if_pos (by omega), z.1, z.2]; exact ht
                · rw [if_neg (by omega)]; exact h4 x y x0 (by omega) y0 y1
              by_cases c3 : i = j
              · rw [if_pos ((eq32_i (by omega) (by omega) (by omega) (by omega)).mpr c3)]
                exact fin 0 (by unfold ad; rw [if_neg (fun z => z c3)]) (Or.inl rfl)
              · have hl := lk_r d (s 32 i) (s 32 j)
                have ea : ad d (s 32) i j = lk d (s 32 i) (s 32 j) := by unfold ad; rw [if_pos c3]
                rw [if_neg (fun z => c3 ((eq32_i (by omega) (by omega) (by omega) (by omega)).mp z)), gd_k (by omega), gd_k (by omega), x_areLinked_e N hN h1 hd ⟨mi.1, mi.2.1⟩ ⟨mj.1, mj.2.1⟩ (ME_n hR.1 h3 i0 (by omega) j0 (by omega) c3), bd_k]
                by_cases c4 : lk d (s 32 i) (s 32 j) = 0
                · rw [if_pos ((eq32_i (by omega) (by omega) (by omega) (by omega)).mpr c4)]
                  exact fin 0 (by rw [ea, c4]) (Or.inl rfl)
                · rw [if_neg (fun z => c4 ((eq32_i (by omega) (by omega) (by omega) (by omega)).mp z))]
                  exact fin 1 (by rw [ea]; omega) (Or.inr rfl)
          · rintro j s ⟨-, -, -, j0, j1, -⟩; omega
        obtain ⟨s', q1, q2, q3, q4, q5⟩ := key
        exact ⟨i + 1, s', q1, ⟨q2, q3, q4, by omega, by omega, q5⟩, by omega⟩
    · rintro i s ⟨-, -, -, i0, i1, -⟩; omega
  unfold x_Cut_enter
  refine lq1 (Out := fun z => ∃ σ', z = some (0, σ') ∧ RX d σ' ∧ σ' 9 4 = sz (bo d) g (d 0 1) ∧ ME d g (σ' 32) ∧ ∀ i j, 0 ≤ i → i < sz (bo d) g (d 0 1) → 0 ≤ j → j < sz (bo d) g (d 0 1) → rm σ' i j = ad d (σ' 32) i j) (Inv := fun r s => RX d s ∧ (∀ x, 0 ≤ x → x < d 0 1 → s 31 x = bo d x) ∧ 0 ≤ r ∧ r ≤ d 0 1 ∧ s 9 4 = sz (bo d) g r ∧ ∀ x, 0 ≤ x → x < r → bo d x = g → s 32 (sz (bo d) g x) = x) (fun r _ => d 0 1 - r) ?_ ?_ N 0 _ ⟨RX_k rfl hx.1, fun x x0 x1 => by rw [su_k _ _ _ (by decide)]; exact hx.2.2.2 x x0 x1, by omega, by omega, by rw [su_e]; rfl, fun x _ _ _ => by omega⟩ (by omega)
  · rintro k r s ⟨h1, h2, r0, r1, h3, h4⟩
    unfold x_Cut_enter_8 x_Cut_enter_60 x_Bundles_numberOf
    rw [h1.rows]
    by_cases c : d 0 1 ≤ r
    · left
      rw [if_pos ((le32_i (by omega) (by omega) (by omega) (by omega)).mpr c)]
      exact e69 s h1 (by rw [h3, show r = d 0 1 by omega]) (fun x x0 x1 xb => h4 x x0 (by omega) xb)
    · right
      have hbr := bo_r hBL r0 (show r < d 0 1 by omega)
      have hmo := sz_mo (bo d) g r0 r1
      have h0 := sz_r (bo d) g r0
      rw [if_neg (fun z => c ((le32_i (by omega) (by omega) (by omega) (by omega)).mp z)), gd_k (by omega), bd_k, h2 r r0 (by omega), h3]
      by_cases c2 : bo d r = g
      · have hlt := sz_lt (f := bo d) (b := g) r0 (show r < d 0 1 by omega) c2
        rw [if_pos ((eq32_i (by omega) (by omega) (by omega) (by omega)).mpr c2), if_neg (fun z => by rw [le32_i (by omega) (by omega) (by omega) (by omega)] at z; omega), gd_k (by omega), su_k _ _ _ (show 9 ≠ 32 by decide), h3]
        refine ⟨r + 1, su (su s 32 (sz (bo d) g r) r) 9 4 (sz (bo d) g r + 1), rfl, ⟨RX_k rfl (RX_k rfl h1), fun x x0 x1 => by rw [su_k _ _ _ (by decide), su_k _ _ _ (by decide)]; exact h2 x x0 x1, by omega, by omega, by rw [su_e, sz_s _ _ r0, b01_t c2], fun x x0 x1 xb => ?_⟩, by omega⟩
        rw [su_k _ _ _ (by decide), su_r]
        by_cases e : x = r
        · rw [if_pos (by rw [e]), e]
        · have := sz_lt (f := bo d) (b := g) x0 (show x < r by omega) xb
          rw [if_neg (by omega)]; exact h4 x x0 (by omega) xb
      · rw [if_neg (fun z => c2 ((eq32_i (by omega) (by omega) (by omega) (by omega)).mp z))]
        refine ⟨r + 1, s, rfl, ⟨h1, h2, by omega, by omega, by rw [h3, sz_s _ _ r0, b01_f c2, Int.add_zero], fun x x0 x1 xb => ?_⟩, by omega⟩
        by_cases e : x = r
        · rw [e] at xb; exact absurd xb c2
        · exact h4 x x0 (by omega) xb
  · rintro r s ⟨-, -, r0, r1, -⟩; omega
theorem x_placeOf_e (N : Nat) (hN : 100 < N) {d σ : St} {g a : Int} (hd : DI d) (h9 : σ 9 4 = sz (bo d) g (d 0 1)) (hn : sz (bo d) g (d 0 1) ≤ 12) (hm : ME d g (σ 32)) (ha : 0 ≤ a ∧ a < d 0 1) (hb : bo d a = g) : x_Cut_placeOf N a σ = some (sz (bo d) g a, σ) := by
  have hR := hd.rows
  have hlt := sz_lt (f := bo d) (b := g) ha.1 ha.2 hb
  have h0 := sz_r (bo d) g ha.1
  unfold x_Cut_placeOf
  refine lq1 (Out := fun z => z = some (sz (bo d) g a, σ)) (Inv := fun i s => s = σ ∧ 0 ≤ i ∧ i ≤ sz (bo d) g a) (fun i _ => sz (bo d) g a - i) ?_ ?_ N 0 σ ⟨rfl, by omega, by omega⟩ (by omega)
  · rintro k i s ⟨rfl, i0, i1⟩
    have mi := ME_i hR.1 hm i0 (by omega)
    unfold x_Cut_placeOf_2
    rw [h9, if_neg (fun z => by rw [le32_i (by omega) (by omega) (by omega) (by omega)] at z; omega), gd_k (by omega)]
    by_cases c : s 32 i = a
    · left
      rw [if_pos ((eq32_i (by omega) (by omega) (by omega) (by omega)).mpr c), ← c, mi.2.2.2]
    · right
      rw [if_neg (fun z => c ((eq32_i (by omega) (by omega) (by omega) (by omega)).mp z))]
      refine ⟨i + 1, s, rfl, ⟨rfl, by omega, ?_⟩, by omega⟩
      by_cases e : i = sz (bo d) g a
      · exact absurd (by rw [e]; exact hm a ha.1 ha.2 hb) c
      · omega
  · rintro i s ⟨-, i0, i1⟩; omega
theorem bit_i {a : Nat} {i : Int} (ha : a < 2 ^ 31) (i0 : 0 ≤ i) (i1 : i < 32) : an32 (sr32 (a : Int) i) 1 = if a.testBit i.toNat = true then 1 else 0 := by
  have := bi_bit (n := i.toNat) ha (by omega)
  rw [show ((i.toNat : Nat) : Int) = i by omega] at this
  exact this
theorem m_crossing_e (N : Nat) (hN : 100 < N) {d σ0 σ : St} {g : Int} {q : Nat} {n : Int} (hL : LO d σ0 σ) (hd : DI d) (hn : n = sz (bo d) g (d 0 1)) (hn2 : n ≤ 12) (hq : q < 4096) (hm : ME d g (σ 24)) : m_crossing N (q : Int) n σ = some (ot (ad d (σ 24)) n (fun i => q.testBit i.toNat), σ) := by
  have hR := hd.rows
  have hz := sz_r (bo d) g hR.1
  have inr : ∀ i m, 0 ≤ m → 0 ≤ S (fun j => if q.testBit i.toNat = true ∧ q.testBit j.toNat = false then ad d (σ 24) i j else 0) m ∧ S (fun j => if q.testBit i.toNat = true ∧ q.testBit j.toNat = false then ad d (σ 24) i j else 0) m ≤ m := by
    intro i m hm
    have t : ∀ j, 0 ≤ (if q.testBit i.toNat = true ∧ q.testBit j.toNat = false then ad d (σ 24) i j else 0) ∧ (if q.testBit i.toNat = true ∧ q.testBit j.toNat = false then ad d (σ 24) i j else 0) ≤ 1 := fun j => by
      have := lk_r d (σ 24 i) (σ 24 j)
      unfold ad
      repeat' split
      all_goals omega
    have h1 := S_ge (f := fun j => if q.testBit i.toNat = true ∧ q.testBit j.toNat = false then ad d (σ 24) i j else 0) (n := m) (lo := 0) (fun j _ _ => (t j).1) hm
    have h2 := S_le (f := fun j => if q.testBit i.toNat = true ∧ q.testBit j.toNat = false then ad d (σ 24) i j else 0) (n := m) (hi := 1) (fun j _ _ => (t j).2) hm
    omega
  unfold m_crossing
  refine lq2 (Out := fun z => z = some (ot (ad d (σ 24)) n (fun i => q.testBit i.toNat), σ)) (Inv := fun v i s => s = σ ∧ 0 ≤ i ∧ i ≤ n ∧ v = S (fun i => S (fun j => if q.testBit i.toNat = true ∧ q.testBit j.toNat = false then ad d (σ 24) i j else 0) n) i) (fun _ i _ => n - i) ?_ ?_ N 0 0 σ ⟨rfl, by omega, by omega, rfl⟩ (by omega)
  · rintro k v i s ⟨rfl, i0, i1, rfl⟩
    unfold m_crossing_5
    by_cases c : n ≤ i
    · left
      rw [if_pos ((le32_i (by omega) (by omega) (by omega) (by omega)).mpr c), show i = n by omega]; rfl
    · right
      rw [if_neg (fun z => c ((le32_i (by omega) (by omega) (by omega) (by omega)).mp z))]
      refine ⟨_, i + 1, s, ?_, ⟨rfl, by omega, by omega, rfl⟩, by omega⟩
      rw [S_s _ i0]
      refine lq2 (Out := fun z => z = k (S (fun i => S (fun j => if q.testBit i.toNat = true ∧ q.testBit j.toNat = false then ad d (s 24) i j else 0) n) i + S (fun j => if q.testBit i.toNat = true ∧ q.testBit j.toNat = false then ad d (s 24) i j else 0) n) (i + 1) s) (Inv := fun v j s' => s' = s ∧ 0 ≤ j ∧ j ≤ n ∧ v = S (fun i => S (fun j => if q.testBit i.toNat = true ∧ q.testBit j.toNat = false then ad d (s 24) i j else 0) n) i + S (fun j => if q.testBit i.toNat = true ∧ q.testBit j.toNat = false then ad d (s 24) i j else 0) j) (fun _ j _ => n - j) ?_ ?_ N _ 0 s ⟨rfl, by omega, by omega, by rw [S_0, Int.add_zero]⟩ (by omega)
      · rintro k2 v j s' ⟨rfl, j0, j1, rfl⟩
        unfold m_crossing_14 m_crossing_70 m_crossing_71
        by_cases c2 : n ≤ j
        · left
          rw [if_pos ((le32_i (by omega) (by omega) (by omega) (by omega)).mpr c2), show j = n by omega]
        · right
          have mi := ME_i hR.1 hm i0 (by omega)
          have mj := ME_i hR.1 hm j0 (by omega)
          have hl := lk_r d (s' 24 i) (s' 24 j)
          refine ⟨_, j + 1, s', ?_, ⟨rfl, by omega, by omega, rfl⟩, by omega⟩
          rw [if_neg (fun z => c2 ((le32_i (by omega) (by omega) (by omega) (by omega)).mp z)), bit_i (by omega) i0 (by omega), bit_i (by omega) j0 (by omega), S_s _ j0]
          by_cases c3 : q.testBit i.toNat = true
          · rw [if_pos c3, if_pos (show eq32 1 1 from rfl)]
            by_cases c4 : q.testBit j.toNat = true
            · rw [if_pos c4, if_neg (show ¬ eq32 1 0 by decide), if_neg (fun z => by rw [c4] at z; exact Bool.noConfusion z.2), Int.add_zero]; rw [Int.add_zero]
            · have hij : i ≠ j := fun e => c4 (by rw [← e]; exact c3)
              have c5 : q.testBit j.toNat = false := Bool.eq_false_iff.mpr c4
              rw [if_neg c4, if_pos (show eq32 0 0 from rfl), if_pos (show q.testBit i.toNat = true ∧ q.testBit j.toNat = false from ⟨c3, c5⟩), gd_k (by omega), gd_k (by omega), gd_k (by omega), hL.2.2.1 _ _ mi.1 mi.2.1 mj.1 mj.2.1 (ME_n hR.1 hm i0 (by omega) j0 (by omega) hij), show ad d (s' 24) i j = lk d (s' 24 i) (s' 24 j) by unfold ad; rw [if_pos hij]]
              by_cases c6 : lk d (s' 24 i) (s' 24 j) = 0
              · rw [if_pos ((eq32_i (by omega) (by omega) (by omega) (by omega)).mpr c6), c6, Int.add_assoc]
              · rw [if_neg (fun z => c6 ((eq32_i (by omega) (by omega) (by omega) (by omega)).mp z)), show lk d (s' 24 i) (s' 24 j) = 1 by omega, Int.add_assoc]
          · rw [if_neg c3, if_neg (show ¬ eq32 0 1 by decide), if_neg (fun z => c3 z.1), Int.add_zero]; rw [Int.add_zero]
      · rintro v j s' ⟨-, j0, j1, -⟩; omega
  · rintro v i s ⟨-, i0, i1, -⟩; omega
