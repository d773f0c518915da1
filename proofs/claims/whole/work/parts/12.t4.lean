/-! the ROWS of a REGISTER, in their order -/
def kr (d : St) (i : Int) : Int := if kn d i = 1 then d 1 i else -1
theorem kr_r {d : St} (hd : DI d) {i : Int} (h0 : 0 ≤ i) (h1 : i < d 0 1) : -1 ≤ kr d i ∧ kr d i ≤ 2 := by
  have := hd.row i h0 h1
  unfold kr
  split <;> omega
theorem kr_i {d : St} {i r : Int} (hr : 0 ≤ r) : kr d i = r ↔ kn d i = 1 ∧ d 1 i = r := by
  unfold kr
  by_cases c : kn d i = 1
  · rw [if_pos c]; exact ⟨fun h => ⟨c, h⟩, fun h => h.2⟩
  · rw [if_neg c]; exact ⟨fun h => by omega, fun h => absurd h.1 c⟩
theorem kc_sz {d : St} (hd : DI d) {r : Int} (hr : 0 ≤ r) : kc d r = sz (kr d) r (d 0 1) :=
  S_c (fun _ _ _ => b01_c (kr_i hr).symm) hd.rows.1
/-- f lists the places below n where F is g -/
def ML (n : Int) (F : Int → Int) (g : Int) (f : Int → Int) : Prop := ∀ r, 0 ≤ r → r < n → F r = g → f (sz F g r) = r
theorem ML_i {n : Int} {F : Int → Int} {g : Int} {f : Int → Int} (hn : 0 ≤ n) (h : ML n F g f) {i : Int} (i0 : 0 ≤ i) (i1 : i < sz F g n) : 0 ≤ f i ∧ f i < n ∧ F (f i) = g ∧ sz F g (f i) = i := by
  obtain ⟨r, r0, r1, r2, r3⟩ := sz_ex F g hn i i0 i1
  have := h r r0 r1 r2
  rw [r3] at this
  rw [this]
  exact ⟨r0, r1, r2, r3⟩
theorem ML_u {n : Int} {F : Int → Int} {g : Int} {f f' : Int → Int} (hn : 0 ≤ n) (h : ML n F g f) (h' : ML n F g f') {i : Int} (i0 : 0 ≤ i) (i1 : i < sz F g n) : f i = f' i := by
  obtain ⟨r, r0, r1, r2, r3⟩ := sz_ex F g hn i i0 i1
  have a := h r r0 r1 r2
  have b := h' r r0 r1 r2
  rw [r3] at a b
  rw [a, b]
theorem x_list27_e (N : Nat) (hN : 100 < N) {d σ : St} (hx : RX d σ) (hd : DI d) {a : Int} (ha : 0 ≤ a ∧ a < 3) : ∃ σ', x_Laying_list_27 N a σ = some (sz (kr d) a (d 0 1), σ') ∧ RX d σ' ∧ (∀ k, k ≠ 27 → σ' k = σ k) ∧ ∀ r, 0 ≤ r → r < d 0 1 → kr d r = a → sz (kr d) a r < 10 → σ' 27 (sz (kr d) a r) = r := by
  have hR := hd.rows
  unfold x_Laying_list_27
  refine lq2 (Out := fun z => ∃ σ', z = some (sz (kr d) a (d 0 1), σ') ∧ RX d σ' ∧ (∀ k, k ≠ 27 → σ' k = σ k) ∧ ∀ r, 0 ≤ r → r < d 0 1 → kr d r = a → sz (kr d) a r < 10 → σ' 27 (sz (kr d) a r) = r) (Inv := fun v i s => RX d s ∧ (∀ k, k ≠ 27 → s k = σ k) ∧ 0 ≤ i ∧ i ≤ d 0 1 ∧ v = sz (kr d) a i ∧ ∀ r, 0 ≤ r → r < i → kr d r = a → sz (kr d) a r < 10 → s 27 (sz (kr d) a r) = r) (fun _ i _ => d 0 1 - i) ?_ ?_ N 0 0 σ ⟨hx, fun _ _ => rfl, by omega, by omega, rfl, fun r _ _ => by omega⟩ (by omega)
  · rintro k v i s ⟨h1, h2, i0, i1, rfl, h3⟩
    unfold x_Laying_list_27_5 x_Laying_list_27_45 x_Laying_list_27_48
    rw [h1.rows]
    by_cases c : d 0 1 ≤ i
    · left
      rw [if_pos ((le32_i (by omega) (by omega) (by omega) (by omega)).mpr c), show i = d 0 1 by omega]
      exact ⟨s, rfl, h1, h2, fun r r0 r1 => h3 r r0 (by omega)⟩
    · right
      have hk := kn_r d i
      have hr := hd.row i i0 (by omega)
      have hz := sz_r (kr d) a i0
      rw [if_neg (fun z => c ((le32_i (by omega) (by omega) (by omega) (by omega)).mp z)), x_Rows_isKnown_e N h1 hd i0 (by omega), bd_k]
      have skip : kr d i ≠ a → ∃ a' b' σ', k (sz (kr d) a i) (i + 1) s = k a' b' σ' ∧ (RX d σ' ∧ (∀ k, k ≠ 27 → σ' k = σ k) ∧ 0 ≤ b' ∧ b' ≤ d 0 1 ∧ a' = sz (kr d) a b' ∧ ∀ r, 0 ≤ r → r < b' → kr d r = a → sz (kr d) a r < 10 → σ' 27 (sz (kr d) a r) = r) ∧ d 0 1 - b' < d 0 1 - i := fun hne => ⟨_, _, s, rfl, ⟨h1, h2, by omega, by omega, by rw [sz_s _ _ i0, b01_f hne, Int.add_zero], fun r r0 r1 hra hlt => by
        by_cases e : r = i
        · rw [e] at hra; exact absurd hra hne
        · exact h3 r r0 (by omega) hra hlt⟩, by omega⟩
      by_cases c1 : kn d i = 0
      · rw [if_pos ((eq32_i (by omega) (by omega) (by omega) (by omega)).mpr c1)]
        exact skip (fun z => by have := (kr_i ha.1).mp z; omega)
      rw [if_neg (fun z => c1 ((eq32_i (by omega) (by omega) (by omega) (by omega)).mp z)), xf_0 N h1 hd i0 (by omega), bd_k]
      by_cases c2 : d 1 i = a
      · have hra : kr d i = a := (kr_i ha.1).mpr ⟨by omega, c2⟩
        rw [if_pos ((eq32_i (by omega) (by omega) (by omega) (by omega)).mpr c2)]
        by_cases c3 : 10 ≤ sz (kr d) a i
        · rw [if_pos ((le32_i (by omega) (by omega) (by omega) (by omega)).mpr c3)]
          refine ⟨_, _, s, rfl, ⟨h1, h2, by omega, by omega, by rw [sz_s _ _ i0, b01_t hra], fun r r0 r1 hra2 hlt => ?_⟩, by omega⟩
          by_cases e : r = i
          · rw [e] at hlt; omega
          · exact h3 r r0 (by omega) hra2 hlt
        · rw [if_neg (fun z => c3 ((le32_i (by omega) (by omega) (by omega) (by omega)).mp z)), gd_k (by omega)]
          refine ⟨_, _, su s 27 (sz (kr d) a i) i, rfl, ⟨RX_k rfl h1, fun k hk => by rw [su_k _ _ _ hk]; exact h2 k hk, by omega, by omega, by rw [sz_s _ _ i0, b01_t hra], fun r r0 r1 hra2 hlt => ?_⟩, by omega⟩
          rw [su_r]
          by_cases e : r = i
          · rw [if_pos (by rw [e]), e]
          · have := sz_lt (f := kr d) (b := a) r0 (show r < i by omega) hra2
            rw [if_neg (by omega)]; exact h3 r r0 (by omega) hra2 hlt
      · rw [if_neg (fun z => c2 ((eq32_i (by omega) (by omega) (by omega) (by omega)).mp z))]
        exact skip (fun z => c2 ((kr_i ha.1).mp z).2)
  · rintro v i s ⟨-, -, i0, i1, -⟩; omega
theorem x_list28_e (N : Nat) (hN : 100 < N) {d σ : St} (hx : RX d σ) (hd : DI d) {a : Int} (ha : 0 ≤ a ∧ a < 3) : ∃ σ', x_Laying_list_28 N a σ = some (sz (kr d) a (d 0 1), σ') ∧ RX d σ' ∧ (∀ k, k ≠ 28 → σ' k = σ k) ∧ ∀ r, 0 ≤ r → r < d 0 1 → kr d r = a → sz (kr d) a r < 10 → σ' 28 (sz (kr d) a r) = r := by
  have hR := hd.rows
  unfold x_Laying_list_28
  refine lq2 (Out := fun z => ∃ σ', z = some (sz (kr d) a (d 0 1), σ') ∧ RX d σ' ∧ (∀ k, k ≠ 28 → σ' k = σ k) ∧ ∀ r, 0 ≤ r → r < d 0 1 → kr d r = a → sz (kr d) a r < 10 → σ' 28 (sz (kr d) a r) = r) (Inv := fun v i s => RX d s ∧ (∀ k, k ≠ 28 → s k = σ k) ∧ 0 ≤ i ∧ i ≤ d 0 1 ∧ v = sz (kr d) a i ∧ ∀ r, 0 ≤ r → r < i → kr d r = a → sz (kr d) a r < 10 → s 28 (sz (kr d) a r) = r) (fun _ i _ => d 0 1 - i) ?_ ?_ N 0 0 σ ⟨hx, fun _ _ => rfl, by omega, by omega, rfl, fun r _ _ => by omega⟩ (by omega)
  · rintro k v i s ⟨h1, h2, i0, i1, rfl, h3⟩
    unfold x_Laying_list_28_5 x_Laying_list_28_45 x_Laying_list_28_48
    rw [h1.rows]
    by_cases c : d 0 1 ≤ i
    · left
      rw [if_pos ((le32_i (by omega) (by omega) (by omega) (by omega)).mpr c), show i = d 0 1 by omega]
      exact ⟨s, rfl, h1, h2, fun r r0 r1 => h3 r r0 (by omega)⟩
    · right
      have hk := kn_r d i
      have hr := hd.row i i0 (by omega)
      have hz := sz_r (kr d) a i0
      rw [if_neg (fun z => c ((le32_i (by omega) (by omega) (by omega) (by omega)).mp z)), x_Rows_isKnown_e N h1 hd i0 (by omega), bd_k]
      have skip : kr d i ≠ a → ∃ a' b' σ', k (sz (kr d) a i) (i + 1) s = k a' b' σ' ∧ (RX d σ' ∧ (∀ k, k ≠ 28 → σ' k = σ k) ∧ 0 ≤ b' ∧ b' ≤ d 0 1 ∧ a' = sz (kr d) a b' ∧ ∀ r, 0 ≤ r → r < b' → kr d r = a → sz (kr d) a r < 10 → σ' 28 (sz (kr d) a r) = r) ∧ d 0 1 - b' < d 0 1 - i := fun hne => ⟨_, _, s, rfl, ⟨h1, h2, by omega, by omega, by rw [sz_s _ _ i0, b01_f hne, Int.add_zero], fun r r0 r1 hra hlt => by
        by_cases e : r = i
        · rw [e] at hra; exact absurd hra hne
        · exact h3 r r0 (by omega) hra hlt⟩, by omega⟩
      by_cases c1 : kn d i = 0
      · rw [if_pos ((eq32_i (by omega) (by omega) (by omega) (by omega)).mpr c1)]
        exact skip (fun z => by have := (kr_i ha.1).mp z; omega)
      rw [if_neg (fun z => c1 ((eq32_i (by omega) (by omega) (by omega) (by omega)).mp z)), xf_0 N h1 hd i0 (by omega), bd_k]
      by_cases c2 : d 1 i = a
      · have hra : kr d i = a := (kr_i ha.1).mpr ⟨by omega, c2⟩
        rw [if_pos ((eq32_i (by omega) (by omega) (by omega) (by omega)).mpr c2)]
        by_cases c3 : 10 ≤ sz (kr d) a i
        · rw [if_pos ((le32_i (by omega) (by omega) (by omega) (by omega)).mpr c3)]
          refine ⟨_, _, s, rfl, ⟨h1, h2, by omega, by omega, by rw [sz_s _ _ i0, b01_t hra], fun r r0 r1 hra2 hlt => ?_⟩, by omega⟩
          by_cases e : r = i
          · rw [e] at hlt; omega
          · exact h3 r r0 (by omega) hra2 hlt
        · rw [if_neg (fun z => c3 ((le32_i (by omega) (by omega) (by omega) (by omega)).mp z)), gd_k (by omega)]
          refine ⟨_, _, su s 28 (sz (kr d) a i) i, rfl, ⟨RX_k rfl h1, fun k hk => by rw [su_k _ _ _ hk]; exact h2 k hk, by omega, by omega, by rw [sz_s _ _ i0, b01_t hra], fun r r0 r1 hra2 hlt => ?_⟩, by omega⟩
          rw [su_r]
          by_cases e : r = i
          · rw [if_pos (by rw [e]), e]
          · have := sz_lt (f := kr d) (b := a) r0 (show r < i by omega) hra2
            rw [if_neg (by omega)]; exact h3 r r0 (by omega) hra2 hlt
      · rw [if_neg (fun z => c2 ((eq32_i (by omega) (by omega) (by omega) (by omega)).mp z))]
        exact skip (fun z => c2 ((kr_i ha.1).mp z).2)
  · rintro v i s ⟨-, -, i0, i1, -⟩; omega
/-- the gain of laying one to the other; of the i-th to the j-th of two lists -/
def gn (d : St) (x y : Int) : Int := if lk d x y = 1 then min 801 (max 0 (sc d x y - d 0 24 + 1)) else 0
def wf (d : St) (f g : Int → Int) (i j : Nat) : Int := gn d (f i) (g j)
theorem gn_r (d : St) (x y : Int) : 0 ≤ gn d x y ∧ gn d x y ≤ 801 := by unfold gn; split <;> omega
theorem gn_k {d : St} (hd : DI d) {x y : Int} (hx : 0 ≤ x ∧ x < d 0 1) (hy : 0 ≤ y ∧ y < d 0 1) (kx : kn d x = 1) (ky : kn d y = 1) : gn d x y = if 1 ≤ sc d x y - d 0 24 + 1 then sc d x y - d 0 24 + 1 else 0 := by
  have h1 := sc_r1 hd hx hy
  have h2 := hd.line
  unfold gn lk
  by_cases c : d 0 24 ≤ sc d x y
  · rw [b01_t ⟨⟨kx, ky⟩, c⟩, if_pos rfl, if_pos (by omega)]; omega
  · rw [b01_f (fun z => c z.2), if_neg (by omega), if_neg (by omega)]
/-- what the class has of two lists: f to be laid to g -/
def LX (d : St) (a b : Int) (σ : St) : Prop := RX d σ ∧ σ 7 4 = sz (kr d) a (d 0 1) ∧ σ 7 5 = sz (kr d) b (d 0 1) ∧ ML (d 0 1) (kr d) a (σ 27) ∧ ML (d 0 1) (kr d) b (σ 28)
theorem LX_k {d : St} {a b : Int} {σ : St} {k : Nat} {i v : Int} (hk : xk k = false) (h7 : k ≠ 7) (h27 : k ≠ 27) (h28 : k ≠ 28) (h : LX d a b σ) : LX d a b (su σ k i v) :=
  ⟨RX_k hk h.1, by rw [su_k _ _ _ (Ne.symm h7)]; exact h.2.1, by rw [su_k _ _ _ (Ne.symm h7)]; exact h.2.2.1, by rw [su_k _ _ _ (Ne.symm h27)]; exact h.2.2.2.1, by rw [su_k _ _ _ (Ne.symm h28)]; exact h.2.2.2.2⟩
theorem x_weigh_e (N : Nat) (hN : 100 < N) {d σ : St} {a b : Int} (hx : LX d a b σ) (hd : DI d) (ha : 0 ≤ a ∧ a < 3) (hb : 0 ≤ b ∧ b < 3) (hab : a ≠ b) (hp : sz (kr d) a (d 0 1) ≤ 10) (hq : sz (kr d) b (d 0 1) ≤ 10) {i : Nat} (hi : (i : Int) < sz (kr d) a (d 0 1)) :
    ∃ t σ', x_Laying_weigh N (σ 27 i) (Lb (i + 1)) σ = some (t, σ') ∧ LX d a b σ' ∧ (∀ k, k ≠ 29 → σ' k = σ k) ∧ (t = 0 ∨ t = 1) ∧ (t = 0 → ∀ j : Nat, (j : Int) < sz (kr d) b (d 0 1) → ¬ 0 < wf d (σ 27) (σ 28) i j) ∧ ∀ j : Nat, (j : Int) < sz (kr d) b (d 0 1) → σ' 29 j = if 0 < wf d (σ 27) (σ 28) i j then tt (sz (kr d) b (d 0 1)).toNat (wf d (σ 27) (σ 28)) i j else 0 := by
  have hR := hd.rows
  have hz := sz_r (kr d) b hR.1
  have mi := ML_i hR.1 hx.2.2.2.1 (i := i) (by omega) hi
  have ki := (kr_i ha.1).mp mi.2.2.1
  have hli := hd.line
  unfold x_Laying_weigh
  refine lq2 (Out := fun z => ∃ t σ', z = some (t, σ') ∧ LX d a b σ' ∧ (∀ k, k ≠ 29 → σ' k = σ k) ∧ (t = 0 ∨ t = 1) ∧ (t = 0 → ∀ j : Nat, (j : Int) < sz (kr d) b (d 0 1) → ¬ 0 < wf d (σ 27) (σ 28) i j) ∧ ∀ j : Nat, (j : Int) < sz (kr d) b (d 0 1) → σ' 29 j = if 0 < wf d (σ 27) (σ 28) i j then tt (sz (kr d) b (d 0 1)).toNat (wf d (σ 27) (σ 28)) i j else 0) (Inv := fun t x s => LX d a b s ∧ (∀ k, k ≠ 29 → s k = σ k) ∧ (t = 0 ∨ t = 1) ∧ ∃ n : Nat, x = n ∧ (n : Int) ≤ sz (kr d) b (d 0 1) ∧ (t = 0 → ∀ j : Nat, j < n → ¬ 0 < wf d (σ 27) (σ 28) i j) ∧ ∀ j : Nat, j < n → s 29 j = if 0 < wf d (σ 27) (σ 28) i j then tt (sz (kr d) b (d 0 1)).toNat (wf d (σ 27) (σ 28)) i j else 0) (fun _ x _ => sz (kr d) b (d 0 1) - x) ?_ ?_ N 0 0 σ ⟨hx, fun _ _ => rfl, Or.inl rfl, 0, rfl, by omega, fun _ j h => by omega, fun j h => by omega⟩ (by omega)
  · rintro k t x s ⟨h1, h2, ht, n, rfl, hn, h3, h4⟩
    unfold x_Laying_weigh_6
    rw [h1.2.2.1]
    by_cases c : sz (kr d) b (d 0 1) ≤ n
    · left
      rw [if_pos ((le32_i (by omega) (by omega) (by omega) (by omega)).mpr c), gd_k ht]
      exact ⟨t, s, rfl, h1, h2, ht, fun z j hj => h3 z j (by omega), fun j hj => h4 j (by omega)⟩
    · right
      have e28 : s 28 = σ 28 := h2 28 (by decide)
      have mj := ML_i hR.1 hx.2.2.2.2 (i := n) (by omega) (by omega)
      have kj := (kr_i hb.1).mp mj.2.2.1
      have hne : σ 27 i ≠ σ 28 n := fun e => by rw [e] at ki; exact hab (by rw [← ki.2, ← kj.2])
      have hsc := sc_r1 hd ⟨mi.1, mi.2.1⟩ ⟨mj.1, mj.2.1⟩
      have gk := gn_k hd ⟨mi.1, mi.2.1⟩ ⟨mj.1, mj.2.1⟩ ki.1 kj.1
      have ew : wf d (σ 27) (σ 28) i n = gn d (σ 27 i) (σ 28 n) := rfl
      rw [if_neg (fun z => c ((le32_i (by omega) (by omega) (by omega) (by omega)).mp z)), gd_k (by omega), e28, x_scoreOf_e N hN h1.1 hd ⟨mi.1, mi.2.1⟩ ⟨mj.1, mj.2.1⟩ hne, bd_k, h1.1.line, s32_i (by omega) (by omega)]
      have fin : ∀ (o v : Int), (o = 0 ∨ o = 1) → (o = 0 → ¬ 0 < wf d (σ 27) (σ 28) i n) → v = (if 0 < wf d (σ 27) (σ 28) i n then tt (sz (kr d) b (d 0 1)).toNat (wf d (σ 27) (σ 28)) i n else 0) → ∃ a' b' σ', x_Laying_weigh_86 N k (σ 27 i) (Lb (i + 1)) t n o v n s = k a' b' σ' ∧ (LX d a b σ' ∧ (∀ k, k ≠ 29 → σ' k = σ k) ∧ (a' = 0 ∨ a' = 1) ∧ ∃ m : Nat, b' = m ∧ (m : Int) ≤ sz (kr d) b (d 0 1) ∧ (a' = 0 → ∀ j : Nat, j < m → ¬ 0 < wf d (σ 27) (σ 28) i j) ∧ ∀ j : Nat, j < m → σ' 29 j = if 0 < wf d (σ 27) (σ 28) i j then tt (sz (kr d) b (d 0 1)).toNat (wf d (σ 27) (σ 28)) i j else 0) ∧ sz (kr d) b (d 0 1) - b' < sz (kr d) b (d 0 1) - (n : Int) := by
        intro o v ho ho0 hv
        have eo : (or32 t o = 0 ∨ or32 t o = 1) ∧ (or32 t o = 0 → t = 0 ∧ o = 0) := by
          rcases ht with z | z <;> rcases ho with y | y <;> rw [z, y]
          · exact ⟨Or.inl (by decide), fun _ => ⟨rfl, rfl⟩⟩
          · exact ⟨Or.inr (by decide), fun w => by rw [show or32 0 1 = 1 by decide] at w; omega⟩
          · exact ⟨Or.inr (by decide), fun w => by rw [show or32 1 0 = 1 by decide] at w; omega⟩
          · exact ⟨Or.inr (by decide), fun w => by rw [show or32 1 1 = 1 by decide] at w; omega⟩
        unfold x_Laying_weigh_86
        rw [gd_k (by omega)]
        refine ⟨_, _, _, rfl, ⟨LX_k rfl (by decide) (by decide) (by decide) h1, fun k hk => by rw [su_k _ _ _ hk]; exact h2 k hk, eo.1, n + 1, by omega, by omega, fun z j hj => ?_, fun j hj => ?_⟩, by omega⟩
        · by_cases e : j = n
          · rw [e]; exact ho0 (eo.2 z).2
          · exact h3 (eo.2 z).1 j (by omega)
        · rw [su_r]
          by_cases e : j = n
          · rw [if_pos (by omega), e]; exact hv
          · rw [if_neg (by omega)]; exact h4 j (by omega)
      unfold x_Laying_weigh_52
      rw [h1.2.2.1, s32_i (by omega) (by omega)]
      by_cases c2 : sc d (σ 27 i) (σ 28 n) - d 0 24 + 1 < 1
      · rw [if_pos ((lt64_i (by omega) (by omega) (by omega) (by omega)).mpr c2), if_pos (show eq32 0 0 from rfl)]
        have hw0 : ¬ 0 < wf d (σ 27) (σ 28) i n := by rw [ew, gk, if_neg (by omega)]; omega
        exact fin 0 0 (Or.inl rfl) (fun _ => hw0) (by rw [if_neg hw0])
      · rw [if_neg (fun z => c2 ((lt64_i (by omega) (by omega) (by omega) (by omega)).mp z)), if_neg (show ¬ eq32 1 0 by decide)]
        have hw1 : wf d (σ 27) (σ 28) i n = sc d (σ 27 i) (σ 28 n) - d 0 24 + 1 := by rw [ew, gk, if_pos (by omega)]
        refine fin 1 _ (Or.inr rfl) (fun z => by omega) ?_
        rw [if_pos (by omega)]
        unfold tt
        rw [hw1, show (((sz (kr d) b (d 0 1)).toNat : Nat) : Int) = sz (kr d) b (d 0 1) by omega]
  · rintro t x s ⟨-, -, -, n, rfl, hn, -⟩; omega
