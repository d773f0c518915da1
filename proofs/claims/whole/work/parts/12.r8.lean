/-! how many pairs are alike by just which KEYS; which of them must be met -/
theorem S_pos {f : Int → Int} {n j : Int} (h : ∀ i, 0 ≤ i → i < n → 0 ≤ f i) (h0 : 0 ≤ j) (h1 : j < n) : f j ≤ S f n := by
  have key : ∀ m, 0 ≤ m → m ≤ n → 0 ≤ S f m ∧ (j < m → f j ≤ S f m) := by
    intro m hm
    refine nind (P := fun m => m ≤ n → 0 ≤ S f m ∧ (j < m → f j ≤ S f m)) (fun _ => ⟨by rw [S_0]; omega, fun z => by omega⟩) (fun m hm ih hmn => ?_) m hm
    obtain ⟨i1, i2⟩ := ih (by omega)
    have := h m hm (by omega)
    rw [S_s f hm]
    refine ⟨by omega, fun z => ?_⟩
    by_cases e : j = m
    · subst e; omega
    · have := i2 (by omega); omega
  exact (key n (by omega) (by omega)).2 h1
def mt (d : St) (a b s : Int) : Int := b01 (my d a b ∧ ak d a b = s)
def tl (d : St) (s : Int) : Int := S (fun a => S (fun b => if b < a then mt d a b s else 0) a) (d 0 1)
theorem my_sym {d : St} {a b : Int} : my d a b ↔ my d b a := ⟨fun h => ⟨⟨h.1.2, h.1.1⟩, fun z => h.2 z.symm⟩, fun h => ⟨⟨h.1.2, h.1.1⟩, fun z => h.2 z.symm⟩⟩
theorem mt_sym (d : St) (a b s : Int) : mt d a b s = mt d b a s := b01_c ⟨fun h => ⟨my_sym.mp h.1, by rw [ak_sym]; exact h.2⟩, fun h => ⟨my_sym.mp h.1, by rw [ak_sym]; exact h.2⟩⟩
theorem tl_x {d : St} (hd : DI d) (s : Int) : S (fun a => S (fun b => if a < b then mt d a b s else 0) (d 0 1)) (d 0 1) = tl d s :=
  S_tri (fun a b => mt d a b s) hd.rows.1 (fun a b _ _ _ _ => mt_sym d a b s)
theorem tl_in (d : St) (s : Int) {a n : Int} (h0 : 0 ≤ n) : 0 ≤ S (fun b => if b < a then mt d a b s else 0) n ∧ S (fun b => if b < a then mt d a b s else 0) n ≤ n := by
  have hm : ∀ b, 0 ≤ mt d a b s ∧ mt d a b s ≤ 1 := fun b => b01_r
  have h1 := S_ge (f := fun b => if b < a then mt d a b s else 0) (n := n) (lo := 0) (fun i _ _ => by have := hm i; show 0 ≤ (if i < a then mt d a i s else 0); split <;> omega) h0
  have h2 := S_le (f := fun b => if b < a then mt d a b s else 0) (n := n) (hi := 1) (fun i _ _ => by have := hm i; show (if i < a then mt d a i s else 0) ≤ 1; split <;> omega) h0
  omega
theorem tl_r {d : St} (hd : DI d) (s : Int) : 0 ≤ tl d s ∧ tl d s ≤ 1296 := by
  have hR := hd.rows
  have a1 := S_ge (f := fun a => S (fun b => if b < a then mt d a b s else 0) a) (n := d 0 1) (lo := 0) (fun i h _ => (tl_in d s (a := i) h).1) hR.1
  have a2 := S_le (f := fun a => S (fun b => if b < a then mt d a b s else 0) a) (n := d 0 1) (hi := 36) (fun i h h2 => by have := (tl_in d s (a := i) h).2; show S (fun b => if b < i then mt d i b s else 0) i ≤ 36; omega) hR.1
  unfold tl; omega
abbrev dc (d : St) (k : Int) : Prop := d 27 k = 1 ∧ my d (d 25 k) (d 26 k)
/-- must the pairs that are alike by just s be met, by the n first CHECKED ones -/
def dq (d : St) (s : Int) : Nat → Int
  | 0 => 0
  | n + 1 => if dc d n ∧ ak d (d 25 n) (d 26 n) = s then 1 else dq d s n
def dm (d : St) (s n : Int) : Int := dq d s n.toNat
theorem dm_s (d : St) (s : Int) {n : Int} (h : 0 ≤ n) : dm d s (n + 1) = if dc d n ∧ ak d (d 25 n) (d 26 n) = s then 1 else dm d s n := by
  obtain ⟨m, rfl⟩ := Int.eq_ofNat_of_zero_le h
  rfl
theorem dm_r (d : St) (s : Int) {n : Int} (h : 0 ≤ n) : 0 ≤ dm d s n ∧ dm d s n ≤ 1 := by
  refine nind (P := fun n => 0 ≤ dm d s n ∧ dm d s n ≤ 1) (by show 0 ≤ (0 : Int) ∧ (0 : Int) ≤ 1; omega) (fun n h ih => ?_) n h
  rw [dm_s d s h]
  split <;> omega
theorem fill_e (N : Nat) (k0 n0 : Nat) (v : Int) (s : St) (hN : n0 < N) (hn : n0 < 2147483648) : j_Arrays_fill_IIV N k0 n0 v s = some (0, zg s k0 0 n0 (fun _ => v)) := by
  unfold j_Arrays_fill_IIV
  refine lq1 (Out := fun x => x = some (0, zg s k0 0 n0 (fun _ => v))) (Inv := fun i s' => 0 ≤ i ∧ i ≤ n0 ∧ zg s' k0 i n0 (fun _ => v) = zg s k0 0 n0 (fun _ => v)) (fun i _ => n0 - i) ?_ ?_ N 0 s ⟨by omega, by omega, rfl⟩ (by omega)
  · rintro k i s' ⟨h0, h1, h2⟩
    unfold j_Arrays_fill_IIV_5
    simp (disch := omega) only [le32_i]
    by_cases c : (n0 : Int) ≤ i
    · left; rw [if_pos c, ← h2, zg_e _ _ _ _ _ c]
    · right
      exact ⟨i + 1, su s' k0 i v, by rw [if_neg c, gd_k (by omega)], ⟨by omega, by omega, by rw [zg_s s' k0 i n0 v (fun _ => v) (by omega) rfl, h2]⟩, by omega⟩
  · rintro i s' ⟨h0, h1, -⟩; omega
theorem x_tally_e (N : Nat) (hN : 100 < N) {d σ : St} (hx : RX d σ) (hd : DI d) : ∃ σ', x_Keys_tally N σ = some (0, σ') ∧ RX d σ' ∧ ∀ t, 0 ≤ t → t < 64 → σ' 39 t = tl d t := by
  have hR := hd.rows
  unfold x_Keys_tally
  rw [fill_e N 39 64 0 σ (by omega) (by omega), bd_k]
  refine lq1 (Out := fun x => ∃ σ', x = some (0, σ') ∧ RX d σ' ∧ ∀ t, 0 ≤ t → t < 64 → σ' 39 t = tl d t) (Inv := fun a s => RX d s ∧ 0 ≤ a ∧ a ≤ d 0 1 ∧ ∀ t, 0 ≤ t → t < 64 → s 39 t = S (fun a => S (fun b => if a < b then mt d a b t else 0) (d 0 1)) a) (fun a _ => d 0 1 - a) ?_ ?_ N 0 _ ⟨RX_s (fun k hk => zg_k _ _ _ _ (fun e => by rw [e] at hk; cases hk)) hx, by omega, by omega, fun t t0 t1 => by rw [zg_r, if_pos ⟨t0, t1⟩]; rfl⟩ (by omega)
  · rintro k a s ⟨hs, h0, h1, ht⟩
    unfold x_Keys_tally_15
    rw [hs.rows]
    simp (disch := omega) only [le32_i]
    by_cases c : d 0 1 ≤ a
    · left
      rw [if_pos c]
      exact ⟨s, rfl, hs, fun t t0 t1 => by rw [ht t t0 t1, show a = d 0 1 by omega, tl_x hd]⟩
    · right
      rw [if_neg c]
      have key : ∃ s', itr (x_Keys_tally_28 N k a) (fun _ _ => none) N (a + 1) s = k (a + 1) s' ∧ RX d s' ∧ ∀ t, 0 ≤ t → t < 64 → s' 39 t = S (fun a => S (fun b => if a < b then mt d a b t else 0) (d 0 1)) (a + 1) := by
        refine lq1 (Out := fun x => ∃ s', x = k (a + 1) s' ∧ RX d s' ∧ ∀ t, 0 ≤ t → t < 64 → s' 39 t = S (fun a => S (fun b => if a < b then mt d a b t else 0) (d 0 1)) (a + 1)) (Inv := fun b s' => RX d s' ∧ a + 1 ≤ b ∧ b ≤ d 0 1 ∧ ∀ t, 0 ≤ t → t < 64 → s' 39 t = S (fun a => S (fun b => if a < b then mt d a b t else 0) (d 0 1)) a + S (fun b => if a < b then mt d a b t else 0) b) (fun b _ => d 0 1 - b) ?_ ?_ N (a + 1) s ⟨hs, by omega, by omega, fun t t0 t1 => by rw [ht t t0 t1, S_z (f := fun b => if a < b then mt d a b t else 0) (n := a + 1) (fun i _ h => if_neg (by omega)) (by omega), Int.add_zero]⟩ (by omega)
        · rintro k2 b s' ⟨hs', b0, b1, ht'⟩
          unfold x_Keys_tally_28 x_Keys_tally_73
          rw [hs'.rows]
          simp (disch := omega) only [le32_i]
          by_cases c2 : d 0 1 ≤ b
          · left
            rw [if_pos c2]
            exact ⟨s', rfl, hs', fun t t0 t1 => by rw [ht' t t0 t1, S_s _ h0, show b = d 0 1 by omega]⟩
          · right
            have ha : 0 ≤ a ∧ a < d 0 1 := by omega
            have hb : 0 ≤ b ∧ b < d 0 1 := by omega
            have hk := ak_r d a b
            have gk : inb (ak d a b) 64 := by omega
            rw [if_neg c2, x_unlike_e N hs' hd ha hb, bd_k, x_areKnown_e N hs' hd ha hb, bd_k, x_alikeBy_e N hN hs' hd ha hb, bd_k, gd_k gk, gd_k gk]
            simp only [b01_0, itn]
            have stay : ¬ my d a b → ∃ a' σ', k2 (b + 1) s' = k2 a' σ' ∧ (RX d σ' ∧ a + 1 ≤ a' ∧ a' ≤ d 0 1 ∧ ∀ t, 0 ≤ t → t < 64 → σ' 39 t = S (fun a => S (fun b => if a < b then mt d a b t else 0) (d 0 1)) a + S (fun b => if a < b then mt d a b t else 0) a') ∧ d 0 1 - a' < d 0 1 - b := fun hn => ⟨b + 1, s', rfl, ⟨hs', by omega, by omega, fun t t0 t1 => by rw [ht' t t0 t1, S_s _ hb.1, if_pos (show a < b by omega), show mt d a b t = 0 from b01_f (fun z => hn z.1), Int.add_zero]⟩, by omega⟩
            by_cases c3 : d 1 a = d 1 b
            · rw [if_pos c3]; exact stay (fun z => z.2 c3)
            rw [if_neg c3]
            by_cases c4 : kn d a = 1 ∧ kn d b = 1
            · rw [if_pos c4]
              refine ⟨b + 1, su s' 39 (ak d a b) (s' 39 (ak d a b) + 1), rfl, ⟨RX_k rfl hs', by omega, by omega, fun t t0 t1 => ?_⟩, by omega⟩
              rw [su_r, S_s _ hb.1, if_pos (show a < b by omega)]
              by_cases e : t = ak d a b
              · rw [if_pos e, ← e, ht' t t0 t1, show mt d a b t = 1 from b01_t ⟨⟨c4, c3⟩, e.symm⟩, Int.add_assoc]
              · rw [if_neg e, ht' t t0 t1, show mt d a b t = 0 from b01_f (fun z => e z.2.symm), Int.add_zero]
            · rw [if_neg c4]; exact stay (fun z => c4 z.1)
        · rintro b s' ⟨-, b0, b1, -⟩; omega
      obtain ⟨s', q1, q2, q3⟩ := key
      exact ⟨a + 1, s', q1, ⟨q2, by omega, by omega, q3⟩, by omega⟩
  · rintro a s ⟨-, h0, h1, -⟩; omega
theorem my_mm {d : St} {p q : Int} : my d (min p q) (max p q) ↔ my d p q := by
  by_cases c : p ≤ q
  · rw [show min p q = p by omega, show max p q = q by omega]
  · rw [show min p q = q by omega, show max p q = p by omega]; exact my_sym
theorem ak_mm (d : St) (p q : Int) : ak d (min p q) (max p q) = ak d p q := by
  by_cases c : p ≤ q
  · rw [show min p q = p by omega, show max p q = q by omega]
  · rw [show min p q = q by omega, show max p q = p by omega, ak_sym]
/-- what the class's tallies are when the best KEYS are sought -/
def KX (d σ : St) : Prop := (∀ t, 0 ≤ t → t < 64 → σ 39 t = tl d t) ∧ ∀ t, 0 ≤ t → t < 64 → σ 40 t = dm d t (d 0 37)
theorem x_demand_e (N : Nat) (hN : 100 < N) {d σ : St} (hx : RX d σ) (hd : DI d) (h39 : ∀ t, 0 ≤ t → t < 64 → σ 39 t = tl d t) : ∃ σ', x_Keys_demand N σ = some (0, σ') ∧ RX d σ' ∧ KX d σ' := by
  have hC := hd.chk
  unfold x_Keys_demand
  refine lq1 (Out := fun x => ∃ σ', x = some (0, σ') ∧ RX d σ' ∧ KX d σ') (Inv := fun i s => RX d s ∧ (∀ t, 0 ≤ t → t < 64 → s 39 t = tl d t) ∧ 0 ≤ i ∧ i ≤ 64 ∧ ∀ t, 0 ≤ t → t < i → s 40 t = 0) (fun i _ => 64 - i) ?_ ?_ N 0 σ ⟨hx, h39, by omega, by omega, fun t _ _ => by omega⟩ (by omega)
  · rintro k i s ⟨hs, h9, h0, h1, h40⟩
    unfold x_Keys_demand_2
    simp (disch := omega) only [lt32_i]
    by_cases c : 63 < i
    · left
      rw [if_pos c]
      refine lq1 (Out := fun x => ∃ σ', x = some (0, σ') ∧ RX d σ' ∧ KX d σ') (Inv := fun i s => RX d s ∧ (∀ t, 0 ≤ t → t < 64 → s 39 t = tl d t) ∧ 0 ≤ i ∧ i ≤ d 0 37 ∧ ∀ t, 0 ≤ t → t < 64 → s 40 t = dm d t i) (fun i _ => d 0 37 - i) ?_ ?_ N 0 s ⟨hs, h9, by omega, by omega, fun t t0 t1 => h40 t t0 (by omega)⟩ (by omega)
      · rintro k2 j s2 ⟨hs2, h9', j0, j1, h40'⟩
        unfold x_Keys_demand_23 x_Keys_demand_98
        rw [hs2.chk]
        simp (disch := omega) only [le32_i]
        by_cases c2 : d 0 37 ≤ j
        · left
          rw [if_pos c2]
          exact ⟨s2, rfl, hs2, h9', fun t t0 t1 => by rw [h40' t t0 t1, show j = d 0 37 by omega]⟩
        · right
          obtain ⟨ha, hb, hab, h27⟩ := hd.chks j j0 (by omega)
          obtain ⟨g1, g2, g3⟩ := hs2.chks j j0 (by omega)
          have g : inb j 40 := by omega
          have hk := ak_r d (d 25 j) (d 26 j)
          have gk : inb (ak d (d 25 j) (d 26 j)) 64 := by omega
          have ha' : 0 ≤ min (d 25 j) (d 26 j) ∧ min (d 25 j) (d 26 j) < d 0 1 := by omega
          have hb' : 0 ≤ max (d 25 j) (d 26 j) ∧ max (d 25 j) (d 26 j) < d 0 1 := by omega
          rw [if_neg c2]
          simp only [gd_k g]
          rw [g1, g2, g3, x_unlike_e N hs2 hd ha' hb', bd_k, x_areKnown_e N hs2 hd ha' hb', bd_k, x_alikeBy_e N hN hs2 hd ha' hb', bd_k, ak_mm, gd_k gk]
          simp only [b01_0, itn]
          simp (disch := omega) only [eq32_i]
          have stay : ¬ dc d j → ∃ a' σ', k2 (j + 1) s2 = k2 a' σ' ∧ (RX d σ' ∧ (∀ t, 0 ≤ t → t < 64 → σ' 39 t = tl d t) ∧ 0 ≤ a' ∧ a' ≤ d 0 37 ∧ ∀ t, 0 ≤ t → t < 64 → σ' 40 t = dm d t a') ∧ d 0 37 - a' < d 0 37 - j := fun hn => ⟨j + 1, s2, rfl, ⟨hs2, h9', by omega, by omega, fun t t0 t1 => by rw [h40' t t0 t1, dm_s d t j0, if_neg (fun z => hn z.1)]⟩, by omega⟩
          have hmy : my d (min (d 25 j) (d 26 j)) (max (d 25 j) (d 26 j)) ↔ my d (d 25 j) (d 26 j) := my_mm
          by_cases c3 : d 27 j = 0
          · rw [if_pos c3]; exact stay (fun z => by have := z.1; omega)
          rw [if_neg c3]
          by_cases c4 : d 1 (min (d 25 j) (d 26 j)) = d 1 (max (d 25 j) (d 26 j))
          · rw [if_pos c4]; exact stay (fun z => (hmy.mpr z.2).2 c4)
          rw [if_neg c4]
          by_cases c5 : kn d (min (d 25 j) (d 26 j)) = 1 ∧ kn d (max (d 25 j) (d 26 j)) = 1
          · rw [if_pos c5]
            have hdc : dc d j := ⟨h27.resolve_left c3, hmy.mp ⟨c5, c4⟩⟩
            refine ⟨j + 1, su s2 40 (ak d (d 25 j) (d 26 j)) 1, rfl, ⟨RX_k rfl hs2, fun t t0 t1 => by rw [su_k _ _ _ (by decide)]; exact h9' t t0 t1, by omega, by omega, fun t t0 t1 => ?_⟩, by omega⟩
            rw [su_r, dm_s d t j0]
            by_cases e : t = ak d (d 25 j) (d 26 j)
            · rw [if_pos e, if_pos ⟨hdc, e.symm⟩]
            · rw [if_neg e, if_neg (fun z => e z.2.symm)]; exact h40' t t0 t1
          · rw [if_neg c5]; exact stay (fun z => c5 (hmy.mpr z.2).1)
      · rintro j s2 ⟨-, -, j0, j1, -⟩; omega
    · right
      refine ⟨i + 1, su s 40 i 0, by rw [if_neg c, gd_k (by omega)], ⟨RX_k rfl hs, fun t t0 t1 => by rw [su_k _ _ _ (by decide)]; exact h9 t t0 t1, by omega, by omega, fun t t0 t1 => ?_⟩, by omega⟩
      rw [su_r]
      by_cases e : t = i
      · rw [if_pos e]
      · rw [if_neg e]; exact h40 t t0 (by omega)
  · rintro i s ⟨-, -, h0, h1, -⟩; omega
theorem RM_31 {d σ : St} {i v : Int} (h : RM d σ) : RM d (su σ 31 i v) := RM_k (by decide) (by decide) (by decide) h
theorem RM_32 {d σ : St} {i v : Int} (h : RM d σ) : RM d (su σ 32 i v) := RM_k (by decide) (by decide) (by decide) h
/-- the reference's -/
def KM (d σ : St) : Prop := (∀ t, 0 ≤ t → t < 64 → σ 31 t = tl d t) ∧ ∀ t, 0 ≤ t → t < 64 → σ 32 t = dm d t (d 0 37)
theorem m_counts_e (N : Nat) (hN : 100 < N) {d σ : St} (hm : RM d σ) (hd : DI d) : ∃ σ', m_counts N σ = some (0, σ') ∧ RM d σ' ∧ KM d σ' := by
  have hC := hd.chk
  have hR := hd.rows
  have e83 : ∀ s, RM d s → (∀ t, 0 ≤ t → t < 64 → s 31 t = tl d t) → (∀ t, 0 ≤ t → t < 64 → s 32 t = 0) → ∃ σ', itr (m_counts_83 N) (fun _ _ => none) N 0 s = some (0, σ') ∧ RM d σ' ∧ KM d σ' := by
    intro s hs h31 h32
    refine lq1 (Out := fun x => ∃ σ', x = some (0, σ') ∧ RM d σ' ∧ KM d σ') (Inv := fun i s => RM d s ∧ (∀ t, 0 ≤ t → t < 64 → s 31 t = tl d t) ∧ 0 ≤ i ∧ i ≤ d 0 37 ∧ ∀ t, 0 ≤ t → t < 64 → s 32 t = dm d t i) (fun i _ => d 0 37 - i) ?_ ?_ N 0 s ⟨hs, h31, by omega, by omega, fun t t0 t1 => h32 t t0 t1⟩ (by omega)
    · rintro k2 j s2 ⟨hs2, h9', j0, j1, h40'⟩
      unfold m_counts_83 m_counts_141
      rw [hs2.2.1 37 rfl]
      by_cases c2 : d 0 37 ≤ j
      · left
        rw [if_pos ((le32_i (by omega) (by omega) (by omega) (by omega)).mpr c2)]
        exact ⟨s2, rfl, hs2, h9', fun t t0 t1 => by rw [h40' t t0 t1, show j = d 0 37 by omega]⟩
      · right
        obtain ⟨ha, hb, hab, h27⟩ := hd.chks j j0 (by omega)
        have g : inb j 40 := by omega
        have hk := ak_r d (d 25 j) (d 26 j)
        have gk : inb (ak d (d 25 j) (d 26 j)) 64 := by omega
        obtain ⟨s3, q1, q2, q3⟩ := m_alikeBy_e N hN hs2 hd ha hb
        rw [if_neg (fun z => c2 ((le32_i (by omega) (by omega) (by omega) (by omega)).mp z))]
        simp only [gd_k g]
        rw [hs2.1 27 rfl, hs2.1 25 rfl, hs2.1 26 rfl, m_mayMeet_e N hs2 hd ha hb, bd_k, hs2.1 25 rfl, hs2.1 26 rfl, q1, bd_k, gd_k gk]
        simp only [b01_0, itn]
        have stay : ¬ dc d j → ∃ a' σ', k2 (j + 1) s2 = k2 a' σ' ∧ (RM d σ' ∧ (∀ t, 0 ≤ t → t < 64 → σ' 31 t = tl d t) ∧ 0 ≤ a' ∧ a' ≤ d 0 37 ∧ ∀ t, 0 ≤ t → t < 64 → σ' 32 t = dm d t a') ∧ d 0 37 - a' < d 0 37 - j := fun hn => ⟨j + 1, s2, rfl, ⟨hs2, h9', by omega, by omega, fun t t0 t1 => by rw [h40' t t0 t1, dm_s d t j0, if_neg (fun z => hn z.1)]⟩, by omega⟩
        by_cases c3 : d 27 j = 0
        · rw [if_pos ((eq32_i (by omega) (by omega) (by omega) (by omega)).mpr c3)]; exact stay (fun z => by have := z.1; omega)
        rw [if_neg (fun z => c3 ((eq32_i (by omega) (by omega) (by omega) (by omega)).mp z))]
        by_cases c4 : my d (d 25 j) (d 26 j)
        · have hdc : dc d j := ⟨h27.resolve_left c3, c4⟩
          rw [if_pos c4]
          refine ⟨j + 1, su s3 32 (ak d (d 25 j) (d 26 j)) 1, rfl, ⟨RM_32 q2, fun t t0 t1 => by rw [su_k _ _ _ (by decide), q3.1 31 (by decide) (by decide) (by decide) (by decide) (by decide)]; exact h9' t t0 t1, by omega, by omega, fun t t0 t1 => ?_⟩, by omega⟩
          rw [su_r, dm_s d t j0, q3.1 32 (by decide) (by decide) (by decide) (by decide) (by decide)]
          by_cases e : t = ak d (d 25 j) (d 26 j)
          · rw [if_pos e, if_pos ⟨hdc, e.symm⟩]
          · rw [if_neg e, if_neg (fun z => e z.2.symm)]; exact h40' t t0 t1
        · rw [if_neg c4]; exact stay (fun z => c4 z.2)
    · rintro j s2 ⟨-, -, j0, j1, -⟩; omega
  have e30 : ∀ s, RM d s → (∀ t, 0 ≤ t → t < 64 → s 31 t = 0) → (∀ t, 0 ≤ t → t < 64 → s 32 t = 0) → ∃ σ', itr (m_counts_30 N) (fun _ _ => none) N 0 s = some (0, σ') ∧ RM d σ' ∧ KM d σ' := by
    intro s hs h31 h32
    refine lq1 (Out := fun x => ∃ σ', x = some (0, σ') ∧ RM d σ' ∧ KM d σ') (Inv := fun a s => RM d s ∧ 0 ≤ a ∧ a ≤ d 0 1 ∧ (∀ t, 0 ≤ t → t < 64 → s 31 t = S (fun a => S (fun b => if b < a then mt d a b t else 0) a) a) ∧ (∀ t, 0 ≤ t → t < 64 → s 32 t = 0)) (fun a _ => d 0 1 - a) ?_ ?_ N 0 s ⟨hs, by omega, by omega, fun t t0 t1 => h31 t t0 t1, h32⟩ (by omega)
    · rintro k a s ⟨hs, h0, h1, ht, hz⟩
      unfold m_counts_30
      rw [hs.2.1 1 rfl]
      simp (disch := omega) only [le32_i]
      by_cases c : d 0 1 ≤ a
      · left
        rw [if_pos c]
        exact e83 s hs (fun t t0 t1 => by rw [ht t t0 t1, show a = d 0 1 by omega]; rfl) hz
      · right
        rw [if_neg c]
        have key : ∃ s', itr (m_counts_40 N k a) (fun _ _ => none) N 0 s = k (a + 1) s' ∧ RM d s' ∧ (∀ t, 0 ≤ t → t < 64 → s' 31 t = S (fun a => S (fun b => if b < a then mt d a b t else 0) a) (a + 1)) ∧ (∀ t, 0 ≤ t → t < 64 → s' 32 t = 0) := by
          refine lq1 (Out := fun x => ∃ s', x = k (a + 1) s' ∧ RM d s' ∧ (∀ t, 0 ≤ t → t < 64 → s' 31 t = S (fun a => S (fun b => if b < a then mt d a b t else 0) a) (a + 1)) ∧ (∀ t, 0 ≤ t → t < 64 → s' 32 t = 0)) (Inv := fun b s' => RM d s' ∧ 0 ≤ b ∧ b ≤ a ∧ (∀ t, 0 ≤ t → t < 64 → s' 31 t = S (fun a => S (fun b => if b < a then mt d a b t else 0) a) a + S (fun b => if b < a then mt d a b t else 0) b) ∧ (∀ t, 0 ≤ t → t < 64 → s' 32 t = 0)) (fun b _ => a - b) ?_ ?_ N 0 s ⟨hs, by omega, by omega, fun t t0 t1 => by rw [ht t t0 t1, S_0, Int.add_zero], hz⟩ (by omega)
          · rintro k2 b s' ⟨hs', b0, b1, ht', hz'⟩
            unfold m_counts_40 m_counts_69
            simp (disch := omega) only [le32_i]
            by_cases c2 : a ≤ b
            · left
              rw [if_pos c2]
              exact ⟨s', rfl, hs', fun t t0 t1 => by rw [ht' t t0 t1, S_s _ h0, show b = a by omega], hz'⟩
            · right
              have ha : 0 ≤ a ∧ a < d 0 1 := by omega
              have hb : 0 ≤ b ∧ b < d 0 1 := by omega
              have hk := ak_r d a b
              have gk : inb (ak d a b) 64 := by omega
              obtain ⟨s3, q1, q2, q3⟩ := m_alikeBy_e N hN hs' hd ha hb
              rw [if_neg c2, m_mayMeet_e N hs' hd ha hb, bd_k, q1, bd_k, gd_k gk, gd_k gk]
              simp only [b01_0, itn]
              by_cases c4 : my d a b
              · rw [if_pos c4]
                have g31 := q3.1 31 (by decide) (by decide) (by decide) (by decide) (by decide)
                refine ⟨b + 1, su s3 31 (ak d a b) (s3 31 (ak d a b) + 1), rfl, ⟨RM_31 q2, by omega, by omega, fun t t0 t1 => ?_, fun t t0 t1 => by rw [su_k _ _ _ (by decide), q3.1 32 (by decide) (by decide) (by decide) (by decide) (by decide)]; exact hz' t t0 t1⟩, by omega⟩
                rw [su_r, S_s _ b0, if_pos (show b < a by omega), g31]
                by_cases e : t = ak d a b
                · rw [if_pos e, ← e, ht' t t0 t1, show mt d a b t = 1 from b01_t ⟨c4, e.symm⟩, Int.add_assoc]
                · rw [if_neg e, ht' t t0 t1, show mt d a b t = 0 from b01_f (fun z => e z.2.symm), Int.add_zero]
              · rw [if_neg c4]
                exact ⟨b + 1, s', rfl, ⟨hs', by omega, by omega, fun t t0 t1 => by rw [ht' t t0 t1, S_s _ hb.1, if_pos (show b < a by omega), show mt d a b t = 0 from b01_f (fun z => c4 z.1), Int.add_zero], hz'⟩, by omega⟩
          · rintro b s' ⟨-, b0, b1, -⟩; omega
        obtain ⟨s', q1, q2, q3, q4⟩ := key
        exact ⟨a + 1, s', q1, ⟨q2, by omega, by omega, q3, q4⟩, by omega⟩
    · rintro a s ⟨-, h0, h1, -⟩; omega
  unfold m_counts
  refine lq1 (Out := fun x => ∃ σ', x = some (0, σ') ∧ RM d σ' ∧ KM d σ') (Inv := fun i s => RM d s ∧ 0 ≤ i ∧ i ≤ 64 ∧ (∀ t, 0 ≤ t → t < i → s 31 t = 0) ∧ ∀ t, 0 ≤ t → t < i → s 32 t = 0) (fun i _ => 64 - i) ?_ ?_ N 0 σ ⟨hm, by omega, by omega, fun t _ _ => by omega, fun t _ _ => by omega⟩ (by omega)
  · rintro k i s ⟨hs, h0, h1, h31, h32⟩
    unfold m_counts_2
    simp (disch := omega) only [le32_i]
    by_cases c : 64 ≤ i
    · left
      rw [if_pos c]
      exact e30 s hs (fun t t0 t1 => h31 t t0 (by omega)) (fun t t0 t1 => h32 t t0 (by omega))
    · right
      have g : inb i 64 := by omega
      refine ⟨i + 1, su (su s 31 i 0) 32 i 0, by rw [if_neg c, gd_k g, gd_k g], ⟨RM_32 (RM_31 hs), by omega, by omega, fun t t0 t1 => ?_, fun t t0 t1 => ?_⟩, by omega⟩
      · rw [su_k _ _ _ (by decide), su_r]
        by_cases e : t = i
        · rw [if_pos e]
        · rw [if_neg e]; exact h31 t t0 (by omega)
      · rw [su_r, su_k _ _ _ (by decide)]
        by_cases e : t = i
        · rw [if_pos e]
        · rw [if_neg e]; exact h32 t t0 (by omega)
  · rintro i s ⟨-, h0, h1, -⟩; omega
