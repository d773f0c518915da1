/-! laid, mate -/
theorem mxv_c {f f' : Nat → Int} {c c' : Nat → Bool} {z z' : Int} (hz : z = z') : ∀ {n : Nat}, (∀ j, j < n → c j = c' j ∧ f j = f' j) → mxv f c z n = mxv f' c' z' n := by
  intro n
  induction n with
  | zero => intro _; exact hz
  | succ n ih =>
    intro h
    have := h n (by omega)
    rw [mxv, mxv, ih (fun j hj => h j (by omega)), this.1, this.2]
theorem cc_c {w w' : Nat → Nat → Int} {S i j : Nat} (h : w i j = w' i j) : cc w S i j = cc w' S i j := by unfold cc; rw [h]
theorem BB_c {p q : Nat} {w w' : Nat → Nat → Int} (h : ∀ i j, i < p → j < q → w i j = w' i j) : ∀ k S, k ≤ p → BB p q w k S = BB p q w' k S := by
  intro k
  induction k with
  | zero => intro S _; rfl
  | succ k ih =>
    intro S hk
    exact mxv_c (ih S (by omega)) (fun j hj => ⟨cc_c (h _ j (by omega) hj), by rw [h _ j (by omega) hj, ih _ (by omega)]⟩)
theorem EE_c {p q : Nat} {w w' : Nat → Nat → Int} (h : ∀ i j, i < p → j < q → w i j = w' i j) : ∀ k S, k ≤ p → EE p q w k S = EE p q w' k S := by
  intro k
  induction k with
  | zero => intro S _; rfl
  | succ k ih =>
    intro S hk
    exact mxv_c (ih S (by omega)) (fun j hj => ⟨cc_c (h _ j (by omega) hj), by unfold tt; rw [h _ j (by omega) hj, ih _ (by omega)]⟩)
theorem lx_c {p q : Nat} {w w' : Nat → Nat → Int} (h : ∀ i j, i < p → j < q → w i j = w' i j) : lx p q w = lx p q w' := by unfold lx; rw [EE_c h p 0 (Nat.le_refl p), BB_c h p 0 (Nat.le_refl p)]
theorem dg_c {p q : Nat} {w w' : Nat → Nat → Int} (h : ∀ i j, i < p → j < q → w i j = w' i j) (i : Nat) : dg p q w i = dg p q w' i := by unfold dg; rw [lx_c h]
theorem dn_c {p q : Nat} {w w' : Nat → Nat → Int} (h : ∀ i j, i < p → j < q → w i j = w' i j) {n : Int} (hn : 0 ≤ n) : dn p q w n = dn p q w' n := S_c (fun x _ _ => by rw [dg_c h]) hn
theorem lx_r {p q : Nat} {w : Nat → Nat → Int} (hp : p ≤ 10) (hq : q ≤ 10) : 0 ≤ lx p q w ∧ lx p q w < 25937424601 := by
  have := EB (w := w) hp hq p 0 (Nat.le_refl p)
  rw [Nat.sub_self, show Lb 0 = 25937424601 from rfl] at this
  unfold lx; omega
theorem dg_r {p q : Nat} (w : Nat → Nat → Int) (i : Nat) : 0 ≤ dg p q w i ∧ dg p q w i ≤ 10 := by unfold dg; omega
theorem dn_r {p q : Nat} (w : Nat → Nat → Int) {n : Int} (h : 0 ≤ n) : 0 ≤ dn p q w n ∧ dn p q w n ≤ n := by
  have a := S_ge (f := fun x => if dg p q w x.toNat = 0 then 0 else 1) (n := n) (lo := 0) (fun x _ _ => by show 0 ≤ (if dg p q w x.toNat = 0 then (0 : Int) else 1); split <;> omega) h
  have b := S_le (f := fun x => if dg p q w x.toNat = 0 then 0 else 1) (n := n) (hi := 1) (fun x _ _ => by show (if dg p q w x.toNat = 0 then (0 : Int) else 1) ≤ 1; split <;> omega) h
  unfold dn; omega
abbrev wx (d σ : St) : Nat → Nat → Int := wf d (σ 27) (σ 28)
theorem x_figureOf_e (N : Nat) (hN : 100 < N) {d σ : St} {a b : Int} (hL : LD d a b σ) (hd : DI d) (hp : sz (kr d) a (d 0 1) ≤ 10) (hq : sz (kr d) b (d 0 1) ≤ 10) {i : Nat} (hi : i < 10) : x_Laying_figureOf N (i : Int) σ = some (dg (na d a) (na d b) (wx d σ) i, σ) := by
  have hR := hd.rows
  have hza := sz_r (kr d) a hR.1
  have hzb := sz_r (kr d) b hR.1
  have hna : ((na d a : Nat) : Int) = sz (kr d) a (d 0 1) := Int.toNat_of_nonneg hza.1
  have hnb : ((na d b : Nat) : Int) = sz (kr d) b (d 0 1) := Int.toNat_of_nonneg hzb.1
  have hw : ∀ i j, 0 ≤ wx d σ i j ∧ wx d σ i j ≤ 801 := fun i j => gn_r d _ _
  have eb := EE_b (p := na d a) (q := na d b) hw (by omega) (by omega) (k := na d a) (S := 0) (Nat.le_refl _)
  have lr := lx_r (p := na d a) (q := na d b) (w := wx d σ) (by omega) (by omega)
  have e76 : σ 7 6 = EE (na d a) (na d b) (wx d σ) (na d a) 0 := hL.2
  have em : EE (na d a) (na d b) (wx d σ) (na d a) 0 % 25937424601 = lx (na d a) (na d b) (wx d σ) := by
    have hq : EE (na d a) (na d b) (wx d σ) (na d a) 0 / 25937424601 = BB (na d a) (na d b) (wx d σ) (na d a) 0 := dq_e (r := lx (na d a) (na d b) (wx d σ)) (by omega) (by unfold lx; omega) lr.1 lr.2
    rw [Int.emod_def, hq]
    unfold lx; omega
  unfold x_Laying_figureOf
  rw [e76, rem64 eb.1 (by omega) (by omega) (by omega), em]
  refine lq2 (Out := fun z => z = some (dg (na d a) (na d b) (wx d σ) i, σ)) (Inv := fun v x s => s = σ ∧ ∃ k : Nat, x = k ∧ i ≤ k ∧ k ≤ 9 ∧ v = lx (na d a) (na d b) (wx d σ) / Lb (k + 1)) (fun _ x _ => x) ?_ ?_ N _ 9 σ ⟨rfl, 9, rfl, by omega, by omega, by rw [show Lb (9 + 1) = 1 from rfl, Int.ediv_one]⟩ (by omega)
  · rintro k2 v x s ⟨rfl, k, rfl, hk, hk9, rfl⟩
    have l1 := Lb_r (i := k + 1) (by omega)
    have v0 : 0 ≤ lx (na d a) (na d b) (wx d s) / Lb (k + 1) := Int.ediv_nonneg lr.1 (by omega)
    have v1 : lx (na d a) (na d b) (wx d s) / Lb (k + 1) ≤ lx (na d a) (na d b) (wx d s) := Int.ediv_le_self _ lr.1
    unfold x_Laying_figureOf_13
    by_cases c : k = i
    · left
      rw [if_pos ((le32_i (by omega) (by omega) (by omega) (by omega)).mpr (by omega)), rem64 v0 (by omega) (by omega) (by omega), c]; rfl
    · right
      rw [if_neg (fun z => by rw [le32_i (by omega) (by omega) (by omega) (by omega)] at z; omega), dv64_i v0 (by omega) (by omega) (by omega)]
      refine ⟨_, _, s, rfl, ⟨rfl, k - 1, by omega, by omega, by omega, ?_⟩, by omega⟩
      rw [show k - 1 + 1 = k by omega, Lb_s (i := k) (by omega), Int.ediv_ediv_of_nonneg (by omega), Int.mul_comm]
  · rintro v x s ⟨-, k, rfl, hk, hk9, -⟩; omega
theorem x_countMates_e (N : Nat) (hN : 100 < N) {d σ : St} {a b : Int} (hL : LD d a b σ) (hd : DI d) (hp : sz (kr d) a (d 0 1) ≤ 10) (hq : sz (kr d) b (d 0 1) ≤ 10) : x_Laying_countMates N σ = some (dn (na d a) (na d b) (wx d σ) (sz (kr d) a (d 0 1)), σ) := by
  have hR := hd.rows
  have hza := sz_r (kr d) a hR.1
  unfold x_Laying_countMates
  refine lq2 (Out := fun z => z = some (dn (na d a) (na d b) (wx d σ) (sz (kr d) a (d 0 1)), σ)) (Inv := fun v x s => s = σ ∧ 0 ≤ x ∧ x ≤ sz (kr d) a (d 0 1) ∧ v = dn (na d a) (na d b) (wx d σ) x) (fun _ x _ => sz (kr d) a (d 0 1) - x) ?_ ?_ N 0 0 σ ⟨rfl, by omega, by omega, rfl⟩ (by omega)
  · rintro k v x s ⟨rfl, x0, x1, rfl⟩
    unfold x_Laying_countMates_4 x_Laying_countMates_23
    rw [hL.1.2.1]
    by_cases c : sz (kr d) a (d 0 1) ≤ x
    · left
      rw [if_pos ((le32_i (by omega) (by omega) (by omega) (by omega)).mpr c), show x = sz (kr d) a (d 0 1) by omega]
    · right
      have hf := x_figureOf_e N hN hL hd hp hq (i := x.toNat) (by omega)
      rw [show ((x.toNat : Nat) : Int) = x by omega] at hf
      have hdr := dg_r (p := na d a) (q := na d b) (wx d s) x.toNat
      refine ⟨dn (na d a) (na d b) (wx d s) (x + 1), x + 1, s, ?_, ⟨rfl, by omega, by omega, rfl⟩, by omega⟩
      rw [if_neg (fun z => c ((le32_i (by omega) (by omega) (by omega) (by omega)).mp z)), hf, bd_k, show dn (na d a) (na d b) (wx d s) (x + 1) = dn (na d a) (na d b) (wx d s) x + (if dg (na d a) (na d b) (wx d s) x.toNat = 0 then 0 else 1) from S_s _ x0]
      by_cases c2 : dg (na d a) (na d b) (wx d s) x.toNat = 0
      · rw [if_pos ((eq32_i (by omega) (by omega) (by omega) (by omega)).mpr c2), if_pos c2, Int.add_zero]
      · rw [if_neg (fun z => c2 ((eq32_i (by omega) (by omega) (by omega) (by omega)).mp z)), if_neg c2]
  · rintro v x s ⟨-, x0, x1, -⟩; omega
theorem x_sumOfAll_e (N : Nat) {d σ : St} {a b : Int} (hL : LD d a b σ) (hd : DI d) (hp : sz (kr d) a (d 0 1) ≤ 10) (hq : sz (kr d) b (d 0 1) ≤ 10) : x_Laying_sumOfAll N σ = some (BB (na d a) (na d b) (wx d σ) (na d a) 0, σ) := by
  have hR := hd.rows
  have hza := sz_r (kr d) a hR.1
  have hzb := sz_r (kr d) b hR.1
  have hna : ((na d a : Nat) : Int) = sz (kr d) a (d 0 1) := Int.toNat_of_nonneg hza.1
  have hnb : ((na d b : Nat) : Int) = sz (kr d) b (d 0 1) := Int.toNat_of_nonneg hzb.1
  have hw : ∀ i j, 0 ≤ wx d σ i j ∧ wx d σ i j ≤ 801 := fun i j => gn_r d _ _
  have eb := EE_b (p := na d a) (q := na d b) hw (by omega) (by omega) (k := na d a) (S := 0) (Nat.le_refl _)
  have lr := lx_r (p := na d a) (q := na d b) (w := wx d σ) (by omega) (by omega)
  have e76 : σ 7 6 = EE (na d a) (na d b) (wx d σ) (na d a) 0 := hL.2
  unfold x_Laying_sumOfAll
  rw [e76, dv64_i eb.1 (by omega) (by omega) (by omega), dq_e (C := BB (na d a) (na d b) (wx d σ) (na d a) 0) (r := lx (na d a) (na d b) (wx d σ)) (by omega) (by unfold lx; omega) lr.1 lr.2]
theorem x_mateOf_e (N : Nat) (hN : 100 < N) {d σ : St} {a b r : Int} (hL : LD d a b σ) (hd : DI d) (hp : sz (kr d) a (d 0 1) ≤ 10) (hq : sz (kr d) b (d 0 1) ≤ 10) (hr : 0 ≤ r ∧ r < d 0 1) (hra : kr d r = a) :
    x_Laying_mateOf N r σ = some (if 1 ≤ dg (na d a) (na d b) (wx d σ) (sz (kr d) a r).toNat ∧ dg (na d a) (na d b) (wx d σ) (sz (kr d) a r).toNat ≤ sz (kr d) b (d 0 1) then σ 28 (sz (kr d) b (d 0 1) - dg (na d a) (na d b) (wx d σ) (sz (kr d) a r).toNat) else -1, σ) := by
  have hR := hd.rows
  have hza := sz_r (kr d) a hR.1
  have hzb := sz_r (kr d) b hR.1
  have hzr := sz_r (kr d) a hr.1
  have hlt := sz_lt (f := kr d) (b := a) hr.1 hr.2 hra
  have hdr := dg_r (p := na d a) (q := na d b) (wx d σ) (sz (kr d) a r).toNat
  unfold x_Laying_mateOf
  refine lq1 (Out := fun z => z = some (if 1 ≤ dg (na d a) (na d b) (wx d σ) (sz (kr d) a r).toNat ∧ dg (na d a) (na d b) (wx d σ) (sz (kr d) a r).toNat ≤ sz (kr d) b (d 0 1) then σ 28 (sz (kr d) b (d 0 1) - dg (na d a) (na d b) (wx d σ) (sz (kr d) a r).toNat) else -1, σ)) (Inv := fun x s => s = σ ∧ 0 ≤ x ∧ x ≤ sz (kr d) a (d 0 1) ∧ (sz (kr d) a r < x → ¬ (1 ≤ dg (na d a) (na d b) (wx d σ) (sz (kr d) a r).toNat ∧ dg (na d a) (na d b) (wx d σ) (sz (kr d) a r).toNat ≤ sz (kr d) b (d 0 1)))) (fun x _ => sz (kr d) a (d 0 1) - x) ?_ ?_ N 0 σ ⟨rfl, by omega, by omega, fun z => by omega⟩ (by omega)
  · rintro k x s ⟨rfl, x0, x1, hx⟩
    unfold x_Laying_mateOf_2 x_Laying_mateOf_51
    rw [hL.1.2.1]
    by_cases c : sz (kr d) a (d 0 1) ≤ x
    · left
      rw [if_pos ((le32_i (by omega) (by omega) (by omega) (by omega)).mpr c), if_neg (hx (by omega))]
    · have hf := x_figureOf_e N hN hL hd hp hq (i := x.toNat) (by omega)
      rw [show ((x.toNat : Nat) : Int) = x by omega] at hf
      have hdx := dg_r (p := na d a) (q := na d b) (wx d s) x.toNat
      have mi := ML_i hR.1 hL.1.2.2.2.1 (i := x) (by omega) (by omega)
      rw [if_neg (fun z => c ((le32_i (by omega) (by omega) (by omega) (by omega)).mp z)), hf, bd_k, gd_k (by omega), hL.1.2.2.1]
      by_cases c2 : s 27 x = r
      · have ex : x = sz (kr d) a r := by rw [← c2]; exact mi.2.2.2.symm
        rw [if_pos ((eq32_i (by omega) (by omega) (by omega) (by omega)).mpr c2), ex]
        by_cases c3 : dg (na d a) (na d b) (wx d s) (sz (kr d) a r).toNat < 1
        · right
          rw [if_pos ((lt32_i (by omega) (by omega) (by omega) (by omega)).mpr c3)]
          exact ⟨_, s, rfl, ⟨rfl, by omega, by omega, fun _ => by omega⟩, by omega⟩
        rw [if_neg (fun z => c3 ((lt32_i (by omega) (by omega) (by omega) (by omega)).mp z))]
        by_cases c4 : sz (kr d) b (d 0 1) < dg (na d a) (na d b) (wx d s) (sz (kr d) a r).toNat
        · right
          rw [if_pos ((lt32_i (by omega) (by omega) (by omega) (by omega)).mpr c4)]
          exact ⟨_, s, rfl, ⟨rfl, by omega, by omega, fun _ => by omega⟩, by omega⟩
        · left
          rw [if_neg (fun z => c4 ((lt32_i (by omega) (by omega) (by omega) (by omega)).mp z)), gd_k (by omega), if_pos (by omega)]
      · right
        rw [if_neg (fun z => c2 ((eq32_i (by omega) (by omega) (by omega) (by omega)).mp z))]
        refine ⟨x + 1, s, rfl, ⟨rfl, by omega, by omega, fun z => ?_⟩, by omega⟩
        by_cases e : x = sz (kr d) a r
        · exact absurd (by rw [e]; exact hL.1.2.2.2.1 r hr.1 hr.2 hra) c2
        · exact hx (by omega)
  · rintro x s ⟨-, x0, x1, -⟩; omega
/-- what the reference has when it has laid -/
def MD (d : St) (a b : Int) (σ : St) : Prop := RM d σ ∧ σ 0 27 = sz (kr d) a (d 0 1) ∧ ML (d 0 1) (kr d) a (σ 18) ∧ ML (d 0 1) (kr d) b (σ 19) ∧ σ 21 0 = BB (na d a) (na d b) (wm d σ) (na d a) 0 ∧ (∀ i : Nat, i < na d a → DP (na d b) (dg (na d a) (na d b) (wm d σ) i) (σ 22 i)) ∧ σ 0 34 = dn (na d a) (na d b) (wm d σ) (na d a)
theorem m_lays_e (N : Nat) (hN : 4999 < N) {d σ : St} {a b : Int} (hm : RM d σ) (hd : DI d) (ha : 0 ≤ a ∧ a < 3) (hb : 0 ≤ b ∧ b < 3) (hab : a ≠ b) :
    ∃ t σ', m_lays N a b σ = some (t, σ') ∧ RM d σ' ∧ ((t = 0 ∧ (10 < sz (kr d) a (d 0 1) ∨ 10 < sz (kr d) b (d 0 1))) ∨ (t = 1 ∧ sz (kr d) a (d 0 1) ≤ 10 ∧ sz (kr d) b (d 0 1) ≤ 10 ∧ MD d a b σ')) := by
  have hR := hd.rows
  have hza := sz_r (kr d) a hR.1
  have hzb := sz_r (kr d) b hR.1
  unfold m_lays
  rw [m_knownOf_e N (by omega) hm hd (r := a) (by omega), bd_k, kc_sz hd ha.1]
  by_cases c1 : 10 < sz (kr d) a (d 0 1)
  · rw [if_pos ((lt32_i (by omega) (by omega) (by omega) (by omega)).mpr c1)]
    exact ⟨0, σ, rfl, hm, Or.inl ⟨rfl, Or.inl c1⟩⟩
  rw [if_neg (fun z => c1 ((lt32_i (by omega) (by omega) (by omega) (by omega)).mp z)), m_knownOf_e N (by omega) hm hd (r := b) (by omega), bd_k, kc_sz hd hb.1]
  by_cases c2' : 10 < sz (kr d) b (d 0 1)
  · rw [if_neg (fun z => by rw [le32_i (by omega) (by omega) (by omega) (by omega)] at z; omega)]
    exact ⟨0, σ, rfl, hm, Or.inl ⟨rfl, Or.inr c2'⟩⟩
  have hp : sz (kr d) a (d 0 1) ≤ 10 := by omega
  have hq : sz (kr d) b (d 0 1) ≤ 10 := by omega
  obtain ⟨s1, e1, e2⟩ := m_looks_e N (by omega) hm hd
  rw [if_pos ((le32_i (by omega) (by omega) (by omega) (by omega)).mpr hq), e1, bd_k]
  have hna : ((na d a : Nat) : Int) = sz (kr d) a (d 0 1) := Int.toNat_of_nonneg hza.1
  refine m_lists_e N (by omega) (σ0 := σ) (Out := fun z => ∃ t σ', z = some (t, σ') ∧ RM d σ' ∧ ((t = 0 ∧ (10 < sz (kr d) a (d 0 1) ∨ 10 < sz (kr d) b (d 0 1))) ∨ (t = 1 ∧ sz (kr d) a (d 0 1) ≤ 10 ∧ sz (kr d) b (d 0 1) ≤ 10 ∧ MD d a b σ'))) hd ha hb hab hp hq (LO_j (by decide) (by decide) (by decide) (by decide) (LO_j (by decide) (by decide) (by decide) (by decide) e2)) (by rw [su_n _ _ _ _ _ (by decide), su_e]) (su_e _ _ _ _) (fun s2 h2 => ?_)
  refine m_worths_e N (by omega) (σ0 := σ) (Out := fun z => ∃ t σ', z = some (t, σ') ∧ RM d σ' ∧ ((t = 0 ∧ (10 < sz (kr d) a (d 0 1) ∨ 10 < sz (kr d) b (d 0 1))) ∨ (t = 1 ∧ sz (kr d) a (d 0 1) ≤ 10 ∧ sz (kr d) b (d 0 1) ≤ 10 ∧ MD d a b σ'))) hd ha hb hab hp hq h2 (fun s3 h3 => ?_)
  refine m_sums_e N hN (σ0 := σ) (Out := fun z => ∃ t σ', z = some (t, σ') ∧ RM d σ' ∧ ((t = 0 ∧ (10 < sz (kr d) a (d 0 1) ∨ 10 < sz (kr d) b (d 0 1))) ∨ (t = 1 ∧ sz (kr d) a (d 0 1) ≤ 10 ∧ sz (kr d) b (d 0 1) ≤ 10 ∧ MD d a b σ'))) hd hp hq h3 (fun s4 h4 hT => ?_)
  obtain ⟨s5, f1, f2, f3, f4, f5, f6, f7⟩ := m_follows_e N (by omega) hd hp hq h4 hT
  have ew : wm d s5 = wm d s4 := by unfold wm; rw [f3, f4]
  have t0 := hT 0 0 (by omega) (Nat.two_pow_pos _)
  rw [f1, bd_k]
  refine ⟨1, s5, rfl, f2.1.1.1, Or.inr ⟨rfl, hp, hq, f2.1.1.1, f2.1.2.1, f2.1.2.2.2.1, f2.1.2.2.2.2, ?_, by rw [ew]; exact f6, by rw [ew]; exact f7⟩⟩
  rw [f5, ew]
  exact t0
theorem w_same {d σx σm : St} {a b : Int} (hR : 0 ≤ d 0 1) (h1 : ML (d 0 1) (kr d) a (σx 27)) (h2 : ML (d 0 1) (kr d) b (σx 28)) (h3 : ML (d 0 1) (kr d) a (σm 18)) (h4 : ML (d 0 1) (kr d) b (σm 19)) : ∀ i j, i < na d a → j < na d b → wx d σx i j = wm d σm i j := by
  intro i j hi hj
  have hza := sz_r (kr d) a hR
  have hzb := sz_r (kr d) b hR
  have hna : ((na d a : Nat) : Int) = sz (kr d) a (d 0 1) := Int.toNat_of_nonneg hza.1
  have hnb : ((na d b : Nat) : Int) = sz (kr d) b (d 0 1) := Int.toNat_of_nonneg hzb.1
  show gn d (σx 27 i) (σx 28 j) = gn d (σm 18 i) (σm 19 j)
  rw [ML_u hR h1 h3 (i := (i : Int)) (by omega) (by omega), ML_u hR h2 h4 (i := (j : Int)) (by omega) (by omega)]
/-- laid, as both answer it -/
theorem laid_e {N : Nat} (hN : 4999 < N) {d σx σm : St} (hx : RX d σx) (hm : RM d σm) (hd : DI d) {a b : Int} (ha : 0 ≤ a ∧ a < 3) (hb : 0 ≤ b ∧ b < 3) (hab : a ≠ b) :
    ∃ t sx sm, x_Laying_lay N a b σx = some (t, sx) ∧ m_lays N a b σm = some (t, sm) ∧ RX d sx ∧ RM d sm ∧ ((t = 0) ∨ (t = 1 ∧ sz (kr d) a (d 0 1) ≤ 10 ∧ sz (kr d) b (d 0 1) ≤ 10 ∧ LD d a b sx ∧ MD d a b sm)) := by
  obtain ⟨t, sx, e1, e2, e3⟩ := x_lay_e N hN hx hd ha hb hab
  obtain ⟨u, sm, f1, f2, f3⟩ := m_lays_e N hN hm hd ha hb hab
  rcases e3 with ⟨t0, g⟩ | ⟨t1, g1, g2, g3⟩
  · rcases f3 with ⟨u0, h⟩ | ⟨u1, h1, h2, h3⟩
    · exact ⟨0, sx, sm, by rw [e1, t0], by rw [f1, u0], e2, f2, Or.inl rfl⟩
    · exfalso; omega
  · rcases f3 with ⟨u0, h⟩ | ⟨u1, h1, h2, h3⟩
    · exfalso; omega
    · exact ⟨1, sx, sm, by rw [e1, t1], by rw [f1, u1], e2, f2, Or.inr ⟨rfl, g1, g2, g3, h3⟩⟩
theorem laid_w {N : Nat} (hN : 4999 < N) {d sx sm : St} (hd : DI d) {a b : Int} (hp : sz (kr d) a (d 0 1) ≤ 10) (hq : sz (kr d) b (d 0 1) ≤ 10) (hL : LD d a b sx) (hM : MD d a b sm) : x_Laying_countMates N sx = some (sm 0 34, sx) ∧ x_Laying_sumOfAll N sx = some (sm 21 0, sx) := by
  have hR := hd.rows
  have hza := sz_r (kr d) a hR.1
  have hna : ((na d a : Nat) : Int) = sz (kr d) a (d 0 1) := Int.toNat_of_nonneg hza.1
  have hw := w_same (σx := sx) (σm := sm) hR.1 hL.1.2.2.2.1 hL.1.2.2.2.2 hM.2.2.1 hM.2.2.2.1
  constructor
  · rw [x_countMates_e N (by omega) hL hd hp hq, hM.2.2.2.2.2.2, dn_c hw hza.1, hna]
  · rw [x_sumOfAll_e N hL hd hp hq, hM.2.2.2.2.1, BB_c hw _ _ (Nat.le_refl _)]
theorem m_areRegisters_e (N : Nat) {a b : Int} (s : St) (ha : i32 a) (hb : i32 b) : m_areRegisters N a b s = some (b01 ((0 ≤ a ∧ a < 3) ∧ (0 ≤ b ∧ b < 3) ∧ a ≠ b), s) := by
  unfold m_areRegisters
  rw [m_in_e N s ha.1 ha.2 (by omega) (by omega) (by omega) (by omega), bd_k, m_in_e N s hb.1 hb.2 (by omega) (by omega) (by omega) (by omega), bd_k]
  simp only [b01_0, itn]
  by_cases c1 : 0 ≤ a ∧ a ≤ 2
  · rw [if_pos c1]
    by_cases c2 : 0 ≤ b ∧ b ≤ 2
    · rw [if_pos c2]
      by_cases c3 : a = b
      · rw [if_pos ((eq32_i (by omega) (by omega) (by omega) (by omega)).mpr c3), b01_f (fun z => z.2.2 c3)]
      · rw [if_neg (fun z => c3 ((eq32_i (by omega) (by omega) (by omega) (by omega)).mp z)), b01_t ⟨by omega, by omega, c3⟩]
    · rw [if_neg c2, b01_f (by omega)]
  · rw [if_neg c1, b01_f (by omega)]
theorem x_laid_e {N : Nat} (hN : 4999 < N) {d σx σm : St} (hx : RX d σx) (hm : RM d σm) (hd : DI d) {a b f : Int} (ha : i32 a) (hb : i32 b) (hf : i32 f) : ∃ r sx sm, x_laid N a b f σx = some (r, sx) ∧ m_laid N a b f σm = some (r, sm) ∧ RX d sx ∧ RM d sm := by
  unfold x_laid m_laid
  rw [x_isBelow_e N σx ha.1 ha.2 (by omega) (by omega), m_areRegisters_e N σm ha hb, bd_k, bd_k, x_isBelow_e N σx hb.1 hb.2 (by omega) (by omega), bd_k, x_isBelow_e N σx hf.1 hf.2 (by omega) (by omega), bd_k, m_in_e N σm hf.1 hf.2 (by omega) (by omega) (by omega) (by omega), bd_k]
  simp only [b01_0, itn]
  by_cases c1 : 0 ≤ a ∧ a < 3
  · by_cases c2 : 0 ≤ b ∧ b < 3
    · by_cases c3 : a = b
      · rw [if_pos c1, if_pos c2, if_pos ((eq32_i (by omega) (by omega) (by omega) (by omega)).mpr c3), if_neg (show ¬ ((0 ≤ a ∧ a < 3) ∧ (0 ≤ b ∧ b < 3) ∧ a ≠ b) from fun z => z.2.2 c3)]
        exact ⟨_, _, _, rfl, rfl, hx, hm⟩
      · rw [if_pos c1, if_pos c2, if_neg (fun z => c3 ((eq32_i (by omega) (by omega) (by omega) (by omega)).mp z)), if_pos (show (0 ≤ a ∧ a < 3) ∧ (0 ≤ b ∧ b < 3) ∧ a ≠ b from ⟨c1, c2, c3⟩)]
        by_cases c4 : 0 ≤ f ∧ f < 2
        · obtain ⟨t, sx, sm, e1, e2, e3, e4, e5⟩ := laid_e hN hx hm hd c1 c2 c3
          rw [if_pos c4, if_pos (show 0 ≤ f ∧ f ≤ 1 by omega), e1, bd_k, e2, bd_k]
          rcases e5 with t0 | ⟨t1, g1, g2, g3, g4⟩
          · rw [if_pos (show eq32 t 0 by rw [t0]), if_pos (show eq32 t 0 by rw [t0])]
            exact ⟨_, _, _, rfl, rfl, e3, e4⟩
          · obtain ⟨w1, w2⟩ := laid_w hN hd g1 g2 g3 g4
            rw [if_neg (show ¬ eq32 t 0 by rw [t1]; decide), if_neg (show ¬ eq32 t 0 by rw [t1]; decide), w1, w2, bd_k, bd_k, gd_k (by omega)]
            by_cases c5 : f = 0
            · rw [if_pos ((eq32_i (by omega) (by omega) (by omega) (by omega)).mpr c5), if_pos ((eq32_i (by omega) (by omega) (by omega) (by omega)).mpr c5)]
              exact ⟨_, _, _, rfl, rfl, e3, e4⟩
            · rw [if_neg (fun z => c5 ((eq32_i (by omega) (by omega) (by omega) (by omega)).mp z)), if_neg (fun z => c5 ((eq32_i (by omega) (by omega) (by omega) (by omega)).mp z))]
              exact ⟨_, _, _, rfl, rfl, e3, e4⟩
        · rw [if_neg c4, if_neg (show ¬ (0 ≤ f ∧ f ≤ 1) by omega)]
          exact ⟨_, _, _, rfl, rfl, hx, hm⟩
    · rw [if_pos c1, if_neg c2, if_neg (show ¬ ((0 ≤ a ∧ a < 3) ∧ (0 ≤ b ∧ b < 3) ∧ a ≠ b) from fun z => c2 z.2.1)]
      exact ⟨_, _, _, rfl, rfl, hx, hm⟩
  · rw [if_neg c1, if_neg (show ¬ ((0 ≤ a ∧ a < 3) ∧ (0 ≤ b ∧ b < 3) ∧ a ≠ b) from fun z => c1 z.1)]
    exact ⟨_, _, _, rfl, rfl, hx, hm⟩
theorem sim_laid {N : Nat} (hN : 4999 < N) {σx σm : St} (h : RR σx σm) : ∀ a : Int, i32 a → ∀ b : Int, i32 b → ∀ f : Int, i32 f → OKp RR (x_laid N a b f σx) (m_laid N a b f σm) := by
  obtain ⟨d, hx, hm, hd⟩ := h
  intro a ha b hb f hf
  obtain ⟨r, sx, sm, e1, e2, e3, e4⟩ := x_laid_e hN hx hm hd ha hb hf
  exact ⟨r, sx, sm, e1, e2, d, e3, e4, hd⟩
theorem sim_mate {N : Nat} (hN : 4999 < N) {σx σm : St} (h : RR σx σm) : ∀ a : Int, i32 a → ∀ b : Int, i32 b → OKp RR (x_mate N a b σx) (m_mate N a b σm) := by
  obtain ⟨d, hx, hm, hd⟩ := h
  intro r hr b hb
  have hR := hd.rows
  unfold x_mate m_mate
  rw [x_Rows_has_e N hr hx hd, m_isRow_e N hr hm hd, bd_k, bd_k]
  simp only [b01_0, itn]
  by_cases c : 0 ≤ r ∧ r < d 0 1
  · have hrow := hd.row r c.1 c.2
    have hk := kn_r d r
    have g : inb r 36 := by omega
    rw [if_pos c, if_pos c, x_isBelow_e N σx hb.1 hb.2 (by omega) (by omega), bd_k, x_Rows_isKnown_e N hx hd c.1 c.2, bd_k, m_isKnown_e N hm hd c.1 c.2, bd_k, xf_0 N hx hd c.1 c.2, bd_k, xf_0 N hx hd c.1 c.2, bd_k]
    simp only [gd_k g]
    rw [hm.1 1 rfl, m_areRegisters_e N σm (a := d 1 r) (by omega) hb, bd_k]
    simp only [b01_0, itn]
    by_cases c2 : 0 ≤ b ∧ b < 3
    · by_cases c3 : kn d r = 0
      · rw [if_pos c2, if_pos ((eq32_i (by omega) (by omega) (by omega) (by omega)).mpr c3), if_pos ((eq32_i (by omega) (by omega) (by omega) (by omega)).mpr c3)]
        exact ⟨_, _, _, rfl, rfl, d, hx, hm, hd⟩
      · rw [if_pos c2, if_neg (fun z => c3 ((eq32_i (by omega) (by omega) (by omega) (by omega)).mp z)), if_neg (fun z => c3 ((eq32_i (by omega) (by omega) (by omega) (by omega)).mp z))]
        by_cases c4 : d 1 r = b
        · rw [if_pos ((eq32_i (by omega) (by omega) (by omega) (by omega)).mpr c4), if_neg (show ¬ ((0 ≤ d 1 r ∧ d 1 r < 3) ∧ (0 ≤ b ∧ b < 3) ∧ d 1 r ≠ b) from fun z => z.2.2 c4)]
          exact ⟨_, _, _, rfl, rfl, d, hx, hm, hd⟩
        · obtain ⟨t, sx, sm, e1, e2, e3, e4, e5⟩ := laid_e hN hx hm hd (a := d 1 r) (by omega) c2 c4
          rw [if_neg (fun z => c4 ((eq32_i (by omega) (by omega) (by omega) (by omega)).mp z)), if_pos (show (0 ≤ d 1 r ∧ d 1 r < 3) ∧ (0 ≤ b ∧ b < 3) ∧ d 1 r ≠ b from ⟨by omega, c2, c4⟩), e1, bd_k, hm.1 1 rfl, e2, bd_k]
          rcases e5 with t0 | ⟨t1, g1, g2, g3, g4⟩
          · rw [if_pos (show eq32 t 0 by rw [t0]), if_pos (show eq32 t 0 by rw [t0])]
            exact ⟨_, _, _, rfl, rfl, d, e3, e4, hd⟩
          · have hra : kr d r = d 1 r := (kr_i (by omega)).mpr ⟨by omega, rfl⟩
            have hza := sz_r (kr d) (d 1 r) hR.1
            have hzb := sz_r (kr d) b hR.1
            have hzr := sz_r (kr d) (d 1 r) c.1
            have hlt := sz_lt (f := kr d) (b := d 1 r) c.1 c.2 hra
            have hna : ((na d (d 1 r) : Nat) : Int) = sz (kr d) (d 1 r) (d 0 1) := Int.toNat_of_nonneg hza.1
            have hnb : ((na d b : Nat) : Int) = sz (kr d) b (d 0 1) := Int.toNat_of_nonneg hzb.1
            have hw := w_same (σx := sx) (σm := sm) hR.1 g3.1.2.2.2.1 g3.1.2.2.2.2 g4.2.2.1 g4.2.2.2.1
            obtain ⟨m1, m2, m3, m4, m5, m6, m7⟩ := g4
            have hdp := m6 (sz (kr d) (d 1 r) r).toNat (by omega)
            rw [← dg_c hw, show (((sz (kr d) (d 1 r) r).toNat : Nat) : Int) = sz (kr d) (d 1 r) r by omega] at hdp
            rw [if_neg (show ¬ eq32 t 0 by rw [t1]; decide), if_neg (show ¬ eq32 t 0 by rw [t1]; decide), x_mateOf_e N (by omega) g3 hd g1 g2 c hra, bd_k]
            have em : itr (m_mate_51 N r) (fun _ _ => none) N 0 sm = some (if sm 22 (sz (kr d) (d 1 r) r) = -1 then -1 else sm 19 (sm 22 (sz (kr d) (d 1 r) r)), sm) := by
              refine lq1 (Out := fun z => z = some (if sm 22 (sz (kr d) (d 1 r) r) = -1 then -1 else sm 19 (sm 22 (sz (kr d) (d 1 r) r)), sm)) (Inv := fun x s => s = sm ∧ 0 ≤ x ∧ x ≤ sz (kr d) (d 1 r) r) (fun x _ => sz (kr d) (d 1 r) r - x) ?_ ?_ N 0 sm ⟨rfl, by omega, by omega⟩ (by omega)
              · rintro k x s ⟨rfl, x0, x1⟩
                have mi := ML_i hR.1 m3 (i := x) (by omega) (by omega)
                have gx : inb x 10 := by omega
                unfold m_mate_51
                rw [m2, if_neg (fun z => by rw [le32_i (by omega) (by omega) (by omega) (by omega)] at z; omega)]
                simp only [gd_k gx]
                by_cases cx : s 18 x = r
                · left
                  have ex : x = sz (kr d) (d 1 r) r := by rw [← cx]; exact (by rw [cx]; exact (by have := mi.2.2.2; rw [cx] at this; exact this.symm))
                  rw [if_pos ((eq32_i (by omega) (by omega) (by omega) (by omega)).mpr cx), ex]
                  rcases hdp with ⟨p1, p2⟩ | ⟨n, p1, p2, p3⟩
                  · rw [p1, if_pos (show eq32 (-1) (-1) from rfl), if_pos rfl]
                  · rw [p1, if_neg (fun z => by rw [eq32_i (by omega) (by omega) (by omega) (by omega)] at z; omega), gd_k (by omega), if_neg (by omega)]
                · right
                  rw [if_neg (fun z => cx ((eq32_i (by omega) (by omega) (by omega) (by omega)).mp z))]
                  refine ⟨x + 1, s, rfl, ⟨rfl, by omega, ?_⟩, by omega⟩
                  by_cases e : x = sz (kr d) (d 1 r) r
                  · exact absurd (by rw [e]; exact m3 r c.1 c.2 hra) cx
                  · omega
              · rintro x s ⟨-, x0, x1⟩; omega
            rw [em]
            have ev : (if 1 ≤ dg (na d (d 1 r)) (na d b) (wx d sx) (sz (kr d) (d 1 r) r).toNat ∧ dg (na d (d 1 r)) (na d b) (wx d sx) (sz (kr d) (d 1 r) r).toNat ≤ sz (kr d) b (d 0 1) then sx 28 (sz (kr d) b (d 0 1) - dg (na d (d 1 r)) (na d b) (wx d sx) (sz (kr d) (d 1 r) r).toNat) else -1) = if sm 22 (sz (kr d) (d 1 r) r) = -1 then -1 else sm 19 (sm 22 (sz (kr d) (d 1 r) r)) := by
              rcases hdp with ⟨p1, p2⟩ | ⟨n, p1, p2, p3⟩
              · rw [p2, p1, if_neg (by omega), if_pos rfl]
              · rw [p3, p1, if_pos (by omega), if_neg (by omega), show sz (kr d) b (d 0 1) - ((na d b : Nat) - (n : Int)) = (n : Int) by omega]
                exact ML_u hR.1 g3.1.2.2.2.2 m4 (by omega) (by omega)
            rw [ev]
            exact ⟨_, _, _, rfl, rfl, d, e3, e4, hd⟩
    · rw [if_neg c2, if_neg (show ¬ ((0 ≤ d 1 r ∧ d 1 r < 3) ∧ (0 ≤ b ∧ b < 3) ∧ d 1 r ≠ b) from fun z => c2 z.2.1)]
      by_cases c3 : kn d r = 0
      · rw [if_pos ((eq32_i (by omega) (by omega) (by omega) (by omega)).mpr c3)]
        exact ⟨_, _, _, rfl, rfl, d, hx, hm, hd⟩
      · rw [if_neg (fun z => c3 ((eq32_i (by omega) (by omega) (by omega) (by omega)).mp z))]
        exact ⟨_, _, _, rfl, rfl, d, hx, hm, hd⟩
  · rw [if_neg c, if_neg c]
    exact ⟨_, _, _, rfl, rfl, d, hx, hm, hd⟩
