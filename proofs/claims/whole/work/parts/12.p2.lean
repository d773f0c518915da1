/-- two common states with one text, one set of names -/
def sam (d d' : St) : Prop := d' 2 = d 2 ∧ d' 3 = d 3 ∧ d' 10 = d 10 ∧ d' 0 12 = d 0 12
theorem sam_ft {d d' : St} (h : sam d d') : ft d' = ft d := by unfold ft; rw [h.2.2.1, h.2.2.2]
theorem sam_fg {d d' : St} (h : sam d d') : fg d' = fg d := by funext c; unfold fg; rw [sam_ft h, h.2.2.1, h.2.2.2]
theorem sam_sg {d d' : St} (h : sam d d') (r k : Int) : sg d' r k = sg d r k := by unfold sg; rw [sam_fg h, h.1]
theorem sam_sst {d d' : St} (h : sam d d') (r : Int) (n : Nat) : sst d' r n = sst d r n := by
  induction n with
  | zero => rfl
  | succ n ih => unfold sst; rw [ih, sam_sg h]
theorem sam_sm {d d' : St} (h : sam d d') : sm d' = sm d := by funext r; unfold sm; rw [sam_sst h, h.2.1]
theorem sam_sf {d d' : St} (h : sam d d') : sf d' = sf d := by funext r; unfold sf; rw [sam_sst h, h.2.1]
theorem sam_sl {d d' : St} (h : sam d d') : sl d' = sl d := by funext a b; unfold sl; rw [h.1, h.2.1]
theorem sam_k {d : St} {k : Nat} {i v : Int} (h : k ≠ 0 ∧ k ≠ 2 ∧ k ≠ 3 ∧ k ≠ 10) : sam d (su d k i v) := ⟨su_k d i v (Ne.symm h.2.1), su_k d i v (Ne.symm h.2.2.1), su_k d i v (Ne.symm h.2.2.2), by rw [su_k d i v (Ne.symm h.1)]⟩
theorem sam_j {d : St} {j v : Int} (h : j ≠ 12) : sam d (su d 0 j v) := ⟨su_k d j v (by decide), su_k d j v (by decide), su_k d j v (by decide), su_n d 0 j v 12 (Ne.symm h)⟩
theorem sam_t {d d' d'' : St} (h : sam d d') (g : sam d' d'') : sam d d'' := ⟨g.1.trans h.1, g.2.1.trans h.2.1, g.2.2.1.trans h.2.2.1, g.2.2.2.trans h.2.2.2⟩
/-- the class's cells of which RX speaks -/
def xk (k : Nat) : Bool := k == 1 || k == 3 || k == 5 || k == 6 || k == 10 || k == 12 || k == 13 || k == 14 || k == 15 || k == 16 || k == 17 || k == 19 || k == 20 || k == 21 || k == 22 || k == 23 || k == 24 || k == 25 || k == 26 || k == 36 || k == 37 || k == 38
theorem RX_s {d σ σ' : St} (e : ∀ k, xk k = true → σ' k = σ k) (h : RX d σ) : RX d σ' := by
  unfold RX at h ⊢
  simp only [e 1 rfl, e 3 rfl, e 5 rfl, e 6 rfl, e 10 rfl, e 12 rfl, e 13 rfl, e 14 rfl, e 15 rfl, e 16 rfl, e 17 rfl, e 19 rfl, e 20 rfl, e 21 rfl, e 22 rfl, e 23 rfl, e 24 rfl, e 25 rfl, e 26 rfl, e 36 rfl, e 37 rfl, e 38 rfl]
  exact h
theorem RX_k {d σ : St} {k : Nat} {i v : Int} (hk : xk k = false) (h : RX d σ) : RX d (su σ k i v) :=
  RX_s (fun k' h' => su_k σ i v (fun e => by rw [e, hk] at h'; cases h')) h
theorem RX_day {d σ : St} {v : Int} (h : RX d σ) : RX (su d 0 0 v) (su σ 3 3 v) := by
  have S : sam d (su d 0 0 v) := sam_j (by decide)
  obtain ⟨⟨a1, a2, a3, a4, a5, a6, a7, a8⟩, b1, b2, b3, b4, b5, b6, b7, b8, b9, c1, c2, c3⟩ := h
  unfold RX
  simp (disch := decide) only [sam_ft S, sam_fg S, sam_sm S, sam_sf S, sam_sl S, su_k, su_e, su_n]
  repeat' apply And.intro
  all_goals first | assumption | trivial
theorem RX_asof {d σ : St} {v : Int} (h : RX d σ) : RX (su d 0 10 v) (su σ 3 4 v) := by
  have S : sam d (su d 0 10 v) := sam_j (by decide)
  obtain ⟨⟨a1, a2, a3, a4, a5, a6, a7, a8⟩, b1, b2, b3, b4, b5, b6, b7, b8, b9, c1, c2, c3⟩ := h
  unfold RX
  simp (disch := decide) only [sam_ft S, sam_fg S, sam_sm S, sam_sf S, sam_sl S, su_k, su_e, su_n]
  repeat' apply And.intro
  all_goals first | assumption | trivial
theorem RX_line {d σ : St} {v : Int} (h : RX d σ) : RX (su d 0 24 v) (su σ 6 4 v) := by
  have S : sam d (su d 0 24 v) := sam_j (by decide)
  obtain ⟨⟨a1, a2, a3, a4, a5, a6, a7, a8⟩, b1, b2, b3, b4, b5, b6, b7, b8, b9, c1, c2, c3⟩ := h
  unfold RX
  simp (disch := decide) only [sam_ft S, sam_fg S, sam_sm S, sam_sf S, sam_sl S, su_k, su_e, su_n]
  repeat' apply And.intro
  all_goals first | assumption | trivial
theorem RX_fnd {d σ : St} {v : Int} (h : RX d σ) : RX (su d 0 51 v) (su σ 1 3 v) := by
  have S : sam d (su d 0 51 v) := sam_j (by decide)
  obtain ⟨⟨a1, a2, a3, a4, a5, a6, a7, a8⟩, b1, b2, b3, b4, b5, b6, b7, b8, b9, c1, c2, c3⟩ := h
  unfold RX
  simp (disch := decide) only [sam_ft S, sam_fg S, sam_sm S, sam_sf S, sam_sl S, su_k, su_e, su_n]
  repeat' apply And.intro
  all_goals first | assumption | trivial
theorem sim_pass {N : Nat} {σx σm : St} (h : RR σx σm) : ∀ a : Int, i32 a → OKp RR (x_pass N a σx) (m_pass N a σm) := by
  obtain ⟨d, hx, hm, hd⟩ := h
  intro a ha
  have h1 := hd.day
  have ex := hx.day
  have em := hm.2.1 0 rfl
  have e1 : x_pass N a σx = if 1 ≤ a ∧ a ≤ 100 ∧ d 0 0 + a ≤ 399 then some (d 0 0 + a, su σx 3 3 (d 0 0 + a)) else some (-2, σx) := by
    unfold x_pass
    rw [x_isWithin_e N σx (by omega) (by omega) (by omega) (by omega) (by omega) (by omega)]
    simp only [bd_k, b01_0, ex, su_e]
    by_cases c : 1 ≤ a ∧ a ≤ 100
    · rw [if_neg (fun z => z c)]
      simp (disch := omega) only [le32_i]
      by_cases c2 : d 0 0 + a ≤ 399
      · rw [if_pos c2, if_pos (by omega)]
      · rw [if_neg c2, if_neg (by omega)]
    · rw [if_pos c, if_neg (by omega)]
  have e2 : m_pass N a σm = if 1 ≤ a ∧ a ≤ 100 ∧ d 0 0 + a ≤ 399 then some (d 0 0 + a, su σm 0 0 (d 0 0 + a)) else some (-2, σm) := by
    unfold m_pass
    rw [m_in_e N σm (by omega) (by omega) (by omega) (by omega) (by omega) (by omega)]
    simp only [bd_k, b01_0, em, su_e]
    by_cases c : 1 ≤ a ∧ a ≤ 100
    · rw [if_neg (fun z => z c)]
      simp (disch := omega) only [le32_i]
      by_cases c2 : d 0 0 + a ≤ 399
      · rw [if_pos c2, if_pos (by omega)]
      · rw [if_neg c2, if_neg (by omega)]
    · rw [if_pos c, if_neg (by omega)]
  rw [e1, e2]
  by_cases c : 1 ≤ a ∧ a ≤ 100 ∧ d 0 0 + a ≤ 399
  · rw [if_pos c, if_pos c]
    refine ⟨_, _, _, rfl, rfl, su d 0 0 (d 0 0 + a), RX_day hx, RM_uj (by decide) (by decide) (by decide) hm, ?_⟩
    unfold DI at hd ⊢
    simp (disch := decide) only [su_k, su_e, su_n]
    exact ⟨by omega, hd.2⟩
  · rw [if_neg c, if_neg c]
    exact ⟨_, _, _, rfl, rfl, d, hx, hm, hd⟩
