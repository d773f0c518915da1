/-! the class hears; type, wipe -/
/-- the class's state but for sounds and slips -/
def QX (d σ : St) : Prop := (σ 3 2 = d 0 1 ∧ σ 3 3 = d 0 0 ∧ σ 3 4 = d 0 10 ∧ σ 5 4 = d 0 12 ∧ σ 5 5 = ft d ∧ σ 6 4 = d 0 24 ∧ σ 10 3 = d 0 37 ∧ σ 1 3 = d 0 51) ∧
  (∀ r, 0 ≤ r → r < d 0 1 → σ 15 (r * 7 + 0) = d 1 r ∧ σ 15 (r * 7 + 1) = d 4 r ∧ σ 15 (r * 7 + 2) = d 5 r ∧ σ 15 (r * 7 + 3) = d 6 r ∧ σ 15 (r * 7 + 4) = d 3 r ∧ σ 15 (r * 7 + 5) = d 7 r ∧ σ 15 (r * 7 + 6) = d 8 r) ∧
  (∀ r k, 0 ≤ r → r < d 0 1 → 0 ≤ k → k < d 3 r → σ 16 (r * 10 + k) = d 2 (10 * r + k)) ∧
  (∀ k, 0 ≤ k → k < d 0 12 → σ 19 k = d 10 k) ∧
  (∀ c, 0 ≤ c → c < 26 → σ 20 c = if fg d c = 0 then -1 else fg d c) ∧
  (∀ a b, 0 ≤ a → a < 8 → 0 ≤ b → b < 8 → a ≠ b → σ 23 (a * 8 + b) = d 9 (8 * a + b)) ∧
  (∀ i, 0 ≤ i → i < 16 → σ 24 i = d 15 i ∧ σ 25 i = d 16 (16 + i) ∧ σ 26 i = d 16 i) ∧
  (∀ k, 0 ≤ k → k < d 0 37 → σ 36 k = min (d 25 k) (d 26 k) ∧ σ 37 k = max (d 25 k) (d 26 k) ∧ σ 38 k = d 27 k) ∧
  (∀ i, 0 ≤ i → i < 4 → σ 12 i = (if d 33 i = 1 then d 34 i else -1) ∧ σ 13 i = d 35 i) ∧
  (∀ i k, 0 ≤ i → i < 4 → 0 ≤ k → k < d 35 i → σ 14 (i * 40 + k) = d 36 (40 * i + k))
def SN (d σ : St) : Prop := ∀ r, 0 ≤ r → r < d 0 1 → σ 22 r = sm d r ∧ ∀ i, 0 ≤ i → i < sm d r → σ 21 (r * 10 + i) = sf d r i
def SL (d σ : St) : Prop := (∀ a b, 0 ≤ a → a < d 0 1 → 0 ≤ b → b < d 0 1 → a ≠ b → σ 17 (a * 36 + b) = sl d a b) ∧ (∀ a, 0 ≤ a → a < 36 → σ 17 (a * 36 + a) = 0)
theorem RX_of {d σ : St} (h : QX d σ) (hs : SN d σ) (hl : SL d σ) : RX d σ :=
  ⟨h.1, h.2.1, h.2.2.1, h.2.2.2.1, h.2.2.2.2.1, hs, hl.1, hl.2, h.2.2.2.2.2.1, h.2.2.2.2.2.2.1, h.2.2.2.2.2.2.2.1, h.2.2.2.2.2.2.2.2.1, h.2.2.2.2.2.2.2.2.2⟩
theorem RX_q {d σ : St} (h : RX d σ) : QX d σ ∧ SN d σ ∧ SL d σ := by
  obtain ⟨a, b1, b2, b3, b4, b5, b6, b7, b8, b9, c1, c2, c3⟩ := h
  exact ⟨⟨a, b1, b2, b3, b4, b8, b9, c1, c2, c3⟩, b5, b6, b7⟩
def yk (k : Nat) : Bool := k == 1 || k == 3 || k == 5 || k == 6 || k == 10 || k == 12 || k == 13 || k == 14 || k == 15 || k == 16 || k == 19 || k == 20 || k == 23 || k == 24 || k == 25 || k == 26 || k == 36 || k == 37 || k == 38
theorem QX_s {d σ σ' : St} (e : ∀ k, yk k = true → σ' k = σ k) (h : QX d σ) : QX d σ' := by
  unfold QX at h ⊢
  simp only [e 1 rfl, e 3 rfl, e 5 rfl, e 6 rfl, e 10 rfl, e 12 rfl, e 13 rfl, e 14 rfl, e 15 rfl, e 16 rfl, e 19 rfl, e 20 rfl, e 23 rfl, e 24 rfl, e 25 rfl, e 26 rfl, e 36 rfl, e 37 rfl, e 38 rfl]
  exact h
theorem x_hear_e (N : Nat) (hN : 100 < N) {d σ : St} (hq : QX d σ) (hd : DI d) {r : Int} (h0 : 0 ≤ r) (h1 : r < d 0 1) : ∃ σ', x_Sounds_hear N r σ = some (0, σ') ∧ (∀ k, k ≠ 21 → k ≠ 22 → σ' k = σ k) ∧ σ' 22 r = sm d r ∧ (∀ i, 0 ≤ i → i < sm d r → σ' 21 (r * 10 + i) = sf d r i) ∧ (∀ x, x ≠ r → σ' 22 x = σ 22 x) ∧ (∀ x, (x < r * 10 ∨ r * 10 + 10 ≤ x) → σ' 21 x = σ 21 x) := by
  have hR := hd.rows
  have hr := hd.row r h0 h1
  have hrow := hq.2.1 r h0 h1
  unfold x_Sounds_hear x_Rows_fact
  rw [gd_k (by omega), hrow.2.2.2.2.1, bd_k]
  refine lq2 (Out := fun z => ∃ σ', z = some (0, σ') ∧ (∀ k, k ≠ 21 → k ≠ 22 → σ' k = σ k) ∧ σ' 22 r = sm d r ∧ (∀ i, 0 ≤ i → i < sm d r → σ' 21 (r * 10 + i) = sf d r i) ∧ (∀ x, x ≠ r → σ' 22 x = σ 22 x) ∧ (∀ x, (x < r * 10 ∨ r * 10 + 10 ≤ x) → σ' 21 x = σ 21 x)) (Inv := fun n x s => (∀ k, k ≠ 21 → s k = σ k) ∧ (∀ x, (x < r * 10 ∨ r * 10 + 10 ≤ x) → s 21 x = σ 21 x) ∧ ∃ k : Nat, x = k ∧ (k : Int) ≤ d 3 r ∧ n = (sst d r k).1 ∧ ∀ i, 0 ≤ i → i < (sst d r k).1 → s 21 (r * 10 + i) = (sst d r k).2 i) (fun _ x _ => d 3 r - x) ?_ ?_ N 0 0 σ ⟨fun _ _ => rfl, fun _ _ => rfl, 0, rfl, by omega, rfl, fun i i0 i1 => by have : (sst d r 0).1 = 0 := rfl; omega⟩ (by omega)
  · rintro kk n x s ⟨g1, g2, k, rfl, hk, rfl, g3⟩
    have hn := sst_n d r k
    unfold x_Sounds_hear_19
    by_cases c : d 3 r ≤ k
    · left
      have e : k = (d 3 r).toNat := by omega
      rw [if_pos ((le32_i (by omega) (by omega) (by omega) (by omega)).mpr c), gd_k (by omega)]
      refine ⟨_, rfl, fun k' a b => by rw [su_k _ _ _ b]; exact g1 k' a, by rw [su_e, e]; rfl, fun i i0 i1 => ?_, fun x hx => by rw [su_n _ _ _ _ _ hx, g1 22 (by decide)], fun x hx => by rw [su_k _ _ _ (by decide)]; exact g2 x hx⟩
      rw [su_k _ _ _ (by decide), g3 i i0 (by rw [e]; exact i1), e]; rfl
    · right
      have hl := hd.let r k h0 h1 (by omega) (by omega)
      have hg := sg_r hd h0 h1 (k := k) (by omega) (by omega)
      have hfr := fg_r d (d 2 (10 * r + (k : Int)) - 97)
      have e16 : s 16 (r * 10 + (k : Int)) = d 2 (10 * r + k) := by rw [g1 16 (by decide)]; exact hq.2.2.1 r k h0 h1 (by omega) (by omega)
      have e20 : s 20 (d 2 (10 * r + (k : Int)) - 97) = if fg d (d 2 (10 * r + (k : Int)) - 97) = 0 then -1 else fg d (d 2 (10 * r + (k : Int)) - 97) := by rw [g1 20 (by decide)]; exact hq.2.2.2.2.1 _ (by omega) (by omega)
      have ek : ((k : Nat) : Int) + 1 = ((k + 1 : Nat) : Int) := by omega
      have key : ∃ a' b' σ', x_Sounds_hear_51 N kk r (r * 10) (sst d r k).1 (d 3 r) k (sg d r k) s = kk a' b' σ' ∧ ((∀ k, k ≠ 21 → σ' k = σ k) ∧ (∀ x, (x < r * 10 ∨ r * 10 + 10 ≤ x) → σ' 21 x = σ 21 x) ∧ ∃ k : Nat, b' = k ∧ (k : Int) ≤ d 3 r ∧ a' = (sst d r k).1 ∧ ∀ i, 0 ≤ i → i < (sst d r k).1 → σ' 21 (r * 10 + i) = (sst d r k).2 i) ∧ d 3 r - b' < d 3 r - (k : Int) := by
        have stay : ¬ (sg d r k ≠ 48 ∧ ((sst d r k).1 = 0 ∨ (sst d r k).2 ((sst d r k).1 - 1) ≠ sg d r k)) → ∃ a' b' σ', kk (sst d r k).1 ((k : Int) + 1) s = kk a' b' σ' ∧ ((∀ k, k ≠ 21 → σ' k = σ k) ∧ (∀ x, (x < r * 10 ∨ r * 10 + 10 ≤ x) → σ' 21 x = σ 21 x) ∧ ∃ k : Nat, b' = k ∧ (k : Int) ≤ d 3 r ∧ a' = (sst d r k).1 ∧ ∀ i, 0 ≤ i → i < (sst d r k).1 → σ' 21 (r * 10 + i) = (sst d r k).2 i) ∧ d 3 r - b' < d 3 r - (k : Int) := by
          intro hc
          have e1 : sst d r (k + 1) = sst d r k := by rw [sst, if_neg hc]
          exact ⟨_, _, s, rfl, ⟨g1, g2, k + 1, by omega, by omega, by rw [e1], by rw [e1]; exact g3⟩, by omega⟩
        have go : (sg d r k ≠ 48 ∧ ((sst d r k).1 = 0 ∨ (sst d r k).2 ((sst d r k).1 - 1) ≠ sg d r k)) → ∃ a' b' σ', x_Sounds_hear_81 N kk r (r * 10) (sst d r k).1 (d 3 r) k (sg d r k) s = kk a' b' σ' ∧ ((∀ k, k ≠ 21 → σ' k = σ k) ∧ (∀ x, (x < r * 10 ∨ r * 10 + 10 ≤ x) → σ' 21 x = σ 21 x) ∧ ∃ k : Nat, b' = k ∧ (k : Int) ≤ d 3 r ∧ a' = (sst d r k).1 ∧ ∀ i, 0 ≤ i → i < (sst d r k).1 → σ' 21 (r * 10 + i) = (sst d r k).2 i) ∧ d 3 r - b' < d 3 r - (k : Int) := by
          intro hc
          have e1 : (sst d r (k + 1)).1 = (sst d r k).1 + 1 := by rw [sst, if_pos hc]
          have e2 : ∀ i, (sst d r (k + 1)).2 i = if i = (sst d r k).1 then sg d r k else (sst d r k).2 i := by intro i; rw [sst, if_pos hc]
          unfold x_Sounds_hear_81 x_Sounds_hear_95
          rw [gd_k (by omega)]
          refine ⟨_, _, _, rfl, ⟨fun k' a => by rw [su_k _ _ _ a]; exact g1 k' a, fun x hx => by rw [su_n _ _ _ _ _ (by omega)]; exact g2 x hx, k + 1, by omega, by omega, by rw [e1], fun i i0 i1 => ?_⟩, by omega⟩
          rw [e2, su_r]
          by_cases e : i = (sst d r k).1
          · rw [if_pos e, if_pos (by omega)]
          · rw [if_neg e, if_neg (by omega)]; exact g3 i i0 (by omega)
        unfold x_Sounds_hear_51 x_Sounds_hear_95
        by_cases c1 : sg d r k = 48
        · rw [if_pos ((eq32_i (by omega) (by omega) (by omega) (by omega)).mpr c1)]
          exact stay (fun z => z.1 c1)
        rw [if_neg (fun z => c1 ((eq32_i (by omega) (by omega) (by omega) (by omega)).mp z))]
        by_cases c2 : (sst d r k).1 = 0
        · rw [if_pos ((eq32_i (by omega) (by omega) (by omega) (by omega)).mpr c2)]
          exact go ⟨c1, Or.inl c2⟩
        have hv := g3 ((sst d r k).1 - 1) (by omega) (by omega)
        have hv2 := sst_r hd h0 h1 k hk ((sst d r k).1 - 1) (by omega) (by omega)
        rw [if_neg (fun z => c2 ((eq32_i (by omega) (by omega) (by omega) (by omega)).mp z)), gd_k (by omega), show r * 10 + (sst d r k).1 - 1 = r * 10 + ((sst d r k).1 - 1) by omega, hv]
        by_cases c3 : (sst d r k).2 ((sst d r k).1 - 1) = sg d r k
        · rw [if_pos ((eq32_i (by omega) (by omega) (by omega) (by omega)).mpr c3)]
          exact stay (fun z => z.2.elim c2 (fun y => y c3))
        · rw [if_neg (fun z => c3 ((eq32_i (by omega) (by omega) (by omega) (by omega)).mp z))]
          exact go ⟨c1, Or.inr c3⟩
      unfold x_Rows_letterAt x_Sounds_signFor
      rw [if_neg (fun z => c ((le32_i (by omega) (by omega) (by omega) (by omega)).mp z)), gd_k (by omega), bd_k, e16, gd_k (by omega), e20]
      by_cases c1 : (k : Int) = 0
      · have e : d 2 (10 * r + (k : Int)) = sg d r k := by unfold sg; rw [if_pos (Or.inl c1)]
        rw [if_pos ((eq32_i (by omega) (by omega) (by omega) (by omega)).mpr c1), e]; exact key
      · rw [if_neg (fun z => c1 ((eq32_i (by omega) (by omega) (by omega) (by omega)).mp z))]
        by_cases c2 : fg d (d 2 (10 * r + (k : Int)) - 97) = 0
        · have e : d 2 (10 * r + (k : Int)) = sg d r k := by unfold sg; rw [if_pos (Or.inr c2)]
          rw [if_pos c2, if_pos (show eq32 (-1) (-1) from rfl), bd_k, e]; exact key
        · have e : fg d (d 2 (10 * r + (k : Int)) - 97) = sg d r k := by unfold sg; rw [if_neg (fun z => z.elim c1 c2)]
          rw [if_neg c2, if_neg (fun z => by rw [eq32_i (by omega) (by omega) (by omega) (by omega)] at z; omega), bd_k, e]; exact key
  · rintro n x s ⟨-, -, k, rfl, hk, -⟩; omega
theorem x_hearAll_e (N : Nat) (hN : 100 < N) {d σ : St} (hq : QX d σ) (hd : DI d) : ∃ σ', x_Sounds_hearAll N σ = some (0, σ') ∧ (∀ k, k ≠ 21 → k ≠ 22 → σ' k = σ k) ∧ SN d σ' := by
  have hR := hd.rows
  unfold x_Sounds_hearAll
  refine lq1 (Out := fun z => ∃ σ', z = some (0, σ') ∧ (∀ k, k ≠ 21 → k ≠ 22 → σ' k = σ k) ∧ SN d σ') (Inv := fun a s => (∀ k, k ≠ 21 → k ≠ 22 → s k = σ k) ∧ 0 ≤ a ∧ a ≤ d 0 1 ∧ ∀ r, 0 ≤ r → r < a → s 22 r = sm d r ∧ ∀ i, 0 ≤ i → i < sm d r → s 21 (r * 10 + i) = sf d r i) (fun a _ => d 0 1 - a) ?_ ?_ N 0 σ ⟨fun _ _ _ => rfl, by omega, by omega, fun r _ _ => by omega⟩ (by omega)
  · rintro k a s ⟨h1, a0, a1, h2⟩
    have hqs : QX d s := QX_s (fun k hk => h1 k (fun e => by rw [e] at hk; cases hk) (fun e => by rw [e] at hk; cases hk)) hq
    unfold x_Sounds_hearAll_2
    rw [hqs.1.1]
    by_cases c : d 0 1 ≤ a
    · left
      rw [if_pos ((le32_i (by omega) (by omega) (by omega) (by omega)).mpr c)]
      exact ⟨s, rfl, h1, fun r r0 r1 => h2 r r0 (by omega)⟩
    · right
      obtain ⟨s', q1, q2, q3, q4, q5, q6⟩ := x_hear_e N hN hqs hd a0 (show a < d 0 1 by omega)
      rw [if_neg (fun z => c ((le32_i (by omega) (by omega) (by omega) (by omega)).mp z)), q1, bd_k]
      refine ⟨a + 1, s', rfl, ⟨fun k a b => (q2 k a b).trans (h1 k a b), by omega, by omega, fun r r0 r1 => ?_⟩, by omega⟩
      by_cases e : r = a
      · rw [e]; exact ⟨q3, q4⟩
      · obtain ⟨t1, t2⟩ := h2 r r0 (by omega)
        have hs := sm_r hd r0 (show r < d 0 1 by omega)
        refine ⟨by rw [q5 r e]; exact t1, fun i i0 i1 => ?_⟩
        rw [q6 _ (by omega)]; exact t2 i i0 i1
  · rintro a s ⟨-, a0, a1, -⟩; omega
/-- the class after its text has changed: read anew, heard anew -/
theorem x_again_e (N : Nat) (hN : 100 < N) {d d' σ : St} (hx : RX d σ) (hd' : DI d') (e0 : ∀ j, j ≠ 12 → d' 0 j = d 0 j) (ek : ∀ k : Nat, k ≠ 0 → k ≠ 10 → d' k = d k) {σ1 : St} (hT : TX d' σ1) (f1 : ∀ k, k ≠ 5 → k ≠ 19 → σ1 k = σ k) (f5 : ∀ j, j ≠ 4 → j ≠ 5 → σ1 5 j = σ 5 j) :
    ∃ s1 s2, x_Sounds_read N σ1 = some (0, s1) ∧ x_Sounds_hearAll N s1 = some (0, s2) ∧ RX d' s2 := by
  obtain ⟨s1, r1, r2, r3, r4⟩ := x_read_e N hN hT hd'
  obtain ⟨hq, hs, hl⟩ := RX_q hx
  have hq' : QX d' s1 := by
    have g : ∀ k, k ≠ 5 → k ≠ 19 → k ≠ 20 → s1 k = σ k := fun k a b c => (r3 k a c).trans (f1 k a b)
    obtain ⟨⟨a1, a2, a3, a4, a5, a6, a7, a8⟩, b1, b2, b3, b4, b8, b9, c1, c2, c3⟩ := hq
    unfold QX
    rw [e0 1 (by decide), e0 0 (by decide), e0 10 (by decide), e0 24 (by decide), e0 37 (by decide), e0 51 (by decide), ek 1 (by decide) (by decide), ek 2 (by decide) (by decide), ek 3 (by decide) (by decide), ek 4 (by decide) (by decide), ek 5 (by decide) (by decide), ek 6 (by decide) (by decide), ek 7 (by decide) (by decide), ek 8 (by decide) (by decide), ek 9 (by decide) (by decide), ek 15 (by decide) (by decide), ek 16 (by decide) (by decide), ek 25 (by decide) (by decide), ek 26 (by decide) (by decide), ek 27 (by decide) (by decide), ek 33 (by decide) (by decide), ek 34 (by decide) (by decide), ek 35 (by decide) (by decide), ek 36 (by decide) (by decide)]
    rw [g 3 (by decide) (by decide) (by decide), g 6 (by decide) (by decide) (by decide), g 10 (by decide) (by decide) (by decide), g 1 (by decide) (by decide) (by decide), g 15 (by decide) (by decide) (by decide), g 16 (by decide) (by decide) (by decide), g 23 (by decide) (by decide) (by decide), g 24 (by decide) (by decide) (by decide), g 25 (by decide) (by decide) (by decide), g 26 (by decide) (by decide) (by decide), g 36 (by decide) (by decide) (by decide), g 37 (by decide) (by decide) (by decide), g 38 (by decide) (by decide) (by decide), g 12 (by decide) (by decide) (by decide), g 13 (by decide) (by decide) (by decide), g 14 (by decide) (by decide) (by decide)]
    exact ⟨⟨a1, a2, a3, by rw [r4 4 (by decide)]; exact hT.1, r2.1, a6, a7, a8⟩, b1, b2, fun k k0 k1 => by rw [r3 19 (by decide) (by decide)]; exact hT.2 k k0 k1, r2.2, b8, b9, c1, c2, c3⟩
  obtain ⟨s2, q1, q2, q3⟩ := x_hearAll_e N hN hq' hd'
  refine ⟨s1, s2, r1, q1, RX_of (QX_s (fun k hk => q2 k (fun e => by rw [e] at hk; cases hk) (fun e => by rw [e] at hk; cases hk)) hq') q3 ?_⟩
  have e17 : s2 17 = σ 17 := by rw [q2 17 (by decide) (by decide), r3 17 (by decide) (by decide), f1 17 (by decide) (by decide)]
  have esl : ∀ a b, sl d' a b = sl d a b := fun a b => by unfold sl; rw [ek 2 (by decide) (by decide), ek 3 (by decide) (by decide)]
  unfold SL
  rw [e17, e0 1 (by decide)]
  exact ⟨fun a b a0 a1 b0 b1 hab => by rw [esl]; exact hl.1 a b a0 a1 b0 b1 hab, hl.2⟩
theorem DI_txt {d d' : St} (hd : DI d) (e0 : ∀ j, j ≠ 12 → d' 0 j = d 0 j) (ek : ∀ k : Nat, k ≠ 0 → k ≠ 10 → d' k = d k) (h12 : 0 ≤ d' 0 12 ∧ d' 0 12 ≤ 80) (ht : ∀ k, 0 ≤ k → k < d' 0 12 → 0 ≤ d' 10 k ∧ d' 10 k ≤ 255) : DI d' := by
  obtain ⟨q1, q2, q3, q4, q5, q6, q7, q8, q9, q10, q11, q12, q13, q14, q15, q16⟩ := hd
  unfold DI
  rw [e0 1 (by decide), e0 0 (by decide), e0 10 (by decide), e0 24 (by decide), e0 37 (by decide), ek 1 (by decide) (by decide), ek 2 (by decide) (by decide), ek 3 (by decide) (by decide), ek 4 (by decide) (by decide), ek 5 (by decide) (by decide), ek 6 (by decide) (by decide), ek 7 (by decide) (by decide), ek 8 (by decide) (by decide), ek 9 (by decide) (by decide), ek 15 (by decide) (by decide), ek 16 (by decide) (by decide), ek 25 (by decide) (by decide), ek 26 (by decide) (by decide), ek 27 (by decide) (by decide), ek 33 (by decide) (by decide), ek 34 (by decide) (by decide), ek 35 (by decide) (by decide), ek 36 (by decide) (by decide)]
  exact ⟨q1, q2, q3, h12, q5, q6, q7, q8, q9, q10, ht, q12, q13, q14, q15, q16⟩
theorem RM_txt {d d' σ σ' : St} (hm : RM d σ) (e0 : ∀ j, j ≠ 12 → d' 0 j = d 0 j) (ek : ∀ k : Nat, k ≠ 0 → k ≠ 10 → d' k = d k) (f0 : ∀ j, j ≠ 12 → j ≠ 15 → σ' 0 j = σ 0 j) (fk : ∀ k : Nat, k ≠ 0 → k ≠ 10 → σ' k = σ k) (h12 : σ' 0 12 = d' 0 12) (h10 : σ' 10 = d' 10) (h15 : σ' 0 15 = 0) : RM d' σ' := by
  refine ⟨fun k hk => ?_, fun j hj => ?_, Or.inl h15⟩
  · by_cases e : k = 10
    · rw [e]; exact h10
    · have k0 : k ≠ 0 := fun e => by rw [e] at hk; cases hk
      rw [fk k k0 e, ek k k0 e]; exact hm.1 k hk
  · by_cases e : j = 12
    · rw [e]; exact h12
    · rw [f0 j e (fun e => by rw [e] at hj; cases hj), e0 j e]; exact hm.2.1 j hj
theorem sim_type {N : Nat} (hN : 100 < N) {σx σm : St} (h : RR σx σm) : ∀ a : Int, i32 a → OKp RR (x_type N a σx) (m_type N a σm) := by
  obtain ⟨d, hx, hm, hd⟩ := h
  intro a ha
  have hn := hd.typed
  unfold x_type m_type
  rw [x_isWithin_e N σx ha.1 ha.2 (by omega) (by omega) (by omega) (by omega), m_in_e N σm ha.1 ha.2 (by omega) (by omega) (by omega) (by omega), bd_k, bd_k]
  simp only [b01_0, itn]
  by_cases c : 0 ≤ a ∧ a ≤ 255
  · rw [if_pos c, if_pos c, hx.typed, hm.2.1 12 rfl]
    by_cases c2 : d 0 12 < 80
    · have g : inb (d 0 12) 80 := by omega
      have e0 : ∀ j, j ≠ 12 → (su (su d 10 (d 0 12) a) 0 12 (d 0 12 + 1)) 0 j = d 0 j := fun j hj => by rw [su_n _ _ _ _ _ hj, su_k _ _ _ (by decide)]
      have ek : ∀ k : Nat, k ≠ 0 → k ≠ 10 → (su (su d 10 (d 0 12) a) 0 12 (d 0 12 + 1)) k = d k := fun k h0 h10 => by rw [su_k _ _ _ h0, su_k _ _ _ h10]
      have e12 : (su (su d 10 (d 0 12) a) 0 12 (d 0 12 + 1)) 0 12 = d 0 12 + 1 := su_e _ _ _ _
      have e10 : ∀ k, (su (su d 10 (d 0 12) a) 0 12 (d 0 12 + 1)) 10 k = if k = d 0 12 then a else d 10 k := fun k => by rw [su_k _ _ _ (by decide), su_r]
      have hd' : DI (su (su d 10 (d 0 12) a) 0 12 (d 0 12 + 1)) := DI_txt hd e0 ek (by rw [e12]; omega) (fun k k0 k1 => by
        rw [e12] at k1
        rw [e10]
        by_cases e : k = d 0 12
        · rw [if_pos e]; exact c
        · rw [if_neg e]; exact hd.txt k k0 (by omega))
      have hT : TX (su (su d 10 (d 0 12) a) 0 12 (d 0 12 + 1)) (su (su σx 19 (d 0 12) a) 5 4 (d 0 12 + 1)) := by
        refine ⟨by rw [su_e, e12], fun k k0 k1 => ?_⟩
        rw [e12] at k1
        rw [e10, su_k _ _ _ (by decide), su_r]
        by_cases e : k = d 0 12
        · rw [if_pos e, if_pos e]
        · rw [if_neg e, if_neg e]; exact hx.txt k k0 (by omega)
      obtain ⟨s1, s2, q1, q2, q3⟩ := x_again_e N hN hx hd' e0 ek hT (fun k h5 h19 => by rw [su_k _ _ _ h5, su_k _ _ _ h19]) (fun j h4 _ => by rw [su_n _ _ _ _ _ h4, su_k _ _ _ (by decide)])
      unfold x_Sounds_addByte
      rw [hx.typed, if_pos ((lt32_i (by omega) (by omega) (by omega) (by omega)).mpr c2), if_neg (fun z => by rw [le32_i (by omega) (by omega) (by omega) (by omega)] at z; omega), if_neg (fun z => by rw [eq32_i (by omega) (by omega) (by omega) (by omega)] at z; omega), gd_k g, gd_k g, su_k _ _ _ (show 5 ≠ 19 by decide), hx.typed, q1, bd_k, bd_k, q2, bd_k, q3.typed, e12, su_k _ _ _ (show 0 ≠ 10 by decide), hm.2.1 12 rfl]
      refine ⟨_, _, su (su (su σm 10 (d 0 12) a) 0 12 (d 0 12 + 1)) 0 15 0, rfl, ?_, _, q3, ?_, hd'⟩
      · rw [su_n _ _ _ _ _ (by decide), su_e]
      · refine RM_txt hm e0 ek (fun j h12 h15 => by rw [su_n _ _ _ _ _ h15, su_n _ _ _ _ _ h12, su_k _ _ _ (by decide)]) (fun k h0 h10 => by rw [su_k _ _ _ h0, su_k _ _ _ h0, su_k _ _ _ h10]) (by rw [su_n _ _ _ _ _ (by decide), su_e, e12]) ?_ (su_e _ _ _ _)
        funext k
        rw [e10, su_k _ _ _ (by decide), su_k _ _ _ (by decide), su_r, hm.1 10 rfl]
    · rw [if_neg (fun z => c2 ((lt32_i (by omega) (by omega) (by omega) (by omega)).mp z)), if_pos ((eq32_i (by omega) (by omega) (by omega) (by omega)).mpr (by omega))]
      exact ⟨_, _, _, rfl, rfl, d, hx, hm, hd⟩
  · rw [if_neg c, if_neg c]
    exact ⟨_, _, _, rfl, rfl, d, hx, hm, hd⟩
theorem sim_wipe {N : Nat} (hN : 100 < N) {σx σm : St} (h : RR σx σm) : OKp RR (x_wipe N σx) (m_wipe N σm) := by
  obtain ⟨d, hx, hm, hd⟩ := h
  have hn := hd.typed
  have e0 : ∀ j, j ≠ 12 → (su d 0 12 0) 0 j = d 0 j := fun j hj => by rw [su_n _ _ _ _ _ hj]
  have ek : ∀ k : Nat, k ≠ 0 → k ≠ 10 → (su d 0 12 0) k = d k := fun k h0 _ => by rw [su_k _ _ _ h0]
  have e12 : (su d 0 12 0) 0 12 = 0 := su_e _ _ _ _
  have hd' : DI (su d 0 12 0) := DI_txt hd e0 ek (by rw [e12]; omega) (fun k k0 k1 => by rw [e12] at k1; omega)
  have hT : TX (su d 0 12 0) (su σx 5 4 0) := ⟨by rw [su_e, e12], fun k k0 k1 => by rw [e12] at k1; omega⟩
  obtain ⟨s1, s2, q1, q2, q3⟩ := x_again_e N hN hx hd' e0 ek hT (fun k h5 _ => by rw [su_k _ _ _ h5]) (fun j h4 _ => by rw [su_n _ _ _ _ _ h4])
  unfold x_wipe m_wipe x_Sounds_empty
  rw [q1, bd_k, bd_k, q2, bd_k, hx.typed, hm.2.1 12 rfl]
  refine ⟨_, _, _, rfl, rfl, _, q3, ?_, hd'⟩
  refine RM_txt hm e0 ek (fun j h12 h15 => by rw [su_n _ _ _ _ _ h15, su_n _ _ _ _ _ h12]) (fun k h0 _ => by rw [su_k _ _ _ h0, su_k _ _ _ h0]) (by rw [su_n _ _ _ _ _ (by decide), su_e, e12]) ?_ (su_e _ _ _ _)
  rw [su_k _ _ _ (by decide), su_k _ _ _ (by decide), su_k _ _ _ (by decide)]
  exact hm.1 10 rfl
