/-! THE SOUND of a name, SLIPS, and the relation of the class's state to the common one -/
def sg (d : St) (r k : Int) : Int := if k = 0 ∨ fg d (d 2 (10 * r + k) - 97) = 0 then d 2 (10 * r + k) else fg d (d 2 (10 * r + k) - 97)
def sst (d : St) (r : Int) : Nat → Int × (Int → Int)
  | 0 => (0, fun _ => 0)
  | k + 1 => if sg d r k ≠ 48 ∧ ((sst d r k).1 = 0 ∨ (sst d r k).2 ((sst d r k).1 - 1) ≠ sg d r k) then ((sst d r k).1 + 1, fun j => if j = (sst d r k).1 then sg d r k else (sst d r k).2 j) else sst d r k
/-- how many signs THE SOUND of row r has, and which -/
def sm (d : St) (r : Int) : Int := (sst d r (d 3 r).toNat).1
def sf (d : St) (r : Int) : Int → Int := (sst d r (d 3 r).toNat).2
def osa (f g : Nat → Int) : Nat → Nat → Int
  | 0, j => j
  | i + 1, 0 => i + 1
  | i + 1, j + 1 => if 1 ≤ i ∧ 1 ≤ j ∧ f i = g (j - 1) ∧ g j = f (i - 1) then min (min (min (osa f g i (j + 1)) (osa f g (i + 1) j) + 1) (osa f g i j + (if f i = g j then 0 else 1))) (osa f g (i - 1) (j - 1) + 1) else min (min (osa f g i (j + 1)) (osa f g (i + 1) j) + 1) (osa f g i j + (if f i = g j then 0 else 1))
termination_by i j => i + j
decreasing_by all_goals omega
def sl (d : St) (a b : Int) : Int := osa (fun i => d 2 (10 * a + i)) (fun i => d 2 (10 * b + i)) (d 3 a).toNat (d 3 b).toNat
def RX (d σ : St) : Prop := (σ 3 2 = d 0 1 ∧ σ 3 3 = d 0 0 ∧ σ 3 4 = d 0 10 ∧ σ 5 4 = d 0 12 ∧ σ 5 5 = ft d ∧ σ 6 4 = d 0 24 ∧ σ 10 3 = d 0 37 ∧ σ 1 3 = d 0 51) ∧
  (∀ r, 0 ≤ r → r < d 0 1 → σ 15 (r * 7 + 0) = d 1 r ∧ σ 15 (r * 7 + 1) = d 4 r ∧ σ 15 (r * 7 + 2) = d 5 r ∧ σ 15 (r * 7 + 3) = d 6 r ∧ σ 15 (r * 7 + 4) = d 3 r ∧ σ 15 (r * 7 + 5) = d 7 r ∧ σ 15 (r * 7 + 6) = d 8 r) ∧
  (∀ r k, 0 ≤ r → r < d 0 1 → 0 ≤ k → k < d 3 r → σ 16 (r * 10 + k) = d 2 (10 * r + k)) ∧
  (∀ k, 0 ≤ k → k < d 0 12 → σ 19 k = d 10 k) ∧
  (∀ c, 0 ≤ c → c < 26 → σ 20 c = if fg d c = 0 then -1 else fg d c) ∧
  (∀ r, 0 ≤ r → r < d 0 1 → σ 22 r = sm d r ∧ ∀ i, 0 ≤ i → i < sm d r → σ 21 (r * 10 + i) = sf d r i) ∧
  (∀ a b, 0 ≤ a → a < d 0 1 → 0 ≤ b → b < d 0 1 → a ≠ b → σ 17 (a * 36 + b) = sl d a b) ∧ (∀ a, 0 ≤ a → a < 36 → σ 17 (a * 36 + a) = 0) ∧
  (∀ a b, 0 ≤ a → a < 8 → 0 ≤ b → b < 8 → a ≠ b → σ 23 (a * 8 + b) = d 9 (8 * a + b)) ∧
  (∀ i, 0 ≤ i → i < 16 → σ 24 i = d 15 i ∧ σ 25 i = d 16 (16 + i) ∧ σ 26 i = d 16 i) ∧
  (∀ k, 0 ≤ k → k < d 0 37 → σ 36 k = min (d 25 k) (d 26 k) ∧ σ 37 k = max (d 25 k) (d 26 k) ∧ σ 38 k = d 27 k) ∧
  (∀ i, 0 ≤ i → i < 4 → σ 12 i = (if d 33 i = 1 then d 34 i else -1) ∧ σ 13 i = d 35 i) ∧
  (∀ i k, 0 ≤ i → i < 4 → 0 ≤ k → k < d 35 i → σ 14 (i * 40 + k) = d 36 (40 * i + k))
section RXS
variable {d σ : St}
theorem RX.rows (h : RX d σ) : σ 3 2 = d 0 1 := h.1.1
theorem RX.day (h : RX d σ) : σ 3 3 = d 0 0 := h.1.2.1
theorem RX.asof (h : RX d σ) : σ 3 4 = d 0 10 := h.1.2.2.1
theorem RX.typed (h : RX d σ) : σ 5 4 = d 0 12 := h.1.2.2.2.1
theorem RX.ft (h : RX d σ) : σ 5 5 = ft d := h.1.2.2.2.2.1
theorem RX.line (h : RX d σ) : σ 6 4 = d 0 24 := h.1.2.2.2.2.2.1
theorem RX.chk (h : RX d σ) : σ 10 3 = d 0 37 := h.1.2.2.2.2.2.2.1
theorem RX.fnd (h : RX d σ) : σ 1 3 = d 0 51 := h.1.2.2.2.2.2.2.2
theorem RX.row (h : RX d σ) : ∀ r, 0 ≤ r → r < d 0 1 → σ 15 (r * 7 + 0) = d 1 r ∧ σ 15 (r * 7 + 1) = d 4 r ∧ σ 15 (r * 7 + 2) = d 5 r ∧ σ 15 (r * 7 + 3) = d 6 r ∧ σ 15 (r * 7 + 4) = d 3 r ∧ σ 15 (r * 7 + 5) = d 7 r ∧ σ 15 (r * 7 + 6) = d 8 r := h.2.1
theorem RX.let (h : RX d σ) : ∀ r k, 0 ≤ r → r < d 0 1 → 0 ≤ k → k < d 3 r → σ 16 (r * 10 + k) = d 2 (10 * r + k) := h.2.2.1
theorem RX.txt (h : RX d σ) : ∀ k, 0 ≤ k → k < d 0 12 → σ 19 k = d 10 k := h.2.2.2.1
theorem RX.fig (h : RX d σ) : ∀ c, 0 ≤ c → c < 26 → σ 20 c = if fg d c = 0 then -1 else fg d c := h.2.2.2.2.1
theorem RX.snd (h : RX d σ) : ∀ r, 0 ≤ r → r < d 0 1 → σ 22 r = sm d r ∧ ∀ i, 0 ≤ i → i < sm d r → σ 21 (r * 10 + i) = sf d r i := h.2.2.2.2.2.1
theorem RX.slp (h : RX d σ) : ∀ a b, 0 ≤ a → a < d 0 1 → 0 ≤ b → b < d 0 1 → a ≠ b → σ 17 (a * 36 + b) = sl d a b := h.2.2.2.2.2.2.1
theorem RX.slp0 (h : RX d σ) : ∀ a, 0 ≤ a → a < 36 → σ 17 (a * 36 + a) = 0 := h.2.2.2.2.2.2.2.1
theorem RX.way (h : RX d σ) : ∀ a b, 0 ≤ a → a < 8 → 0 ≤ b → b < 8 → a ≠ b → σ 23 (a * 8 + b) = d 9 (8 * a + b) := h.2.2.2.2.2.2.2.2.1
theorem RX.pts (h : RX d σ) : ∀ i, 0 ≤ i → i < 16 → σ 24 i = d 15 i ∧ σ 25 i = d 16 (16 + i) ∧ σ 26 i = d 16 i := h.2.2.2.2.2.2.2.2.2.1
theorem RX.chks (h : RX d σ) : ∀ k, 0 ≤ k → k < d 0 37 → σ 36 k = min (d 25 k) (d 26 k) ∧ σ 37 k = max (d 25 k) (d 26 k) ∧ σ 38 k = d 27 k := h.2.2.2.2.2.2.2.2.2.2.1
theorem RX.sh (h : RX d σ) : ∀ i, 0 ≤ i → i < 4 → σ 12 i = (if d 33 i = 1 then d 34 i else -1) ∧ σ 13 i = d 35 i := h.2.2.2.2.2.2.2.2.2.2.2.1
theorem RX.itm (h : RX d σ) : ∀ i k, 0 ≤ i → i < 4 → 0 ≤ k → k < d 35 i → σ 14 (i * 40 + k) = d 36 (40 * i + k) := h.2.2.2.2.2.2.2.2.2.2.2.2
end RXS
/-- the two sides, related through a common state -/
def RR (σx σm : St) : Prop := ∃ d, RX d σx ∧ RM d σm ∧ DI d
theorem OK_same {σx σm : St} {fx fm : MM} {r : Int} (h : RR σx σm) (hx : fx = some (r, σx)) (hm : fm = some (r, σm)) : OKp RR fx fm := ⟨r, σx, σm, hx, hm, h⟩
/-- scratch of the reference may change -/
theorem RM_k {d σ : St} {k : Nat} {i v : Int} (hk : pk k = false) (h0 : k ≠ 0) (h11 : k ≠ 11) (h : RM d σ) : RM d (su σ k i v) := by
  have e0 : su σ k i v 0 = σ 0 := su_k σ i v (Ne.symm h0)
  have e1 : su σ k i v 11 = σ 11 := su_k σ i v (Ne.symm h11)
  refine ⟨fun k' hk' => ?_, fun j hj => ?_, ?_⟩
  · rw [su_k σ i v (fun e => by rw [e, hk] at hk'; cases hk')]; exact h.1 k' hk'
  · rw [e0]; exact h.2.1 j hj
  · rw [e0, e1]; exact h.2.2
theorem RM_j {d σ : St} {j v : Int} (hj : pj j = false) (h15 : j ≠ 15) (h16 : j ≠ 16) (h : RM d σ) : RM d (su σ 0 j v) := by
  refine ⟨fun k' hk' => ?_, fun j' hj' => ?_, ?_⟩
  · rw [su_k σ j v (fun e => by rw [e] at hk'; cases hk')]; exact h.1 k' hk'
  · rw [su_n σ 0 j v j' (fun e => by rw [e, hj] at hj'; cases hj')]; exact h.2.1 j' hj'
  · rw [su_n σ 0 j v 15 (Ne.symm h15), su_n σ 0 j v 16 (Ne.symm h16), su_k σ j v (by decide)]; exact h.2.2
/-- lasting cells change on both sides alike -/
theorem ft_k {d : St} {k : Nat} {i v : Int} (h0 : k ≠ 0) (h10 : k ≠ 10) : ft (su d k i v) = ft d := by
  unfold ft
  rw [su_k d i v (Ne.symm h0), su_k d i v (Ne.symm h10)]
theorem fg_k {d : St} {k : Nat} {i v : Int} (h0 : k ≠ 0) (h10 : k ≠ 10) (c : Int) : fg (su d k i v) c = fg d c := by
  unfold fg
  rw [ft_k h0 h10, su_k d i v (Ne.symm h0), su_k d i v (Ne.symm h10)]
theorem ft_j {d : St} {j v : Int} (h12 : j ≠ 12) : ft (su d 0 j v) = ft d := by
  unfold ft
  rw [su_n d 0 j v 12 (Ne.symm h12), su_k d j v (by decide)]
theorem fg_j {d : St} {j v : Int} (h12 : j ≠ 12) (c : Int) : fg (su d 0 j v) c = fg d c := by
  unfold fg
  rw [ft_j h12, su_n d 0 j v 12 (Ne.symm h12), su_k d j v (by decide)]
theorem RM_uk {d σ : St} {k : Nat} {i v : Int} (h0 : k ≠ 0) (h10 : k ≠ 10) (h11 : k ≠ 11) (h : RM d σ) (hk : pk k = true) : RM (su d k i v) (su σ k i v) := by
  refine ⟨fun k' hk' => ?_, fun j hj => ?_, ?_⟩
  · by_cases e : k' = k
    · subst e; rw [su_s, su_s, h.1 k' hk']
    · rw [su_k σ i v e, su_k d i v e]; exact h.1 k' hk'
  · rw [su_k σ i v (Ne.symm h0), su_k d i v (Ne.symm h0)]; exact h.2.1 j hj
  · rw [su_k σ i v (Ne.symm h0), su_k σ i v (Ne.symm h11), ft_k h0 h10]
    rcases h.2.2 with a | ⟨a, b, c⟩
    · exact Or.inl a
    · exact Or.inr ⟨a, b, fun x h1 h2 => by rw [fg_k h0 h10]; exact c x h1 h2⟩
theorem RM_uj {d σ : St} {j v : Int} (h12 : j ≠ 12) (h15 : j ≠ 15) (h16 : j ≠ 16) (h : RM d σ) : RM (su d 0 j v) (su σ 0 j v) := by
  refine ⟨fun k' hk' => ?_, fun j' hj' => ?_, ?_⟩
  · have e : k' ≠ 0 := fun e => by rw [e] at hk'; cases hk'
    rw [su_k σ j v e, su_k d j v e]; exact h.1 k' hk'
  · rw [su_r, su_r]
    by_cases e : j' = j
    · rw [if_pos e, if_pos e]
    · rw [if_neg e, if_neg e]; exact h.2.1 j' hj'
  · rw [su_n σ 0 j v 15 (Ne.symm h15), su_n σ 0 j v 16 (Ne.symm h16), su_k σ j v (by decide), ft_j h12]
    rcases h.2.2 with a | ⟨a, b, c⟩
    · exact Or.inl a
    · exact Or.inr ⟨a, b, fun x h1 h2 => by rw [fg_j h12]; exact c x h1 h2⟩
