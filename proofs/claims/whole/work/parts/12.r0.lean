/-! loops in general: a measure that falls, an invariant, what comes out -/
theorem lq1 {B : (Int → St → MM) → Int → St → MM} {z : Int → St → MM} {Out : MM → Prop} {Inv : Int → St → Prop} (μ : Int → St → Int) (step : ∀ k a σ, Inv a σ → Out (B k a σ) ∨ ∃ a' σ', B k a σ = k a' σ' ∧ Inv a' σ' ∧ μ a' σ' < μ a σ) (pos : ∀ a σ, Inv a σ → 0 ≤ μ a σ) : ∀ (m : Nat) (a : Int) (σ : St), Inv a σ → μ a σ < m → Out (itr B z m a σ) := by
  intro m
  induction m with
  | zero => intro a σ h h2; have := pos a σ h; omega
  | succ m ih =>
    intro a σ h h2
    rw [itr_k]
    rcases step (itr B z m) a σ h with h3 | ⟨a', σ', e, h4, h5⟩
    · exact h3
    · rw [e]; exact ih a' σ' h4 (by omega)
theorem lq2 {B : (Int → Int → St → MM) → Int → Int → St → MM} {z : Int → Int → St → MM} {Out : MM → Prop} {Inv : Int → Int → St → Prop} (μ : Int → Int → St → Int) (step : ∀ k a b σ, Inv a b σ → Out (B k a b σ) ∨ ∃ a' b' σ', B k a b σ = k a' b' σ' ∧ Inv a' b' σ' ∧ μ a' b' σ' < μ a b σ) (pos : ∀ a b σ, Inv a b σ → 0 ≤ μ a b σ) : ∀ (m : Nat) (a b : Int) (σ : St), Inv a b σ → μ a b σ < m → Out (itr B z m a b σ) := by
  intro m
  induction m with
  | zero => intro a b σ h h2; have := pos a b σ h; omega
  | succ m ih =>
    intro a b σ h h2
    rw [itr_k]
    rcases step (itr B z m) a b σ h with h3 | ⟨a', b', σ', e, h4, h5⟩
    · exact h3
    · rw [e]; exact ih a' b' σ' h4 (by omega)
theorem lq3 {B : (Int → Int → Int → St → MM) → Int → Int → Int → St → MM} {z : Int → Int → Int → St → MM} {Out : MM → Prop} {Inv : Int → Int → Int → St → Prop} (μ : Int → Int → Int → St → Int) (step : ∀ k a b c σ, Inv a b c σ → Out (B k a b c σ) ∨ ∃ a' b' c' σ', B k a b c σ = k a' b' c' σ' ∧ Inv a' b' c' σ' ∧ μ a' b' c' σ' < μ a b c σ) (pos : ∀ a b c σ, Inv a b c σ → 0 ≤ μ a b c σ) : ∀ (m : Nat) (a b c : Int) (σ : St), Inv a b c σ → μ a b c σ < m → Out (itr B z m a b c σ) := by
  intro m
  induction m with
  | zero => intro a b c σ h h2; have := pos a b c σ h; omega
  | succ m ih =>
    intro a b c σ h h2
    rw [itr_k]
    rcases step (itr B z m) a b c σ h with h3 | ⟨a', b', c', σ', e, h4, h5⟩
    · exact h3
    · rw [e]; exact ih a' b' c' σ' h4 (by omega)
theorem lq4 {B : (Int → Int → Int → Int → St → MM) → Int → Int → Int → Int → St → MM} {z : Int → Int → Int → Int → St → MM} {Out : MM → Prop} {Inv : Int → Int → Int → Int → St → Prop} (μ : Int → Int → Int → Int → St → Int) (step : ∀ k a b c d σ, Inv a b c d σ → Out (B k a b c d σ) ∨ ∃ a' b' c' d' σ', B k a b c d σ = k a' b' c' d' σ' ∧ Inv a' b' c' d' σ' ∧ μ a' b' c' d' σ' < μ a b c d σ) (pos : ∀ a b c d σ, Inv a b c d σ → 0 ≤ μ a b c d σ) : ∀ (m : Nat) (a b c d : Int) (σ : St), Inv a b c d σ → μ a b c d σ < m → Out (itr B z m a b c d σ) := by
  intro m
  induction m with
  | zero => intro a b c d σ h h2; have := pos a b c d σ h; omega
  | succ m ih =>
    intro a b c d σ h h2
    rw [itr_k]
    rcases step (itr B z m) a b c d σ h with h3 | ⟨a', b', c', d', σ', e, h4, h5⟩
    · exact h3
    · rw [e]; exact ih a' b' c' d' σ' h4 (by omega)
/-! sums -/
def Sm (f : Int → Int) : Nat → Int
  | 0 => 0
  | n + 1 => Sm f n + f n
def S (f : Int → Int) (n : Int) : Int := Sm f n.toNat
theorem S_0 (f : Int → Int) : S f 0 = 0 := rfl
theorem S_s (f : Int → Int) {n : Int} (h : 0 ≤ n) : S f (n + 1) = S f n + f n := by
  obtain ⟨m, rfl⟩ := Int.eq_ofNat_of_zero_le h
  rfl
/-- what holds at 0 and goes on from n to n + 1 holds at all n -/
theorem nind {P : Int → Prop} (h0 : P 0) (hs : ∀ n, 0 ≤ n → P n → P (n + 1)) (n : Int) (hn : 0 ≤ n) : P n := by
  obtain ⟨m, rfl⟩ := Int.eq_ofNat_of_zero_le hn
  clear hn
  induction m with
  | zero => exact h0
  | succ m ih => exact hs m (by omega) ih
theorem S_c {f g : Int → Int} {n : Int} (h : ∀ i, 0 ≤ i → i < n → f i = g i) (hn : 0 ≤ n) : S f n = S g n := by
  revert h
  refine nind (P := fun n => (∀ i, 0 ≤ i → i < n → f i = g i) → S f n = S g n) (fun _ => rfl) (fun n h ih hh => ?_) n hn
  rw [S_s f h, S_s g h, ih (fun i a b => hh i a (by omega)), hh n h (by omega)]
theorem S_ge {f : Int → Int} {n lo : Int} (h : ∀ i, 0 ≤ i → i < n → lo ≤ f i) (hn : 0 ≤ n) : lo * n ≤ S f n := by
  revert h
  refine nind (P := fun n => (∀ i, 0 ≤ i → i < n → lo ≤ f i) → lo * n ≤ S f n) (fun _ => by rw [S_0]; omega) (fun n h ih hh => ?_) n hn
  have a := ih (fun i a b => hh i a (by omega))
  have b := hh n h (by omega)
  rw [S_s f h, Int.mul_add]; omega
theorem S_le {f : Int → Int} {n hi : Int} (h : ∀ i, 0 ≤ i → i < n → f i ≤ hi) (hn : 0 ≤ n) : S f n ≤ hi * n := by
  revert h
  refine nind (P := fun n => (∀ i, 0 ≤ i → i < n → f i ≤ hi) → S f n ≤ hi * n) (fun _ => by rw [S_0]; omega) (fun n h ih hh => ?_) n hn
  have a := ih (fun i a b => hh i a (by omega))
  have b := hh n h (by omega)
  rw [S_s f h, Int.mul_add]; omega
theorem S_mo {f g : Int → Int} {n : Int} (h : ∀ i, 0 ≤ i → i < n → f i ≤ g i) (hn : 0 ≤ n) : S f n ≤ S g n := by
  revert h
  refine nind (P := fun n => (∀ i, 0 ≤ i → i < n → f i ≤ g i) → S f n ≤ S g n) (fun _ => by rw [S_0, S_0]; omega) (fun n h ih hh => ?_) n hn
  have a := ih (fun i a b => hh i a (by omega))
  have b := hh n h (by omega)
  rw [S_s f h, S_s g h]; omega
theorem S_z {f : Int → Int} {n : Int} (h : ∀ i, 0 ≤ i → i < n → f i = 0) (hn : 0 ≤ n) : S f n = 0 := by
  have a := S_ge (f := f) (n := n) (lo := 0) (fun i a b => by rw [h i a b]; omega) hn
  have b := S_le (f := f) (n := n) (hi := 0) (fun i a b => by rw [h i a b]; omega) hn
  omega
theorem S_ad (f g : Int → Int) {n : Int} (hn : 0 ≤ n) : S (fun i => f i + g i) n = S f n + S g n := by
  refine nind (P := fun n => S (fun i => f i + g i) n = S f n + S g n) (by rw [S_0, S_0, S_0]; rfl) (fun n h ih => ?_) n hn
  rw [S_s _ h, S_s f h, S_s g h, ih]; omega
theorem S_mul (c : Int) (f : Int → Int) {n : Int} (hn : 0 ≤ n) : S (fun i => c * f i) n = c * S f n := by
  refine nind (P := fun n => S (fun i => c * f i) n = c * S f n) (by rw [S_0, S_0, Int.mul_zero]) (fun n h ih => ?_) n hn
  rw [S_s _ h, S_s f h, ih, Int.mul_add]
theorem S_sw (f : Int → Int → Int) {n m : Int} (hn : 0 ≤ n) (hm : 0 ≤ m) : S (fun a => S (fun b => f a b) m) n = S (fun b => S (fun a => f a b) n) m := by
  refine nind (P := fun n => S (fun a => S (fun b => f a b) m) n = S (fun b => S (fun a => f a b) n) m) ?_ (fun n h ih => ?_) n hn
  · rw [S_0]; exact (S_z (fun i _ _ => rfl) hm).symm
  · rw [S_s _ h, ih, ← S_ad _ _ hm]
    exact S_c (fun i _ _ => (S_s (fun a => f a i) h).symm) hm
/-- all pairs of n, the lesser one first or last -/
theorem S_tri (f : Int → Int → Int) {n : Int} (hn : 0 ≤ n) (hs : ∀ a b, 0 ≤ a → a < n → 0 ≤ b → b < n → f a b = f b a) : S (fun a => S (fun b => if a < b then f a b else 0) n) n = S (fun a => S (fun b => if b < a then f a b else 0) a) n := by
  have e1 : S (fun a => S (fun b => if b < a then f a b else 0) a) n = S (fun a => S (fun b => if b < a then f a b else 0) n) n := by
    refine S_c (fun a h0 h1 => ?_) hn
    have key : ∀ x, 0 ≤ x → S (fun b => if b < a then f a b else 0) (a + x) = S (fun b => if b < a then f a b else 0) a := by
      intro x hx
      refine nind (P := fun x => S (fun b => if b < a then f a b else 0) (a + x) = S (fun b => if b < a then f a b else 0) a) (by rw [Int.add_zero]) (fun x h ih => ?_) x hx
      rw [show a + (x + 1) = a + x + 1 by omega, S_s _ (show 0 ≤ a + x by omega), ih, if_neg (by omega), Int.add_zero]
    have := key (n - a) (by omega)
    rw [show a + (n - a) = n by omega] at this
    exact this.symm
  rw [e1, S_sw (fun a b => if a < b then f a b else 0) hn hn]
  refine S_c (fun a h0 h1 => S_c (fun b h2 h3 => ?_) hn) hn
  by_cases c : b < a
  · rw [if_pos c, if_pos c, hs b a h2 h3 h0 h1]
  · rw [if_neg c, if_neg c]
/-! what the reference's reading of text, names and slips leaves as it was -/
def fr (σ σ' : St) : Prop := (∀ k : Nat, k ≠ 0 → k ≠ 11 → k ≠ 12 → k ≠ 13 → k ≠ 14 → σ' k = σ k) ∧ (∀ j : Int, j ≠ 15 → j ≠ 16 → σ' 0 j = σ 0 j) ∧ (σ 0 15 = 1 → σ' 0 15 = 1)
theorem fr_rf (σ : St) : fr σ σ := ⟨fun _ _ _ _ _ _ => rfl, fun _ _ _ => rfl, fun h => h⟩
theorem fr_tr {σ σ1 σ2 : St} (h : fr σ σ1) (g : fr σ1 σ2) : fr σ σ2 := ⟨fun k a b c d e => (g.1 k a b c d e).trans (h.1 k a b c d e), fun j a b => (g.2.1 j a b).trans (h.2.1 j a b), fun x => g.2.2 (h.2.2 x)⟩
theorem fr_su {σ σ1 : St} {k : Nat} {i v : Int} (h : fr σ σ1) (hk : k = 11 ∨ k = 12 ∨ k = 13 ∨ k = 14) : fr σ (su σ1 k i v) := by
  refine ⟨fun k' a b c d e => ?_, fun j a b => ?_, fun x => ?_⟩
  · rw [su_k _ _ _ (by rcases hk with e | e | e | e <;> rw [e] <;> assumption)]; exact h.1 k' a b c d e
  · rw [su_k _ _ _ (by rcases hk with e | e | e | e <;> rw [e] <;> decide)]; exact h.2.1 j a b
  · rw [su_k _ _ _ (by rcases hk with e | e | e | e <;> rw [e] <;> decide)]; exact h.2.2 x
theorem fr_16 {σ σ1 : St} {v : Int} (h : fr σ σ1) : fr σ (su σ1 0 16 v) :=
  ⟨fun k a b c d e => by rw [su_k _ _ _ a]; exact h.1 k a b c d e, fun j a b => by rw [su_n _ _ _ _ _ b]; exact h.2.1 j a b, fun x => by rw [su_n _ _ _ _ _ (by decide)]; exact h.2.2 x⟩
theorem fr_15 {σ σ1 : St} (h : fr σ σ1) : fr σ (su σ1 0 15 1) :=
  ⟨fun k a b c d e => by rw [su_k _ _ _ a]; exact h.1 k a b c d e, fun j a b => by rw [su_n _ _ _ _ _ a]; exact h.2.1 j a b, fun _ => su_e _ _ _ _⟩
def FK (σ : St) (x : MM) : Prop := ∀ r σ', x = some (r, σ') → fr σ σ'
theorem FK_n (σ : St) : FK σ none := fun _ _ h => by cases h
theorem FK_s {σ σ1 : St} {r : Int} (h : fr σ σ1) : FK σ (some (r, σ1)) := fun _ _ e => by cases e; exact h
theorem FK_i {σ : St} {x y : MM} {c : Prop} [Decidable c] (h1 : FK σ x) (h2 : FK σ y) : FK σ (if c then x else y) := by
  by_cases hc : c
  · rw [if_pos hc]; exact h1
  · rw [if_neg hc]; exact h2
theorem FK_g {σ : St} {x : MM} {c : Prop} [Decidable c] (h : FK σ x) : FK σ (gd c x) := by
  unfold gd; exact FK_i h (FK_n σ)
theorem FK_b {σ : St} {x : MM} {k : Int → St → MM} (h : FK σ x) (h2 : ∀ r s, fr σ s → FK σ (k r s)) : FK σ (bd x k) := by
  intro r σ' e
  obtain ⟨r1, s1, e1, e2⟩ := bd_s e
  exact h2 r1 s1 (h r1 s1 e1) r σ' e2
theorem FK_t {σ s : St} {x : MM} (h : fr σ s) (h2 : FK s x) : FK σ x := fun r σ' e => fr_tr h (h2 r σ' e)
theorem FK_1 {B : (Int → St → MM) → Int → St → MM} (hB : ∀ k, (∀ a s, FK s (k a s)) → ∀ a s, FK s (B k a s)) (n : Nat) (a : Int) (s : St) : FK s (itr B (fun _ _ => none) n a s) :=
  itr_ind B (fun _ _ => none) (fun k => ∀ a s, FK s (k a s)) (fun _ s => FK_n s) hB n a s
theorem FK_2 {B : (Int → Int → St → MM) → Int → Int → St → MM} (hB : ∀ k, (∀ a b s, FK s (k a b s)) → ∀ a b s, FK s (B k a b s)) (n : Nat) (a b : Int) (s : St) : FK s (itr B (fun _ _ _ => none) n a b s) :=
  itr_ind B (fun _ _ _ => none) (fun k => ∀ a b s, FK s (k a b s)) (fun _ _ s => FK_n s) hB n a b s
