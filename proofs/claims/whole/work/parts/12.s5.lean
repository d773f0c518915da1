/-! CUT: what crosses a set; places of a BUNDLE's ROWS -/
def ch1 (X : Int → Bool) (i : Int) : Int := if X i = true then 1 else 0
/-- what room there is out of X -/
def ot (r : Int → Int → Int) (n : Int) (X : Int → Bool) : Int := S (fun i => S (fun j => if X i = true ∧ X j = false then r i j else 0) n) n
theorem ot_c {r r' : Int → Int → Int} {n : Int} {X X' : Int → Bool} (hn : 0 ≤ n) (h : ∀ i j, 0 ≤ i → i < n → 0 ≤ j → j < n → (X i = true ∧ X j = false ↔ X' i = true ∧ X' j = false) ∧ (X i = true ∧ X j = false → r i j = r' i j)) : ot r n X = ot r' n X' := by
  refine S_c (fun i i0 i1 => S_c (fun j j0 j1 => ?_) hn) hn
  obtain ⟨a, b⟩ := h i j i0 i1 j0 j1
  by_cases c : X i = true ∧ X j = false
  · rw [if_pos c, if_pos (a.mp c), b c]
  · rw [if_neg c, if_neg (fun z => c (a.mpr z))]
theorem S_u (f g : Int → Int) {i v n : Int} (h0 : 0 ≤ i) (h1 : i < n) (h : ∀ j, 0 ≤ j → j < n → g j = if j = i then f i + v else f j) : S g n = S f n + v := by
  have e : S g n = S (fun j => if j = i then f i + v else f j) n := S_c (fun j a b => h j a b) (by omega)
  rw [e, S_upd f h0 h1]; omega
theorem ot_u {r r' : Int → Int → Int} {n i j v : Int} (X : Int → Bool) (i0 : 0 ≤ i) (i1 : i < n) (j0 : 0 ≤ j) (j1 : j < n) (h : ∀ x y, 0 ≤ x → x < n → 0 ≤ y → y < n → r' x y = if x = i ∧ y = j then r i j + v else r x y) : ot r' n X = ot r n X + (if X i = true ∧ X j = false then v else 0) := by
  refine S_u _ _ i0 i1 (fun x x0 x1 => ?_)
  show S (fun y => if X x = true ∧ X y = false then r' x y else 0) n = if x = i then S (fun y => if X i = true ∧ X y = false then r i y else 0) n + (if X i = true ∧ X j = false then v else 0) else S (fun y => if X x = true ∧ X y = false then r x y else 0) n
  by_cases e : x = i
  · subst e
    rw [if_pos rfl]
    refine S_u _ _ j0 j1 (fun y y0 y1 => ?_)
    show (if X x = true ∧ X y = false then r' x y else 0) = if y = j then (if X x = true ∧ X j = false then r x j else 0) + (if X x = true ∧ X j = false then v else 0) else (if X x = true ∧ X y = false then r x y else 0)
    rw [h x y x0 x1 y0 y1]
    by_cases e2 : y = j
    · subst e2
      rw [if_pos rfl]
      by_cases c : X x = true ∧ X y = false
      · rw [if_pos c, if_pos c, if_pos c, if_pos ⟨rfl, rfl⟩]
      · rw [if_neg c, if_neg c, if_neg c]; rfl
    · rw [if_neg e2, if_neg (show ¬ (x = x ∧ y = j) from fun z => e2 z.2)]
  · rw [if_neg e]
    refine S_c (fun y y0 y1 => ?_) (by omega)
    rw [h x y x0 x1 y0 y1, if_neg (show ¬ (x = i ∧ y = j) from fun z => e z.1)]
theorem ot_ge {r : Int → Int → Int} {n : Int} {X : Int → Bool} (hn : 0 ≤ n) (h : ∀ i j, 0 ≤ i → i < n → 0 ≤ j → j < n → 0 ≤ r i j) : 0 ≤ ot r n X := by
  have := S_ge (f := fun i => S (fun j => if X i = true ∧ X j = false then r i j else 0) n) (n := n) (lo := 0) (fun i i0 i1 => by
    have := S_ge (f := fun j => if X i = true ∧ X j = false then r i j else 0) (n := n) (lo := 0) (fun j j0 j1 => by
      have := h i j i0 i1 j0 j1
      show 0 ≤ (if X i = true ∧ X j = false then r i j else 0)
      split <;> omega) hn
    omega) hn
  unfold ot; omega
theorem ot_0 {r : Int → Int → Int} {n : Int} {X : Int → Bool} (hn : 0 ≤ n) (h : ∀ i j, 0 ≤ i → i < n → 0 ≤ j → j < n → X i = true → X j = false → r i j = 0) : ot r n X = 0 :=
  S_z (fun i i0 i1 => S_z (fun j j0 j1 => by
    show (if X i = true ∧ X j = false then r i j else 0) = 0
    by_cases c : X i = true ∧ X j = false
    · rw [if_pos c]; exact h i j i0 i1 j0 j1 c.1 c.2
    · rw [if_neg c]) hn) hn
/-- out of one ROW alone -/
theorem ot_1 {r : Int → Int → Int} {n a : Int} (a0 : 0 ≤ a) (a1 : a < n) (h : ∀ i j, 0 ≤ i → i < n → 0 ≤ j → j < n → r i j ≤ 1) : ot r n (fun i => decide (i = a)) ≤ n - 1 := by
  have hr : S (fun j => if (decide (a = a)) = true ∧ (decide (j = a)) = false then r a j else 0) n ≤ n - 1 := by
    have e := S_upd (fun j => if (decide (a = a)) = true ∧ (decide (j = a)) = false then r a j else 0) (i := a) (v := 1) a0 a1
    have l := S_le (f := fun j => if j = a then 1 else if (decide (a = a)) = true ∧ (decide (j = a)) = false then r a j else 0) (n := n) (hi := 1) (fun j j0 j1 => by
      have := h a j a0 a1 j0 j1
      show (if j = a then 1 else if (decide (a = a)) = true ∧ (decide (j = a)) = false then r a j else 0) ≤ 1
      repeat' split
      all_goals omega) (by omega)
    have z : (if (decide (a = a)) = true ∧ (decide (a = a)) = false then r a a else (0 : Int)) = 0 := by
      rw [if_neg (fun w => by rw [w.1] at w; exact Bool.noConfusion w.2)]
    rw [z] at e
    omega
  have e := S_u (fun _ => (0 : Int)) (fun i => S (fun j => if (decide (i = a)) = true ∧ (decide (j = a)) = false then r i j else 0) n) (v := S (fun j => if (decide (a = a)) = true ∧ (decide (j = a)) = false then r a j else 0) n) a0 a1 (fun i i0 i1 => by
    by_cases c : i = a
    · rw [if_pos c, c]; omega
    · rw [if_neg c]
      refine S_z (fun j j0 j1 => ?_) (by omega)
      rw [if_neg (fun w => c (of_decide_eq_true w.1))])
  have z := S_z (f := fun _ => (0 : Int)) (n := n) (fun _ _ _ => rfl) (by omega)
  unfold ot
  rw [e, z]; omega
theorem sz_s (f : Int → Int) (b : Int) {r : Int} (h : 0 ≤ r) : sz f b (r + 1) = sz f b r + b01 (f r = b) := S_s _ h
theorem sz_mo (f : Int → Int) (b : Int) {r r' : Int} (h : 0 ≤ r) (h' : r ≤ r') : sz f b r ≤ sz f b r' := by
  have key : ∀ x, 0 ≤ x → sz f b r ≤ sz f b (r + x) := by
    intro x hx
    refine nind (P := fun x => sz f b r ≤ sz f b (r + x)) (by rw [Int.add_zero]; exact Int.le_refl _) (fun x hx ih => ?_) x hx
    have := @b01_r (f (r + x) = b) _
    rw [← Int.add_assoc, sz_s f b (by omega)]; omega
  have := key (r' - r) (by omega)
  rw [show r + (r' - r) = r' by omega] at this
  exact this
theorem sz_lt {f : Int → Int} {b r r' : Int} (h : 0 ≤ r) (h' : r < r') (hb : f r = b) : sz f b r < sz f b r' := by
  have := sz_mo f b (r := r + 1) (r' := r') (by omega) (by omega)
  rw [sz_s f b h, b01_t hb] at this; omega
theorem sz_inj {f : Int → Int} {b r r' : Int} (h : 0 ≤ r) (h' : 0 ≤ r') (hb : f r = b) (hb' : f r' = b) (e : sz f b r = sz f b r') : r = r' := by
  rcases Int.lt_trichotomy r r' with c | c | c
  · have := sz_lt h c hb; omega
  · exact c
  · have := sz_lt h' c hb'; omega
theorem sz_ex (f : Int → Int) (b : Int) {n : Int} (hn : 0 ≤ n) : ∀ i, 0 ≤ i → i < sz f b n → ∃ r, 0 ≤ r ∧ r < n ∧ f r = b ∧ sz f b r = i := by
  refine nind (P := fun n => ∀ i, 0 ≤ i → i < sz f b n → ∃ r, 0 ≤ r ∧ r < n ∧ f r = b ∧ sz f b r = i) (fun i i0 i1 => by have : sz f b 0 = 0 := rfl; omega) (fun n h ih i i0 i1 => ?_) n hn
  rw [sz_s f b h] at i1
  by_cases c : f n = b
  · rw [b01_t c] at i1
    by_cases e : i < sz f b n
    · obtain ⟨r, a1, a2, a3⟩ := ih i i0 e
      exact ⟨r, a1, by omega, a3⟩
    · exact ⟨n, h, by omega, c, by omega⟩
  · rw [b01_f c] at i1
    obtain ⟨r, a1, a2, a3⟩ := ih i i0 (by omega)
    exact ⟨r, a1, by omega, a3⟩
/-- f lists the ROWS of BUNDLE g -/
def ME (d : St) (g : Int) (f : Int → Int) : Prop := ∀ r, 0 ≤ r → r < d 0 1 → bo d r = g → f (sz (bo d) g r) = r
theorem ME_i {d : St} {g : Int} {f : Int → Int} (hR : 0 ≤ d 0 1) (h : ME d g f) {i : Int} (i0 : 0 ≤ i) (i1 : i < sz (bo d) g (d 0 1)) : 0 ≤ f i ∧ f i < d 0 1 ∧ bo d (f i) = g ∧ sz (bo d) g (f i) = i := by
  obtain ⟨r, r0, r1, r2, r3⟩ := sz_ex (bo d) g hR i i0 i1
  have := h r r0 r1 r2
  rw [r3] at this
  rw [this]
  exact ⟨r0, r1, r2, r3⟩
theorem ME_u {d : St} {g : Int} {f f' : Int → Int} (hR : 0 ≤ d 0 1) (h : ME d g f) (h' : ME d g f') {i : Int} (i0 : 0 ≤ i) (i1 : i < sz (bo d) g (d 0 1)) : f i = f' i := by
  obtain ⟨r, r0, r1, r2, r3⟩ := sz_ex (bo d) g hR i i0 i1
  have a := h r r0 r1 r2
  have b := h' r r0 r1 r2
  rw [r3] at a b
  rw [a, b]
theorem ME_n {d : St} {g : Int} {f : Int → Int} (hR : 0 ≤ d 0 1) (h : ME d g f) {i j : Int} (i0 : 0 ≤ i) (i1 : i < sz (bo d) g (d 0 1)) (j0 : 0 ≤ j) (j1 : j < sz (bo d) g (d 0 1)) (hij : i ≠ j) : f i ≠ f j := by
  intro e
  have a := ME_i hR h i0 i1
  have b := ME_i hR h j0 j1
  rw [e] at a
  omega
