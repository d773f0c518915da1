/-! TORN; what bundle, bundles, torn answer -/
theorem tb_f : ∀ m : Fin 8, ∀ i : Fin 3, (an32 (m.val : Int) (sl32 1 (i.val : Int)) = 0 ↔ m.val.testBit i.val = false) ∧ or32 (m.val : Int) (sl32 1 (i.val : Int)) = ((m.val ||| 2 ^ i.val : Nat) : Int) ∧ or32 (m.val : Int) 0 = m.val ∧ 0 ≤ an32 (m.val : Int) (sl32 1 (i.val : Int)) ∧ an32 (m.val : Int) (sl32 1 (i.val : Int)) < 8 := by decide +kernel
theorem tb_3 : ∀ m : Fin 4, (m.val = 3 ↔ (m.val.testBit 0 = true ∧ m.val.testBit 1 = true)) := by decide
theorem tb_or (m i j : Nat) : (m ||| 2 ^ i).testBit j = true ↔ (m.testBit j = true ∨ i = j) := by
  rw [Nat.testBit_or, Nat.testBit_two_pow]; simp
/-- two ROWS of a BUNDLE that tear it -/
def pt (d : St) (b x y : Int) : Prop := (0 ≤ y ∧ y < x ∧ x < d 0 1) ∧ (bo d x = b ∧ bo d y = b) ∧ (d 1 x = d 1 y ∨ (d 6 x ≠ -1 ∧ d 6 y ≠ -1 ∧ d 6 x ≠ d 6 y))
noncomputable def tv (d : St) (b : Int) : Int := @ite Int (∃ x y, pt d b x y) (Classical.propDecidable _) 1 0
theorem tv_t {d : St} {b : Int} (h : ∃ x y, pt d b x y) : tv d b = 1 := if_pos h
theorem tv_f {d : St} {b : Int} (h : ¬ ∃ x y, pt d b x y) : tv d b = 0 := if_neg h
theorem tv_r (d : St) (b : Int) : 0 ≤ tv d b ∧ tv d b ≤ 1 := by
  by_cases h : ∃ x y, pt d b x y
  · rw [tv_t h]; omega
  · rw [tv_f h]; omega
theorem x_isTorn_e (N : Nat) (hN : 100 < N) {d σ : St} (hx : XB d σ) (hd : DI d) {b : Int} (hb : 0 ≤ b ∧ b < 36) : x_Bundles_isTorn N b σ = some (tv d b, σ) := by
  have hR := hd.rows
  obtain ⟨hX, h8, hB, h31⟩ := hx
  unfold x_Bundles_isTorn
  refine lq3 (Out := fun z => z = some (tv d b, σ)) (Inv := fun u v i s => s = σ ∧ 0 ≤ i ∧ i ≤ d 0 1 ∧ ∃ m n : Nat, u = m ∧ v = n ∧ m < 8 ∧ n < 4 ∧ (∀ j : Nat, m.testBit j = true ↔ ∃ x, 0 ≤ x ∧ x < i ∧ bo d x = b ∧ d 1 x = j) ∧ (∀ j : Nat, n.testBit j = true ↔ ∃ x, 0 ≤ x ∧ x < i ∧ bo d x = b ∧ d 6 x = j) ∧ ∀ x y, x < i → pt d b x y → d 1 x ≠ d 1 y) (fun _ _ i _ => d 0 1 - i) ?_ ?_ N 0 0 0 σ ⟨rfl, by omega, by omega, 0, 0, rfl, rfl, by omega, by omega, fun j => by rw [Nat.zero_testBit]; exact ⟨fun z => Bool.noConfusion z, fun ⟨x, x0, x1, _⟩ => (by omega)⟩, fun j => by rw [Nat.zero_testBit]; exact ⟨fun z => Bool.noConfusion z, fun ⟨x, x0, x1, _⟩ => (by omega)⟩, fun x y x1 hp => by have := hp.1; omega⟩ (by omega)
  · rintro k u v i s ⟨rfl, h0, h1, m, n, rfl, rfl, hm, hn, hM, hS, hP⟩
    unfold x_Bundles_isTorn_8 x_Bundles_isTorn_78 x_Bundles_isTorn_81
    rw [h8]
    by_cases c : d 0 1 ≤ i
    · left
      rw [if_pos ((le32_i (by omega) (by omega) (by omega) (by omega)).mpr c)]
      have t3 := tb_3 ⟨n, hn⟩
      by_cases c2 : n = 3
      · rw [if_pos ((eq32_i (by omega) (by omega) (by omega) (by omega)).mpr (by omega))]
        obtain ⟨q0, q1⟩ := t3.mp c2
        obtain ⟨x, x0, x1, xb, xs⟩ := (hS 0).mp q0
        obtain ⟨y, y0, y1, yb, ys⟩ := (hS 1).mp q1
        rw [tv_t]
        rcases Int.lt_trichotomy x y with z | z | z
        · exact ⟨y, x, by unfold pt; omega⟩
        · rw [z] at xs; omega
        · exact ⟨x, y, by unfold pt; omega⟩
      · rw [if_neg (fun z => by rw [eq32_i (by omega) (by omega) (by omega) (by omega)] at z; omega), tv_f]
        rintro ⟨x, y, hp⟩
        have hne := hP x y (by have := hp.1; omega) hp
        obtain ⟨⟨p1, p2, p3⟩, ⟨p4, p5⟩, p6⟩ := hp
        have rx := hd.row x (by omega) p3
        have ry := hd.row y p1 (by omega)
        refine c2 (t3.mpr ⟨(hS 0).mpr ?_, (hS 1).mpr ?_⟩)
        · by_cases e : d 6 x = 0
          · exact ⟨x, by omega, by omega, p4, e⟩
          · exact ⟨y, by omega, by omega, p5, by omega⟩
        · by_cases e : d 6 x = 1
          · exact ⟨x, by omega, by omega, p4, e⟩
          · exact ⟨y, by omega, by omega, p5, by omega⟩
    · have hr := hd.row i h0 (by omega)
      have hbr := bo_r hB h0 (show i < d 0 1 by omega)
      rw [if_neg (fun z => c ((le32_i (by omega) (by omega) (by omega) (by omega)).mp z)), gd_k (by omega), h31 i h0 (by omega)]
      by_cases c2 : bo d i = b
      · rw [if_pos ((eq32_i (by omega) (by omega) (by omega) (by omega)).mpr c2), xf_0 N hX hd h0 (by omega), bd_k]
        obtain ⟨g, hg⟩ := Int.eq_ofNat_of_zero_le hr.1.1
        have tb := tb_f ⟨m, hm⟩ ⟨g, by omega⟩
        have tb : (an32 (m : Int) (sl32 1 (g : Int)) = 0 ↔ m.testBit g = false) ∧ or32 (m : Int) (sl32 1 (g : Int)) = ((m ||| 2 ^ g : Nat) : Int) ∧ or32 (m : Int) 0 = m ∧ 0 ≤ an32 (m : Int) (sl32 1 (g : Int)) ∧ an32 (m : Int) (sl32 1 (g : Int)) < 8 := tb
        rw [hg]
        by_cases c3 : an32 (m : Int) (sl32 1 (g : Int)) = 0
        · right
          rw [if_pos ((eq32_i (by omega) (by omega) (by omega) (by omega)).mpr c3), xf_3 N hX hd h0 (by omega), bd_k, tb.2.1]
          have hM' : ∀ j : Nat, (m ||| 2 ^ g).testBit j = true ↔ ∃ x, 0 ≤ x ∧ x < i + 1 ∧ bo d x = b ∧ d 1 x = j := by
            intro j
            rw [tb_or, hM j]
            constructor
            · rintro (⟨x, x0, x1, x2⟩ | e)
              · exact ⟨x, x0, by omega, x2⟩
              · exact ⟨i, h0, by omega, c2, by omega⟩
            · rintro ⟨x, x0, x1, x2, x3⟩
              by_cases e : x = i
              · right; rw [e] at x3; omega
              · exact Or.inl ⟨x, x0, by omega, x2, x3⟩
          have hP' : ∀ x y, x < i + 1 → pt d b x y → d 1 x ≠ d 1 y := by
            intro x y x1 hp
            by_cases e : x = i
            · intro ee
              have : m.testBit g = true := (hM g).mpr ⟨y, hp.1.1, by have := hp.1; omega, hp.2.1.2, by rw [← ee, e]; omega⟩
              rw [tb.1.mp c3] at this; cases this
            · exact hP x y (by omega) hp
          have hm' : m ||| 2 ^ g < 8 := Nat.or_lt_two_pow (n := 3) hm (Nat.pow_lt_pow_right (by omega) (by omega))
          by_cases c4 : d 6 i = -1
          · rw [if_pos ((eq32_i (by omega) (by omega) (by omega) (by omega)).mpr c4)]
            refine ⟨((m ||| 2 ^ g : Nat) : Int), (n : Int), i + 1, s, ?_, ⟨rfl, by omega, by omega, m ||| 2 ^ g, n, rfl, rfl, hm', hn, hM', fun j => ?_, hP'⟩, by omega⟩
            · have := (tb_f ⟨n, by omega⟩ ⟨0, by omega⟩).2.2.1
              have this : or32 (n : Int) 0 = n := this
              rw [this]
            · rw [hS j]
              constructor
              · rintro ⟨x, x0, x1, x2⟩; exact ⟨x, x0, by omega, x2⟩
              · rintro ⟨x, x0, x1, x2, x3⟩
                by_cases e : x = i
                · rw [e] at x3; omega
                · exact ⟨x, x0, by omega, x2, x3⟩
          · rw [if_neg (fun z => c4 ((eq32_i (by omega) (by omega) (by omega) (by omega)).mp z))]
            obtain ⟨f, hf⟩ := Int.eq_ofNat_of_zero_le (show 0 ≤ d 6 i by omega)
            have tb2 := (tb_f ⟨n, by omega⟩ ⟨f, by omega⟩).2.1
            have tb2 : or32 (n : Int) (sl32 1 (f : Int)) = ((n ||| 2 ^ f : Nat) : Int) := tb2
            have hn' : n ||| 2 ^ f < 4 := Nat.or_lt_two_pow (n := 2) hn (Nat.pow_lt_pow_right (by omega) (by omega))
            refine ⟨((m ||| 2 ^ g : Nat) : Int), ((n ||| 2 ^ f : Nat) : Int), i + 1, s, by rw [hf, tb2], ⟨rfl, by omega, by omega, m ||| 2 ^ g, n ||| 2 ^ f, rfl, rfl, hm', hn', hM', fun j => ?_, hP'⟩, by omega⟩
            rw [tb_or, hS j]
            constructor
            · rintro (⟨x, x0, x1, x2⟩ | e)
              · exact ⟨x, x0, by omega, x2⟩
              · exact ⟨i, h0, by omega, c2, by omega⟩
            · rintro ⟨x, x0, x1, x2, x3⟩
              by_cases e : x = i
              · right; rw [e] at x3; omega
              · exact Or.inl ⟨x, x0, by omega, x2, x3⟩
        · left
          rw [if_neg (fun z => c3 ((eq32_i (by omega) (by omega) (by omega) (by omega)).mp z)), tv_t]
          have ht : m.testBit g = true := by
            by_cases z : m.testBit g = true
            · exact z
            · exact absurd (tb.1.mpr (Bool.eq_false_iff.mpr z)) c3
          obtain ⟨x, x0, x1, x2, x3⟩ := (hM g).mp ht
          exact ⟨i, x, ⟨⟨x0, x1, by omega⟩, ⟨c2, x2⟩, Or.inl (by omega)⟩⟩
      · right
        rw [if_neg (fun z => c2 ((eq32_i (by omega) (by omega) (by omega) (by omega)).mp z))]
        refine ⟨m, n, i + 1, s, rfl, ⟨rfl, by omega, by omega, m, n, rfl, rfl, hm, hn, fun j => ?_, fun j => ?_, fun x y x1 hp => ?_⟩, by omega⟩
        · rw [hM j]
          constructor
          · rintro ⟨x, x0, x1, x2⟩; exact ⟨x, x0, by omega, x2⟩
          · rintro ⟨x, x0, x1, x2, x3⟩
            by_cases e : x = i
            · rw [e] at x2; exact absurd x2 c2
            · exact ⟨x, x0, by omega, x2, x3⟩
        · rw [hS j]
          constructor
          · rintro ⟨x, x0, x1, x2⟩; exact ⟨x, x0, by omega, x2⟩
          · rintro ⟨x, x0, x1, x2, x3⟩
            by_cases e : x = i
            · rw [e] at x2; exact absurd x2 c2
            · exact ⟨x, x0, by omega, x2, x3⟩
        · by_cases e : x = i
          · have := hp.2.1.1
            rw [e] at this; exact absurd this c2
          · exact hP x y (by omega) hp
  · rintro u v i s ⟨-, h0, h1, -⟩; omega
theorem m_isTorn_e (N : Nat) (hN : 100 < N) {d σ0 σ : St} (hm : MB d σ0 σ) (hd : DI d) {b : Int} (hb : 0 ≤ b ∧ b < 36) : m_isTorn N b σ = some (tv d b, σ) := by
  have hR := hd.rows
  obtain ⟨hL, hB, h23⟩ := hm
  have hM := hL.1
  unfold m_isTorn
  refine lq1 (Out := fun z => z = some (tv d b, σ)) (Inv := fun a s => s = σ ∧ 0 ≤ a ∧ a ≤ d 0 1 ∧ ∀ x y, x < a → ¬ pt d b x y) (fun a _ => d 0 1 - a) ?_ ?_ N 0 σ ⟨rfl, by omega, by omega, fun x y x0 hp => by have := hp.1; omega⟩ (by omega)
  · rintro k a s ⟨rfl, h0, h1, hn⟩
    unfold m_isTorn_2
    rw [hM.2.1 1 rfl]
    by_cases c : d 0 1 ≤ a
    · left
      rw [if_pos ((le32_i (by omega) (by omega) (by omega) (by omega)).mpr c), tv_f]
      rintro ⟨x, y, hp⟩
      exact hn x y (by have := hp.1; omega) hp
    · rw [if_neg (fun z => c ((le32_i (by omega) (by omega) (by omega) (by omega)).mp z))]
      have key : itr (m_isTorn_12 N k b a) (fun _ _ => none) N 0 s = some (tv d b, s) ∨ (itr (m_isTorn_12 N k b a) (fun _ _ => none) N 0 s = k (a + 1) s ∧ ∀ x y, x < a + 1 → ¬ pt d b x y) := by
        refine lq1 (Out := fun z => z = some (tv d b, s) ∨ (z = k (a + 1) s ∧ ∀ x y, x < a + 1 → ¬ pt d b x y)) (Inv := fun e s' => s' = s ∧ 0 ≤ e ∧ e ≤ a ∧ ∀ x y, (x < a ∨ (x = a ∧ y < e)) → ¬ pt d b x y) (fun e _ => a - e) ?_ ?_ N 0 s ⟨rfl, by omega, by omega, fun x y z hp => hn x y (by have := hp.1; omega) hp⟩ (by omega)
        · rintro k2 e s' ⟨rfl, e0, e1, hn'⟩
          unfold m_isTorn_12
          by_cases c2 : a ≤ e
          · left; right
            rw [if_pos ((le32_i (by omega) (by omega) (by omega) (by omega)).mpr c2)]
            exact ⟨rfl, fun x y x1 hp => hn' x y (by have := hp.1; omega) hp⟩
          · have ra := hd.row a h0 (by omega)
            have re := hd.row e e0 (by omega)
            have ba := bo_r hB h0 (show a < d 0 1 by omega)
            have be := bo_r hB e0 (show e < d 0 1 by omega)
            have g1 : inb a 36 := by omega
            have g2 : inb e 36 := by omega
            rw [if_neg (fun z => c2 ((le32_i (by omega) (by omega) (by omega) (by omega)).mp z)), gd_k g1, gd_k g2, h23 a h0 (by omega), h23 e e0 (by omega)]
            have go : ¬ pt d b a e → (k2 (e + 1) s' = some (tv d b, s') ∨ (k2 (e + 1) s' = k (a + 1) s' ∧ ∀ x y, x < a + 1 → ¬ pt d b x y)) ∨ ∃ a' σ', k2 (e + 1) s' = k2 a' σ' ∧ (σ' = s' ∧ 0 ≤ a' ∧ a' ≤ a ∧ ∀ x y, (x < a ∨ (x = a ∧ y < a')) → ¬ pt d b x y) ∧ a - a' < a - e := by
              intro hno
              right
              refine ⟨e + 1, s', rfl, ⟨rfl, by omega, by omega, fun x y z hp => ?_⟩, by omega⟩
              by_cases ee : x = a ∧ y = e
              · rw [ee.1, ee.2] at hp; exact hno hp
              · exact hn' x y (by omega) hp
            have hit : pt d b a e → some ((1 : Int), s') = some (tv d b, s') := fun hp => by rw [tv_t ⟨a, e, hp⟩]
            have e84 : ∀ q t, (q = 0 → ¬ pt d b a e) → (q = 1 → bo d a = b ∧ bo d e = b) → (q = 0 ∨ q = 1) → (t = 0 → ¬ (d 6 a ≠ -1 ∧ d 6 e ≠ -1 ∧ d 6 a ≠ d 6 e)) → (t = 1 → d 6 a ≠ -1 ∧ d 6 e ≠ -1 ∧ d 6 a ≠ d 6 e) → (t = 0 ∨ t = 1) → (m_isTorn_84 N k k2 b a e q t s' = some (tv d b, s') ∨ (m_isTorn_84 N k k2 b a e q t s' = k (a + 1) s' ∧ ∀ x y, x < a + 1 → ¬ pt d b x y)) ∨ ∃ a' σ', m_isTorn_84 N k k2 b a e q t s' = k2 a' σ' ∧ (σ' = s' ∧ 0 ≤ a' ∧ a' ≤ a ∧ ∀ x y, (x < a ∨ (x = a ∧ y < a')) → ¬ pt d b x y) ∧ a - a' < a - e := by
              intro q t hq0 hq1 hq ht0 ht1 ht
              unfold m_isTorn_84 m_isTorn_113
              rw [hM.1 1 rfl, gd_k g1, gd_k g2]
              by_cases z0 : q = 0
              · rw [if_pos ((eq32_i (by omega) (by omega) (by omega) (by omega)).mpr z0)]; exact go (hq0 z0)
              rw [if_neg (fun z => z0 ((eq32_i (by omega) (by omega) (by omega) (by omega)).mp z))]
              have hq1 := hq1 (by omega)
              by_cases z1 : d 1 a = d 1 e
              · rw [if_pos ((eq32_i (by omega) (by omega) (by omega) (by omega)).mpr z1)]
                exact Or.inl (Or.inl (hit ⟨⟨e0, by omega, by omega⟩, hq1, Or.inl z1⟩))
              rw [if_neg (fun z => z1 ((eq32_i (by omega) (by omega) (by omega) (by omega)).mp z))]
              by_cases z2 : t = 0
              · rw [if_pos ((eq32_i (by omega) (by omega) (by omega) (by omega)).mpr z2)]
                exact go (fun hp => hp.2.2.elim z1 (ht0 z2))
              · rw [if_neg (fun z => z2 ((eq32_i (by omega) (by omega) (by omega) (by omega)).mp z))]
                exact Or.inl (Or.inl (hit ⟨⟨e0, by omega, by omega⟩, hq1, Or.inr (ht1 (by omega))⟩))
            have e42 : ∀ q, (q = 0 → ¬ pt d b a e) → (q = 1 → bo d a = b ∧ bo d e = b) → (q = 0 ∨ q = 1) → (m_isTorn_42 N k k2 b a e q s' = some (tv d b, s') ∨ (m_isTorn_42 N k k2 b a e q s' = k (a + 1) s' ∧ ∀ x y, x < a + 1 → ¬ pt d b x y)) ∨ ∃ a' σ', m_isTorn_42 N k k2 b a e q s' = k2 a' σ' ∧ (σ' = s' ∧ 0 ≤ a' ∧ a' ≤ a ∧ ∀ x y, (x < a ∨ (x = a ∧ y < a')) → ¬ pt d b x y) ∧ a - a' < a - e := by
              intro q hq0 hq1 hq
              unfold m_isTorn_42 m_isTorn_83
              rw [hM.1 6 rfl]
              simp only [gd_k g1, gd_k g2]
              by_cases z1 : d 6 a = -1
              · rw [if_pos ((eq32_i (by omega) (by omega) (by omega) (by omega)).mpr z1)]
                exact e84 q 0 hq0 hq1 hq (fun _ z => z.1 z1) (fun z => by omega) (Or.inl rfl)
              rw [if_neg (fun z => z1 ((eq32_i (by omega) (by omega) (by omega) (by omega)).mp z))]
              by_cases z2 : d 6 e = -1
              · rw [if_pos ((eq32_i (by omega) (by omega) (by omega) (by omega)).mpr z2)]
                exact e84 q 0 hq0 hq1 hq (fun _ z => z.2.1 z2) (fun z => by omega) (Or.inl rfl)
              rw [if_neg (fun z => z2 ((eq32_i (by omega) (by omega) (by omega) (by omega)).mp z))]
              by_cases z3 : d 6 a = d 6 e
              · rw [if_pos ((eq32_i (by omega) (by omega) (by omega) (by omega)).mpr z3)]
                exact e84 q 0 hq0 hq1 hq (fun _ z => z.2.2 z3) (fun z => by omega) (Or.inl rfl)
              · rw [if_neg (fun z => z3 ((eq32_i (by omega) (by omega) (by omega) (by omega)).mp z))]
                exact e84 q 1 hq0 hq1 hq (fun z => by omega) (fun _ => ⟨z1, z2, z3⟩) (Or.inr rfl)
            unfold m_isTorn_41
            by_cases c3 : bo d a = b
            · rw [if_pos ((eq32_i (by omega) (by omega) (by omega) (by omega)).mpr c3)]
              by_cases c4 : bo d e = b
              · rw [if_pos ((eq32_i (by omega) (by omega) (by omega) (by omega)).mpr c4)]
                exact e42 1 (fun z => by omega) (fun _ => ⟨c3, c4⟩) (Or.inr rfl)
              · rw [if_neg (fun z => c4 ((eq32_i (by omega) (by omega) (by omega) (by omega)).mp z))]
                exact e42 0 (fun _ hp => c4 hp.2.1.2) (fun z => by omega) (Or.inl rfl)
            · rw [if_neg (fun z => c3 ((eq32_i (by omega) (by omega) (by omega) (by omega)).mp z))]
              exact e42 0 (fun _ hp => c3 hp.2.1.1) (fun z => by omega) (Or.inl rfl)
        · rintro e s' ⟨-, e0, e1, -⟩; omega
      rcases key with key | ⟨key, hk⟩
      · exact Or.inl key
      · exact Or.inr ⟨a + 1, s, key, ⟨rfl, by omega, by omega, hk⟩, by omega⟩
  · rintro a s ⟨-, h0, h1, -⟩; omega
