theorem law_loop {X : CxT} {l : Launch} {h1 h2 : Nat → Nat} {g : va_G × ClassId × ClassId × ClassId} (C : Cx X l (lW h1 h2 g) 4 code R_law lw_tbl ret room_1) {b L : Nat} {xs : Nat → Int32} (hX : va_X b L xs X.s X.s.heap) (hbl : b < X.s.heap.size) (hbA : ¬ xA (lW h1 h2 g) X.s.heap.size b) (hL : L < 2147483648) {N : Nat} {RR : St → St → Prop} (hSim : Sim N RR) (hQ : ∀ σ lv, Rj X (lW h1 h2 g) 4 (lw_Z X.below #[Value.ref b] X.s) 1635 lv [] σ) : ∀ (n : Nat) (v3 : Int) (σx σm : St), 0 ≤ v3 → v3 ≤ L → (L : Int) < v3 + n → RR σx σm → Rj X (lW h1 h2 g) 4 (lw_Z X.below #[Value.ref b] X.s) 18 [(0, .ref b), (1, .ref (h1 0)), (2, .ref (h2 0)), (3, vI v3)] [] (cm σx σm) := by
  intro n
  induction n with
  | zero => intro v3 σx σm g0 g1 g2; omega
  | succ n ih =>
    intro v3 σx σm g0 g1 g2 hR
    refine r_iload_n C (q := 19) 3 dw_18 rfl rfl rfl ?_
    refine r_aload_n C (q := 20) 0 dw_19 rfl rfl rfl ?_
    refine r_slen C (q := 21) hX hbl hbA dw_20 rfl ?_
    refine r_bipush C (q := 23) (x := 8) dw_21 rfl rfl ?_
    refine r_isub C (q := 24) dw_23 rfl ?_
    refine r_ic_gt C (t := 1635) (q := 27) dw_24 (by decide) rfl (fun _ => hQ _ _) (fun c => ?_)
    have hv2 : v3 + 8 ≤ L := by
      rcases Int.lt_or_le ((L : Int) - 8) v3 with h | h
      · exfalso
        apply c
        show Int32.ofInt _ < Int32.ofInt _
        rw [Int32.lt_iff_toInt_lt, Int32.toInt_ofInt_of_le (by omega) (by omega), Int32.toInt_ofInt_of_le (by omega) (by omega)]
        exact h
      · omega
    refine r_aload_n C (q := 28) 0 dw_27 rfl rfl rfl ?_
    refine r_iload_n C (q := 29) 3 dw_28 rfl rfl rfl ?_
    refine r_sld C (q := 30) hX hbl hbA hL ⟨by omega, by omega⟩ dw_29 rfl ?_
    refine r_bipush C (q := 32) (x := 63) dw_30 rfl rfl ?_
    refine r_iand C (q := 33) dw_32 rfl ?_
    have hk : ∀ sx sm, RR sx sm → Rj X (lW h1 h2 g) 4 (lw_Z X.below #[Value.ref b] X.s) 1629 [(0, .ref b), (1, .ref (h1 0)), (2, .ref (h2 0)), (3, vI v3)] [] (cm sx sm) := by
      intro sx sm hR2
      refine r_iinc C (lv' := [(3, vI (v3 + 8)), (0, .ref b), (1, .ref (h1 0)), (2, .ref (h2 0))]) (q := 1632) 3 dw_1629 rfl (by decide) rfl rfl ?_
      refine r_goto C (q := 18) dw_1632 (by decide) ?_
      exact r_sub [1, 2, 3, 0] rfl (ih (v3 + 8) sx sm (by omega) hv2 (by omega) hR2)
    have hS := hSim σx σm hR
    generalize an32 (xs v3.toNat).toInt 63 = z
    by_cases e0 : s32 z = 0
    · exact r_tabIn C (t := 212) dw_33 e0 (by decide) (by decide) rfl (by decide) (lc_0 C hX hbl hbA hL hS.1 g0 hv2 hk)
    by_cases e1 : s32 z = 1
    · exact r_tabIn C (t := 235) dw_33 e1 (by decide) (by decide) rfl (by decide) (lc_1 C hX hbl hbA hL hS.2.1 g0 hv2 hk)
    by_cases e2 : s32 z = 2
    · exact r_tabIn C (t := 322) dw_33 e2 (by decide) (by decide) rfl (by decide) (lc_2 C hX hbl hbA hL hS.2.2.1 g0 hv2 hk)
    by_cases e3 : s32 z = 3
    · exact r_tabIn C (t := 345) dw_33 e3 (by decide) (by decide) rfl (by decide) (lc_3 C hX hbl hbA hL hS.2.2.2.1 g0 hv2 hk)
    by_cases e4 : s32 z = 4
    · exact r_tabIn C (t := 378) dw_33 e4 (by decide) (by decide) rfl (by decide) (lc_4 C hX hbl hbA hL hS.2.2.2.2.1 g0 hv2 hk)
    by_cases e5 : s32 z = 5
    · exact r_tabIn C (t := 411) dw_33 e5 (by decide) (by decide) rfl (by decide) (lc_5 C hX hbl hbA hL hS.2.2.2.2.2.1 g0 hv2 hk)
    by_cases e6 : s32 z = 6
    · exact r_tabIn C (t := 434) dw_33 e6 (by decide) (by decide) rfl (by decide) (lc_6 C hX hbl hbA hL hS.2.2.2.2.2.2.1 g0 hv2 hk)
    by_cases e7 : s32 z = 7
    · exact r_tabIn C (t := 477) dw_33 e7 (by decide) (by decide) rfl (by decide) (lc_7 C hX hbl hbA hL hS.2.2.2.2.2.2.2.1 g0 hv2 hk)
    by_cases e8 : s32 z = 8
    · exact r_tabIn C (t := 500) dw_33 e8 (by decide) (by decide) rfl (by decide) (lc_8 C hX hbl hbA hL hS.2.2.2.2.2.2.2.2.1 g0 hv2 hk)
    by_cases e9 : s32 z = 9
    · exact r_tabIn C (t := 513) dw_33 e9 (by decide) (by decide) rfl (by decide) (lc_9 C hX hbl hbA hL hS.2.2.2.2.2.2.2.2.2.1 g0 hv2 hk)
    by_cases e10 : s32 z = 10
    · exact r_tabIn C (t := 526) dw_33 e10 (by decide) (by decide) rfl (by decide) (lc_10 C hX hbl hbA hL hS.2.2.2.2.2.2.2.2.2.2.1 g0 hv2 hk)
    by_cases e11 : s32 z = 11
    · exact r_tabIn C (t := 559) dw_33 e11 (by decide) (by decide) rfl (by decide) (lc_11 C hX hbl hbA hL hS.2.2.2.2.2.2.2.2.2.2.2.1 g0 hv2 hk)
    by_cases e12 : s32 z = 12
    · exact r_tabIn C (t := 592) dw_33 e12 (by decide) (by decide) rfl (by decide) (lc_12 C hX hbl hbA hL hS.2.2.2.2.2.2.2.2.2.2.2.2.1 g0 hv2 hk)
    by_cases e13 : s32 z = 13
    · exact r_tabIn C (t := 635) dw_33 e13 (by decide) (by decide) rfl (by decide) (lc_13 C hX hbl hbA hL hS.2.2.2.2.2.2.2.2.2.2.2.2.2.1 g0 hv2 hk)
    by_cases e14 : s32 z = 14
    · exact r_tabIn C (t := 678) dw_33 e14 (by decide) (by decide) rfl (by decide) (lc_14 C hX hbl hbA hL hS.2.2.2.2.2.2.2.2.2.2.2.2.2.2.1 g0 hv2 hk)
    by_cases e15 : s32 z = 15
    · exact r_tabIn C (t := 711) dw_33 e15 (by decide) (by decide) rfl (by decide) (lc_15 C hX hbl hbA hL hS.2.2.2.2.2.2.2.2.2.2.2.2.2.2.2.1 g0 hv2 hk)
    by_cases e16 : s32 z = 16
    · exact r_tabIn C (t := 780) dw_33 e16 (by decide) (by decide) rfl (by decide) (lc_16 C hX hbl hbA hL hS.2.2.2.2.2.2.2.2.2.2.2.2.2.2.2.2.1 g0 hv2 hk)
    by_cases e17 : s32 z = 17
    · exact r_tabIn C (t := 824) dw_33 e17 (by decide) (by decide) rfl (by decide) (lc_17 C hX hbl hbA hL hS.2.2.2.2.2.2.2.2.2.2.2.2.2.2.2.2.2.1 g0 hv2 hk)
    by_cases e18 : s32 z = 18
    · exact r_tabIn C (t := 877) dw_33 e18 (by decide) (by decide) rfl (by decide) (lc_18 C hX hbl hbA hL hS.2.2.2.2.2.2.2.2.2.2.2.2.2.2.2.2.2.2.1 g0 hv2 hk)
    by_cases e19 : s32 z = 19
    · exact r_tabIn C (t := 900) dw_33 e19 (by decide) (by decide) rfl (by decide) (lc_19 C hX hbl hbA hL hS.2.2.2.2.2.2.2.2.2.2.2.2.2.2.2.2.2.2.2.1 g0 hv2 hk)
    by_cases e20 : s32 z = 20
    · exact r_tabIn C (t := 913) dw_33 e20 (by decide) (by decide) rfl (by decide) (lc_20 C hX hbl hbA hL hS.2.2.2.2.2.2.2.2.2.2.2.2.2.2.2.2.2.2.2.2.1 g0 hv2 hk)
    by_cases e21 : s32 z = 21
    · exact r_tabIn C (t := 956) dw_33 e21 (by decide) (by decide) rfl (by decide) (lc_21 C hX hbl hbA hL hS.2.2.2.2.2.2.2.2.2.2.2.2.2.2.2.2.2.2.2.2.2.1 g0 hv2 hk)
    by_cases e22 : s32 z = 22
    · exact r_tabIn C (t := 989) dw_33 e22 (by decide) (by decide) rfl (by decide) (lc_22 C hX hbl hbA hL hS.2.2.2.2.2.2.2.2.2.2.2.2.2.2.2.2.2.2.2.2.2.2.1 g0 hv2 hk)
    by_cases e23 : s32 z = 23
    · exact r_tabIn C (t := 1012) dw_33 e23 (by decide) (by decide) rfl (by decide) (lc_23 C hX hbl hbA hL hS.2.2.2.2.2.2.2.2.2.2.2.2.2.2.2.2.2.2.2.2.2.2.2.1 g0 hv2 hk)
    by_cases e24 : s32 z = 24
    · exact r_tabIn C (t := 1035) dw_33 e24 (by decide) (by decide) rfl (by decide) (lc_24 C hX hbl hbA hL hS.2.2.2.2.2.2.2.2.2.2.2.2.2.2.2.2.2.2.2.2.2.2.2.2.1 g0 hv2 hk)
    by_cases e25 : s32 z = 25
    · exact r_tabIn C (t := 1058) dw_33 e25 (by decide) (by decide) rfl (by decide) (lc_25 C hX hbl hbA hL hS.2.2.2.2.2.2.2.2.2.2.2.2.2.2.2.2.2.2.2.2.2.2.2.2.2.1 g0 hv2 hk)
    by_cases e26 : s32 z = 26
    · exact r_tabIn C (t := 1091) dw_33 e26 (by decide) (by decide) rfl (by decide) (lc_26 C hX hbl hbA hL hS.2.2.2.2.2.2.2.2.2.2.2.2.2.2.2.2.2.2.2.2.2.2.2.2.2.2.1 g0 hv2 hk)
    by_cases e27 : s32 z = 27
    · exact r_tabIn C (t := 1150) dw_33 e27 (by decide) (by decide) rfl (by decide) (lc_27 C hX hbl hbA hL hS.2.2.2.2.2.2.2.2.2.2.2.2.2.2.2.2.2.2.2.2.2.2.2.2.2.2.2.1 g0 hv2 hk)
    by_cases e28 : s32 z = 28
    · exact r_tabIn C (t := 1173) dw_33 e28 (by decide) (by decide) rfl (by decide) (lc_28 C hX hbl hbA hL hS.2.2.2.2.2.2.2.2.2.2.2.2.2.2.2.2.2.2.2.2.2.2.2.2.2.2.2.2.1 g0 hv2 hk)
    by_cases e29 : s32 z = 29
    · exact r_tabIn C (t := 1196) dw_33 e29 (by decide) (by decide) rfl (by decide) (lc_29 C hX hbl hbA hL hS.2.2.2.2.2.2.2.2.2.2.2.2.2.2.2.2.2.2.2.2.2.2.2.2.2.2.2.2.2.1 g0 hv2 hk)
    by_cases e30 : s32 z = 30
    · exact r_tabIn C (t := 1255) dw_33 e30 (by decide) (by decide) rfl (by decide) (lc_30 C hX hbl hbA hL hS.2.2.2.2.2.2.2.2.2.2.2.2.2.2.2.2.2.2.2.2.2.2.2.2.2.2.2.2.2.2.1 g0 hv2 hk)
    by_cases e31 : s32 z = 31
    · exact r_tabIn C (t := 1298) dw_33 e31 (by decide) (by decide) rfl (by decide) (lc_31 C hX hbl hbA hL hS.2.2.2.2.2.2.2.2.2.2.2.2.2.2.2.2.2.2.2.2.2.2.2.2.2.2.2.2.2.2.2.1 g0 hv2 hk)
    by_cases e32 : s32 z = 32
    · exact r_tabIn C (t := 1321) dw_33 e32 (by decide) (by decide) rfl (by decide) (lc_32 C hX hbl hbA hL hS.2.2.2.2.2.2.2.2.2.2.2.2.2.2.2.2.2.2.2.2.2.2.2.2.2.2.2.2.2.2.2.2.1 g0 hv2 hk)
    by_cases e33 : s32 z = 33
    · exact r_tabIn C (t := 1334) dw_33 e33 (by decide) (by decide) rfl (by decide) (lc_33 C hX hbl hbA hL hS.2.2.2.2.2.2.2.2.2.2.2.2.2.2.2.2.2.2.2.2.2.2.2.2.2.2.2.2.2.2.2.2.2.1 g0 hv2 hk)
    by_cases e34 : s32 z = 34
    · exact r_tabIn C (t := 1377) dw_33 e34 (by decide) (by decide) rfl (by decide) (lc_34 C hX hbl hbA hL hS.2.2.2.2.2.2.2.2.2.2.2.2.2.2.2.2.2.2.2.2.2.2.2.2.2.2.2.2.2.2.2.2.2.2.1 g0 hv2 hk)
    by_cases e35 : s32 z = 35
    · exact r_tabIn C (t := 1400) dw_33 e35 (by decide) (by decide) rfl (by decide) (lc_35 C hX hbl hbA hL hS.2.2.2.2.2.2.2.2.2.2.2.2.2.2.2.2.2.2.2.2.2.2.2.2.2.2.2.2.2.2.2.2.2.2.2.1 g0 hv2 hk)
    by_cases e36 : s32 z = 36
    · exact r_tabIn C (t := 1453) dw_33 e36 (by decide) (by decide) rfl (by decide) (lc_36 C hX hbl hbA hL hS.2.2.2.2.2.2.2.2.2.2.2.2.2.2.2.2.2.2.2.2.2.2.2.2.2.2.2.2.2.2.2.2.2.2.2.2.1 g0 hv2 hk)
    by_cases e37 : s32 z = 37
    · exact r_tabIn C (t := 1496) dw_33 e37 (by decide) (by decide) rfl (by decide) (lc_37 C hX hbl hbA hL hS.2.2.2.2.2.2.2.2.2.2.2.2.2.2.2.2.2.2.2.2.2.2.2.2.2.2.2.2.2.2.2.2.2.2.2.2.2.1 g0 hv2 hk)
    by_cases e38 : s32 z = 38
    · exact r_tabIn C (t := 1559) dw_33 e38 (by decide) (by decide) rfl (by decide) (lc_38 C hX hbl hbA hL hS.2.2.2.2.2.2.2.2.2.2.2.2.2.2.2.2.2.2.2.2.2.2.2.2.2.2.2.2.2.2.2.2.2.2.2.2.2.2.1 g0 hv2 hk)
    by_cases e39 : s32 z = 39
    · exact r_tabIn C (t := 1592) dw_33 e39 (by decide) (by decide) rfl (by decide) (lc_39 C hX hbl hbA hL hS.2.2.2.2.2.2.2.2.2.2.2.2.2.2.2.2.2.2.2.2.2.2.2.2.2.2.2.2.2.2.2.2.2.2.2.2.2.2.2.1 g0 hv2 hk)
    by_cases e40 : s32 z = 40
    · exact r_tabIn C (t := 1615) dw_33 e40 (by decide) (by decide) rfl (by decide) (lc_40 C hX hbl hbA hL hS.2.2.2.2.2.2.2.2.2.2.2.2.2.2.2.2.2.2.2.2.2.2.2.2.2.2.2.2.2.2.2.2.2.2.2.2.2.2.2.2 g0 hv2 hk)
    exact r_tabOut C (t := 1629) dw_33 (by omega) (by decide) (hk σx σm hR)
/-- the statics' words: what the Statement gives of the three tables -/
theorem sT_of {b : Nat} {s : State} (hts : ∀ w ∈ tables_1, w.before #[Value.ref b] s = true) (hgv : (Jvm.Cond.and given_1 narrow_1).before #[Value.ref b] s = true) : sT (fun q : Nat => s.heap.size ≤ q) s s.heap := by
  have hs := flat_of_before _ hgv
  have hA : ∀ a : Nat, a < s.heap.size → ¬ s.heap.size ≤ a := fun a h => Nat.not_le.mpr h
  have key : ∀ (n : String) (g : Int → Int) (z0 z1 z2 z3 : Int32), Cond.laysStatic "OneSelf$Weights" n "[I" ∈ tables_1 → (Cond.arrayOf (.static "OneSelf$Weights" n "[I") .int).before #[Value.ref b] s = true → (Cond.eq (.length (.static "OneSelf$Weights" n "[I")) (.int 4)).before #[Value.ref b] s = true →
      (Cond.eq (.elem (.static "OneSelf$Weights" n "[I") (.int 0)) (.int z0)).before #[Value.ref b] s = true → (Cond.eq (.elem (.static "OneSelf$Weights" n "[I") (.int 1)) (.int z1)).before #[Value.ref b] s = true → (Cond.eq (.elem (.static "OneSelf$Weights" n "[I") (.int 2)) (.int z2)).before #[Value.ref b] s = true → (Cond.eq (.elem (.static "OneSelf$Weights" n "[I") (.int 3)) (.int z3)).before #[Value.ref b] s = true →
      fP g 0 = .int z0 → fP g 1 = .int z1 → fP g 2 = .int z2 → fP g 3 = .int z3 → sTt n (fP g) (fun q : Nat => s.heap.size ≤ q) s s.heap := by
    intro n g z0 z1 z2 z3 h1 h2 h3 h4 h5 h6 h7 e0 e1 e2 e3
    obtain ⟨t, ht, hT⟩ := va_Tof (N := 4) (f := fP g) (A := fun q : Nat => s.heap.size ≤ q) (by decide) h2 (va_eqt h3) (fun j hj => by
      rcases (show j = 0 ∨ j = 1 ∨ j = 2 ∨ j = 3 by omega) with rfl | rfl | rfl | rfl
      · rw [e0]; exact va_eqt h4
      · rw [e1]; exact va_eqt h5
      · rw [e2]; exact va_eqt h6
      · rw [e3]; exact va_eqt h7) hA
    exact ⟨t, va_Zref (hts _ h1) (hts _ (by decide +kernel : Cond.initialized "OneSelf$Weights" ∈ tables_1)) ht hA, hT⟩
  refine ⟨key "FIRST_POINTS" fpt1 20 10 0 (-20) (by decide +kernel) ?_ ?_ ?_ ?_ ?_ ?_ rfl rfl rfl rfl, key "FIRST_ONE" fpt2 700 200 80 20 (by decide +kernel) ?_ ?_ ?_ ?_ ?_ ?_ rfl rfl rfl rfl, key "FIRST_NOT_ONE" fpt3 20 80 200 700 (by decide +kernel) ?_ ?_ ?_ ?_ ?_ ?_ rfl rfl rfl rfl⟩ <;> exact hs _ (by decide +kernel)
/-- the classes of rows of numbers -/
theorem ty_of {args : Array Value} {s : State} (h : ∀ w ∈ tb_g, w.before args s = true) : ∃ cyI cyJ cyZ : ClassId, ∀ (k : Nat) (q : ClassId × FieldType), (ty3 cyI cyJ cyZ)[k]? = some q → ArrOfT s q.1 q.2 ∧ va_RA s q.1 q.2 := by
  have key : ∀ ty : FieldType, (Cond.arrayClass ty).before args s = true → (∀ c, s.vm.findClass ("[" ++ ty.toString) = some c → va_RA s c ty) → ∃ c, ArrOfT s c ty ∧ va_RA s c ty := by
    intro ty h1 h2
    obtain ⟨c, k, comp, a1, a2, a3⟩ := Cond.arrayClass_spec h1
    exact ⟨c, fun n z => ⟨fun k h => (by cases h), k, a2, comp, a3⟩, h2 c a1⟩
  obtain ⟨cI, a1, a2⟩ := key .int (h _ ar_I) (fun c e => e)
  obtain ⟨cJ, b1, b2⟩ := key .long (h _ ar_J) (fun c e => e)
  obtain ⟨cZ, c1, c2⟩ := key .boolean (h _ ar_Z) (fun c e => e)
  refine ⟨cI, cJ, cZ, fun k q hq => ?_⟩
  match k, hq with
  | 0, hq => cases hq; exact ⟨a1, a2⟩
  | 1, hq => cases hq; exact ⟨b1, b2⟩
  | 2, hq => cases hq; exact ⟨c1, c2⟩
  | k + 3, hq => simp [ty3] at hq
theorem cl_of {args : Array Value} {s : State} (h : ∀ w ∈ tb_g, w.before args s = true) : ∃ D : va_G, ∀ (c : Nat) (q : vw_C), cls_[c]? = some q → u_Kn s q.1 q.2.1 q.2.2 (D.1 c) (D.2 c) := by
  have key : ∀ c : Nat, ∃ p : ClassId × (Nat → Nat), ∀ q : vw_C, cls_[c]? = some q → u_Kn s q.1 q.2.1 q.2.2 p.1 p.2 := by
    intro c
    match c with
    | 0 =>
      obtain ⟨c0, iS, hK⟩ := u_known (C := R_O) (T := T_O) (N := 11) (n := 11) h in_O (h _ (tb_at (i := 19) (by decide +kernel)))
      exact ⟨(c0, iS), fun q hq => by cases hq; exact hK⟩
    | 1 =>
      obtain ⟨c0, iS, hK⟩ := u_known (C := R_Sheets) (T := T_Sheets) (N := 4) (n := 4) h in_Sheets (h _ (tb_at (i := 27) (by decide +kernel)))
      exact ⟨(c0, iS), fun q hq => by cases hq; exact hK⟩
    | 2 =>
      obtain ⟨c0, iS, hK⟩ := u_known (C := R_Pairs) (T := T_Pairs) (N := 4) (n := 4) h in_Pairs (h _ (tb_at (i := 51) (by decide +kernel)))
      exact ⟨(c0, iS), fun q hq => by cases hq; exact hK⟩
    | 3 =>
      obtain ⟨c0, iS, hK⟩ := u_known (C := R_Rows) (T := T_Rows) (N := 5) (n := 5) h in_Rows (h _ (tb_at (i := 57) (by decide +kernel)))
      exact ⟨(c0, iS), fun q hq => by cases hq; exact hK⟩
    | 4 =>
      obtain ⟨c0, iS, hK⟩ := u_known (C := R_Slips) (T := T_Slips) (N := 2) (n := 2) h in_Slips (h _ (tb_at (i := 88) (by decide +kernel)))
      exact ⟨(c0, iS), fun q hq => by cases hq; exact hK⟩
    | 5 =>
      obtain ⟨c0, iS, hK⟩ := u_known (C := R_Sounds) (T := T_Sounds) (N := 6) (n := 6) h in_Sounds (h _ (tb_at (i := 101) (by decide +kernel)))
      exact ⟨(c0, iS), fun q hq => by cases hq; exact hK⟩
    | 6 =>
      obtain ⟨c0, iS, hK⟩ := u_known (C := R_Weights) (T := T_Weights) (N := 5) (n := 5) h in_Weights (h _ (tb_at (i := 129) (by decide +kernel)))
      exact ⟨(c0, iS), fun q hq => by cases hq; exact hK⟩
    | 7 =>
      obtain ⟨c0, iS, hK⟩ := u_known (C := R_Laying) (T := T_Laying) (N := 7) (n := 7) h in_Laying (h _ (tb_at (i := 184) (by decide +kernel)))
      exact ⟨(c0, iS), fun q hq => by cases hq; exact hK⟩
    | 8 =>
      obtain ⟨c0, iS, hK⟩ := u_known (C := R_Bundles) (T := T_Bundles) (N := 2) (n := 2) h in_Bundles (h _ (tb_at (i := 213) (by decide +kernel)))
      exact ⟨(c0, iS), fun q hq => by cases hq; exact hK⟩
    | 9 =>
      obtain ⟨c0, iS, hK⟩ := u_known (C := R_Cut) (T := T_Cut) (N := 5) (n := 5) h in_Cut (h _ (tb_at (i := 226) (by decide +kernel)))
      exact ⟨(c0, iS), fun q hq => by cases hq; exact hK⟩
    | 10 =>
      obtain ⟨c0, iS, hK⟩ := u_known (C := R_Checks) (T := T_Checks) (N := 4) (n := 4) h in_Checks (h _ (tb_at (i := 248) (by decide +kernel)))
      exact ⟨(c0, iS), fun q hq => by cases hq; exact hK⟩
    | 11 =>
      obtain ⟨c0, iS, hK⟩ := u_known (C := R_Keys) (T := T_Keys) (N := 2) (n := 2) h in_Keys (h _ (tb_at (i := 273) (by decide +kernel)))
      exact ⟨(c0, iS), fun q hq => by cases hq; exact hK⟩
    | 12 =>
      obtain ⟨c0, iS, hK⟩ := u_known (C := R_M) (T := T_M) (N := 52) (n := 52) h in_M (h _ (tb_at (i := 959) (by decide +kernel)))
      exact ⟨(c0, iS), fun q hq => by cases hq; exact hK⟩
    | c + 13 => exact ⟨(0, fun _ => 0), fun q hq => by simp [cls_] at hq⟩
  exact ⟨(fun c => (Classical.choose (key c)).1, fun c => (Classical.choose (key c)).2), fun c q hq => Classical.choose_spec (key c) q hq⟩
theorem wd_app {w1 w2 w : WoT} {σ1 σ2 σ : St} (E1 : emb w1 w 0) (E2 : emb w2 w w1.n) (hn : w.n = w1.n + w2.n) (h1 : ∀ k, k < w1.n → σ (k + 0) = σ1 k) (h2 : ∀ k, k < w2.n → σ (k + w1.n) = σ2 k) : wd w1 σ1 ++ wd w2 σ2 = wd w σ := by
  have l1 : (wd w1 σ1).length = w1.n := by unfold wd; simp
  apply List.ext_getElem?
  intro i
  by_cases hi : i < w1.n
  · rw [List.getElem?_append_left (by omega), wd_get w1 σ1 hi]
    obtain ⟨a1, a2, a3⟩ := E1.1 i hi
    have := wd_get w σ a1
    rw [a2, a3, h1 i hi] at this
    exact this.symm
  · rw [List.getElem?_append_right (by omega), l1]
    by_cases hj : i - w1.n < w2.n
    · rw [wd_get w2 σ2 hj]
      obtain ⟨a1, a2, a3⟩ := E2.1 _ hj
      have := wd_get w σ a1
      rw [a2, a3, h2 _ hj, show i - w1.n + w1.n = i by omega] at this
      exact this.symm
    · rw [List.getElem?_eq_none (by unfold wd; simp; omega), List.getElem?_eq_none (by unfold wd; simp; omega)]
theorem k_tail2 {X : CxT} {l : Launch} {D : va_G} {cyI cyJ cyZ : ClassId} {nL : Nat} {cc : ByteArray} {own : String} {Ts : List Cond} {ret : Option FieldType} {rm : Room} {Q : State → Prop} {kc ks pc : Nat} {lv : List (Nat × Value)} {st : List Value} {ws : va_W} (C : Cx X l (w0 D (ty3 cyI cyJ cyZ)) nL cc own Ts ret rm) (w : WoT) (hw : w.D = D ∧ w.cl = cls_ ∧ w.tys = ty3 cyI cyJ cyZ) (σ : St) (hws : ws = wd w σ) (hk : kc ≤ rm.cells ∧ ks ≤ rm.slots)
    (k : ∀ X' : CxT, X'.s = X.s → X'.below = X.below → X'.p = X.p → X'.e = X.e → X'.m = X.m → X'.args = X.args → X'.meth = X.meth → X'.c = X.c → X'.R = X.R → X'.l = X.l → X'.kc = kc → X'.ks = ks → (∀ k, k < w.n → X.s.heap.size ≤ w.h k) → Cx X' l w nL cc own Ts ret rm → Rj X' w nL Q pc lv st σ) : Lk X D (fun q : Nat => X.s.heap.size ≤ q) nL Q kc ks pc lv st ws := by
  obtain ⟨e1, e2, e3⟩ := hw
  intro H locs ls hP hD hS hl
  subst hws
  have hi : wo_i w := fun i j h1 h2 e => hD.1 i j _ _ (wd_get w σ h1) (wd_get w σ h2) e
  have hb0 : ∀ k, k < w.n → X.s.heap.size ≤ w.h k := fun k h => hD.2 k _ (wd_get w σ h)
  have hAe : (fun q : Nat => X.s.heap.size ≤ q) = xA w X.s.heap.size := funext fun q => propext ⟨fun h => Or.inr h, fun h => by
    rcases h with ⟨k, h, e⟩ | h
    · rw [← e]; exact hb0 k h
    · exact h⟩
  obtain ⟨p, l', e, R, s, m, args, below, meth, c, x1, x2⟩ := X
  exact k (p, l', e, R, s, m, args, below, meth, c, kc, ks) rfl rfl rfl rfl rfl rfl rfl rfl rfl rfl rfl rfl hb0 ⟨C.x, C.b, C.ml, C.ow, C.ts, by rw [e1, e2, e3]; exact C.K, hi, C.lk, C.r, C.R, C.nw, C.la, C.tb, hk.1, hk.2⟩ H locs ls (by rw [e1, e2]; exact hP) (by rw [← hAe]; exact hS) hl
/-- from the entry, for every relation that the two sides keep -/
theorem law_start {p : Program} {e : Env} {s : State} {m : MethodId} {below : List Frame} {meth : Method} {c : Code} (l : Launch) {b L : Nat} {xs : Nat → Int32} (hL : L ≤ 4096) (C0 : lw_At p s m meth c b L xs) {N : Nat} {oSheets oSounds oWeights oM : Int × St} (hfSheets : i_Sheets N z0_Sheets = some oSheets) (hfSounds : i_Sounds N z0_Sounds = some oSounds) (hfWeights : i_Weights N z0_Weights = some oWeights) (hfM : i_M N z0_M = some oM) {RR : St → St → Prop} (hSim : Sim N RR) (hR0 : RR (z_O oSheets oSounds oWeights) oM.2) : W p l e room_1 s m #[Value.ref b] below meth c s.heap [] 0 0 (lw_Z below #[Value.ref b] s) (entryFrame m ([Value.ref b] : List Value).toArray 4) := by
  obtain ⟨hx, hb, hr, hml, hown, hts, hX, hbl, hlocks, hgv⟩ := C0
  have ht1 : ∀ w ∈ tables_1, w.before #[Value.ref b] s = true := fun w h => hts w (List.mem_append_right _ h)
  have htg : ∀ w ∈ tb_g, w.before #[Value.ref b] s = true := fun w h => hts w (List.mem_filter.mp h).1
  obtain ⟨cyI, cyJ, cyZ, hty⟩ := ty_of htg
  obtain ⟨D, hcl⟩ := cl_of htg
  have hsT := sT_of ht1 hgv
  have C : Cx (p, l, e, room_1, s, m, #[Value.ref b], below, meth, c, 0, 0) l (w0 D (ty3 cyI cyJ cyZ)) 4 code R_law lw_tbl ret room_1 := ⟨hx, hb, hml, hown, hts, ⟨hcl, hty⟩, (fun i j h => absurd h (Nat.not_lt_zero _)), hlocks, hr, rfl, nw_tb ht1, rfl, fun w h => (List.mem_filter.mp h).1, Nat.zero_le _, Nat.zero_le _⟩
  have hA : ∀ q : Nat, s.heap.size ≤ q → (fun q : Nat => s.heap.size ≤ q) q := fun _ h => h
  have hl := lv_entry ([.ref b]) (n := 4) (Nat.le_of_ble_eq_true rfl)
  rw [lg_entry_eq]
  suffices h : Lk (p, l, e, room_1, s, m, #[Value.ref b], below, meth, c, 0, 0) D (fun q : Nat => s.heap.size ≤ q) 4 (lw_Z below #[Value.ref b] s) 0 0 0 [(0, .ref b)] [] [] from
    h s.heap [] _ (fun k q h => by simp at h) ⟨fun i j p q h => by simp at h, fun k q h => by simp at h⟩ va_S.rf hl
  refine k_new C (q := 3) (kc' := 1) (ks' := 11) (ws'' := fun q0 => [(q0, .inr (0, [.null, .null, .null, .null, .null, .null, .null, .null, .null, .null, .null]))]) hA (ci := 0) rfl in_O ft_O ft_O_ok (tb_at (i := 18) (by decide +kernel)) (tb_at (i := 19) (by decide +kernel)) (tb_at (i := 1) (by decide +kernel)) (by decide) (Nat.le_of_ble_eq_true rfl) (Nat.le_of_ble_eq_true rfl) rfl rfl dw_0 rfl (fun _ => rfl) (fun q0 => ?_)
  refine k_dup C (q := 4) dw_3 rfl rfl ?_
  refine k_callI C (q := 7) (kc' := 41) (ks' := 4386) hA hsT (c_init_O hfSheets hfSounds hfWeights) mk_O_init ml_Law_9 rfl rfl ⟨Nat.le_of_ble_eq_true rfl, Nat.le_of_ble_eq_true rfl⟩ ⟨Nat.le_of_ble_eq_true rfl, Nat.le_of_ble_eq_true rfl⟩ (Nat.le_of_ble_eq_true rfl) 0 rfl [] [] rfl (by decide) (by decide) rfl rfl dw_4 rfl (ws'' := fun u => wd (xW (u, D, cyI, cyJ, cyZ)) (z_O oSheets oSounds oWeights)) (fun _ => rfl) (fun u hu => ?_)
  subst hu
  refine k_astore_n C (lv' := [(1, .ref (u 0)), (0, .ref b)]) (q := 8) dw_7 rfl (by decide) rfl rfl ?_
  refine k_new C (q := 11) (kc' := 42) (ks' := 4438) (ws'' := fun q8 => wd (xW (u, D, cyI, cyJ, cyZ)) (z_O oSheets oSounds oWeights) ++ [(q8, .inr (12, [vI 0, vI 0, .null, .null, .null, .null, .null, .null, .null, .null, vI 0, .null, vI 0, .null, .null, vI 0, vI 0, .null, .null, .null, .null, .null, vJ 0, vJ 0, vI 0, .null, vI 0, vI 0, vI 0, .null, .null, .null, .null, .null, vI 0, .null, .null, vI 0, .null, .null, .null, .null, .null, .null, .null, .null, .null, .null, .null, .null, .null, vI 0]))]) hA (ci := 12) rfl in_M ft_M ft_M_ok (tb_at (i := 958) (by decide +kernel)) (tb_at (i := 959) (by decide +kernel)) (tb_at (i := 14) (by decide +kernel)) (by decide) (Nat.le_of_ble_eq_true rfl) (Nat.le_of_ble_eq_true rfl) rfl rfl dw_8 rfl (fun _ => rfl) (fun q8 => ?_)
  refine k_dup C (q := 12) dw_11 rfl rfl ?_
  refine k_callI C (q := 15) (kc' := 79) (ks' := 18795) hA hsT (c_init_M hfM) mk_M_init ml_Law_12 rfl rfl ⟨Nat.le_of_ble_eq_true rfl, Nat.le_of_ble_eq_true rfl⟩ ⟨Nat.le_of_ble_eq_true rfl, Nat.le_of_ble_eq_true rfl⟩ (Nat.le_of_ble_eq_true rfl) 41 rfl [0, 1, 2, 3, 4, 5, 6, 7, 8, 9, 10, 11, 12, 13, 14, 15, 16, 17, 18, 19, 20, 21, 22, 23, 24, 25, 26, 27, 28, 29, 30, 31, 32, 33, 34, 35, 36, 37, 38, 39, 40] (wd (xW (u, D, cyI, cyJ, cyZ)) (z_O oSheets oSounds oWeights)) rfl (by decide) (by decide) rfl rfl dw_12 rfl (ws'' := fun u8 => wd (xW (u, D, cyI, cyJ, cyZ)) (z_O oSheets oSounds oWeights) ++ wd (mW (u8, D, cyI, cyJ, cyZ)) oM.2) (fun _ => rfl) (fun u8 hu8 => ?_)
  subst hu8
  refine k_astore_n C (lv' := [(2, .ref (u8 0)), (1, .ref (u 0)), (0, .ref b)]) (q := 16) dw_15 rfl (by decide) rfl rfl ?_
  refine k_iconst C (q := 17) dw_16 rfl ?_
  refine k_istore_n C (lv' := [(3, vI 0), (2, .ref (u8 0)), (1, .ref (u 0)), (0, .ref b)]) (q := 18) dw_17 rfl (by decide) rfl rfl ?_
  refine k_tail2 C (lW u u8 (D, cyI, cyJ, cyZ)) ⟨rfl, rfl, rfl⟩ (cm (z_O oSheets oSounds oWeights) oM.2) (wd_app (emb_x u u8 (D, cyI, cyJ, cyZ)) (emb_m u u8 (D, cyI, cyJ, cyZ)) rfl (cm_x _ _) (cm_m _ _)) ⟨Nat.le_of_ble_eq_true rfl, Nat.le_of_ble_eq_true rfl⟩ (fun X' e0 e1 e2 e3 e4 e5 e6 e7 e8 e9 e10 e11 hb0 C9 => ?_)
  obtain ⟨p', l', e', R', s', m', args', below', meth', c', kc', ks'⟩ := X'
  cases e0; cases e1; cases e2; cases e3; cases e4; cases e5; cases e6; cases e7; cases e8; cases e9; cases e10; cases e11
  have hbA : ¬ xA (lW u u8 (D, cyI, cyJ, cyZ)) s.heap.size b := by
    rintro (⟨k, hk, e⟩ | h)
    · have := hb0 k hk
      rw [e] at this
      exact absurd hbl (Nat.not_lt.mpr this)
    · exact absurd hbl (Nat.not_lt.mpr h)
  refine r_sub [3, 2, 1, 0] rfl (law_loop C9 hX hbl hbA (by omega) hSim (fun σ lv => ?_) (L + 1) 0 _ _ (by omega) (by omega) (by omega) hR0)
  refine r_iconst C9 (q := 1636) dw_1635 rfl ?_
  intro H locs ls hP hS hl
  refine va_forget (fun q hq => ?_) (lw_ret hx hb hr hlocks dw_1636)
  rcases hS.2.2 q hq with ⟨k, hk, e⟩ | h
  · rw [← e]; exact hb0 k hk
  · exact h
