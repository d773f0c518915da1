def x_Bundles_numberOf (N : Nat) (v1 : Int) (s : St) : MM := gd (inb v1 36) (some (s 31 v1, s))
abbrev rm_x_Bundles_numberOf : Room := { frames := 0, cells := 0, slots := 0, locals := 0 }
theorem c_x_Bundles_numberOf {l : Launch} {G : GG} (hi : wo_i (xW G)) {N : Nat} {v1 : Int} {s : St} {o : Int × St} (hf : x_Bundles_numberOf N v1 s = some o) : CtI l (xW G) y_Bundles_numberOf (wo y_Bundles_numberOf prog_2_method_4_code 2 (some .int)) rm_x_Bundles_numberOf [.ref ((xW G).h 8), vI v1] s o := by
  refine ct_I (by decide +kernel) hi (Nat.le_of_ble_eq_true rfl) fun X C => ?_
  unfold x_Bundles_numberOf at hf
  show Rj X (xW G) 2 (qI X (xW G) o) 0 [(0, .ref ((xW G).h 8)), (1, vI v1)] [] s
  refine r_aload_n C (q := 1) 0 d_Bundles_numberOf_0 rfl rfl rfl ?_
  refine gxx_Bundles_numbers C (q := 4) fl_Bundles_9 d_Bundles_numberOf_1 rfl ?_
  refine r_iload_n C (q := 5) 1 d_Bundles_numberOf_4 rfl rfl rfl ?_
  obtain ⟨g5, hf⟩ := gd_s hf
  refine r_iald C (q := 6) 31 (Nat.le_of_ble_eq_true rfl) (fun _ => rfl) 0 rfl g5 (by decide) d_Bundles_numberOf_5 rfl ?_
  exact r_ireturn C hf d_Bundles_numberOf_6
def x_bundle (N : Nat) (v1 : Int) (s : St) : MM := bd (x_Rows_has N v1 s) (fun r5 s5 => if eq32 r5 0 then (some ((-2), s5)) else (bd (x_Rows_isKnown N v1 s5) (fun r19 s19 => if eq32 r19 0 then (some ((-3), s19)) else (bd (x_Bundles_gather N s19) (fun r36 s36 => bd (x_Bundles_numberOf N v1 s36) (fun r44 s44 => some (r44, s44)))))))
abbrev rm_x_bundle : Room := { frames := 5, cells := 0, slots := 0, locals := 119 }
theorem c_x_bundle {l : Launch} {G : GG} (hi : wo_i (xW G)) {N : Nat} {v1 : Int} {s : St} {o : Int × St} (hf : x_bundle N v1 s = some o) : CtI l (xW G) y_O_bundle (wo y_O_bundle prog_1_method_24_code 2 (some .int)) rm_x_bundle [.ref ((xW G).h 0), vI v1] s o := by
  refine ct_I (by decide +kernel) hi (Nat.le_of_ble_eq_true rfl) fun X C => ?_
  unfold x_bundle at hf
  show Rj X (xW G) 2 (qI X (xW G) o) 0 [(0, .ref ((xW G).h 0)), (1, vI v1)] [] s
  refine r_aload_n C (q := 1) 0 d_O_bundle_0 rfl rfl rfl ?_
  refine gxx_O_rows C (q := 4) fl_O_27 d_O_bundle_1 rfl ?_
  refine r_iload_n C (q := 5) 1 d_O_bundle_4 rfl rfl rfl ?_
  obtain ⟨r5, s5, hg5, hf⟩ := bd_s hf
  refine r_cVI C (q := 8) (As := [vI v1]) (k0 := 3) (c_x_Rows_has C.i hg5) mt_Rows_has ml_O_138 (Nat.le_of_ble_eq_true rfl) rfl rfl rfl rfl rfl rfl ⟨Nat.le_of_ble_eq_true rfl, Nat.le_of_ble_eq_true rfl⟩ rfl (Nat.le_of_ble_eq_true rfl) d_O_bundle_5 rfl ?_
  refine r_if_ne C (t := 14) (q := 11) d_O_bundle_8 (by decide) rfl (fun c8 => ?_) (fun c8 => ?_)
  · replace hf := ite_t c8 hf
    refine r_bipush C (q := 13) (x := (-2)) d_O_bundle_11 rfl rfl ?_
    exact r_ireturn C hf d_O_bundle_13
  · replace hf := ite_f c8 hf
    refine r_aload_n C (q := 15) 0 d_O_bundle_14 rfl rfl rfl ?_
    refine gxx_O_rows C (q := 18) fl_O_27 d_O_bundle_15 rfl ?_
    refine r_iload_n C (q := 19) 1 d_O_bundle_18 rfl rfl rfl ?_
    obtain ⟨r19, s19, hg19, hf⟩ := bd_s hf
    refine r_cVI C (q := 22) (As := [vI v1]) (k0 := 3) (c_x_Rows_isKnown C.i hg19) mt_Rows_isKnown ml_O_148 (Nat.le_of_ble_eq_true rfl) rfl rfl rfl rfl rfl rfl ⟨Nat.le_of_ble_eq_true rfl, Nat.le_of_ble_eq_true rfl⟩ rfl (Nat.le_of_ble_eq_true rfl) d_O_bundle_19 rfl ?_
    refine r_if_ne C (t := 28) (q := 25) d_O_bundle_22 (by decide) rfl (fun c22 => ?_) (fun c22 => ?_)
    · replace hf := ite_t c22 hf
      refine r_bipush C (q := 27) (x := (-3)) d_O_bundle_25 rfl rfl ?_
      exact r_ireturn C hf d_O_bundle_27
    · replace hf := ite_f c22 hf
      refine r_aload_n C (q := 29) 0 d_O_bundle_28 rfl rfl rfl ?_
      refine gxx_O_bundles C (q := 32) fl_O_53 d_O_bundle_29 rfl ?_
      refine r_aload_n C (q := 33) 0 d_O_bundle_32 rfl rfl rfl ?_
      refine gxx_O_pairs C (q := 36) fl_O_19 d_O_bundle_33 rfl ?_
      obtain ⟨r36, s36, hg36, hf⟩ := bd_s hf
      refine r_cVV C (q := 39) (As := [.ref ((xW G).h 2)]) (k0 := 8) (c_x_Bundles_gather C.i hg36) mt_Bundles_gather ml_O_241 (Nat.le_of_ble_eq_true rfl) rfl rfl rfl rfl rfl rfl ⟨Nat.le_of_ble_eq_true rfl, Nat.le_of_ble_eq_true rfl⟩ rfl (Nat.le_of_ble_eq_true rfl) d_O_bundle_36 rfl ?_
      refine r_aload_n C (q := 40) 0 d_O_bundle_39 rfl rfl rfl ?_
      refine gxx_O_bundles C (q := 43) fl_O_53 d_O_bundle_40 rfl ?_
      refine r_iload_n C (q := 44) 1 d_O_bundle_43 rfl rfl rfl ?_
      obtain ⟨r44, s44, hg44, hf⟩ := bd_s hf
      refine r_cVI C (q := 47) (As := [vI v1]) (k0 := 8) (c_x_Bundles_numberOf C.i hg44) mt_Bundles_numberOf ml_O_245 (Nat.le_of_ble_eq_true rfl) rfl rfl rfl rfl rfl rfl ⟨Nat.le_of_ble_eq_true rfl, Nat.le_of_ble_eq_true rfl⟩ rfl (Nat.le_of_ble_eq_true rfl) d_O_bundle_44 rfl ?_
      exact r_ireturn C hf d_O_bundle_47
def x_Bundles_sizeOf_25 (N : Nat) (k4 : Int → Int → St → MM) (v1 v2 v3 : Int) (s : St) : MM := k4 v2 (v3 + 1) s
def x_Bundles_sizeOf_4 (N : Nat) (v1 : Int) (k4 : Int → Int → St → MM) (v2 v3 : Int) (s : St) : MM := if le32 (s 8 1) v3 then (some (v2, s)) else (gd (inb v3 36) (if eq32 (s 31 v3) v1 then (x_Bundles_sizeOf_25 N k4 v1 (v2 + 1) v3  s) else (x_Bundles_sizeOf_25 N k4 v1 v2 v3  s)))
def x_Bundles_sizeOf (N : Nat) (v1 : Int) (s : St) : MM := itr (x_Bundles_sizeOf_4 N v1) (fun _ _ _ => none) N 0 0 s
abbrev rm_x_Bundles_sizeOf : Room := { frames := 0, cells := 0, slots := 0, locals := 0 }
theorem s_x_Bundles_sizeOf_25 {X : CxT} {l : Launch} {G : GG} (C : Cx X l (xW G) 4 prog_2_method_5_code "OneSelf$Bundles" (wo y_Bundles_sizeOf prog_2_method_5_code 4 (some .int)) (some .int) rm_x_Bundles_sizeOf) {o : Int × St} {N : Nat} {v1 v2 v3 : Int} {k4 : Int → Int → St → MM} (hk4 : ∀ (u2 u3 : Int) (s : St), k4 u2 u3 s = some o → Rj X (xW G) 4 (qI X (xW G) o) 4 [(0, .ref ((xW G).h 8)), (1, vI v1), (2, vI u2), (3, vI u3)] [] s) {s : St} (hf : x_Bundles_sizeOf_25 N k4 v1 v2 v3 s = some o) : Rj X (xW G) 4 (qI X (xW G) o) 25 [(0, .ref ((xW G).h 8)), (1, vI v1), (2, vI v2), (3, vI v3)] [] s := by
  unfold x_Bundles_sizeOf_25 at hf
  refine r_iinc C (q := 28) (lv' := [(3, vI (v3 + 1)), (0, .ref ((xW G).h 8)), (1, vI v1), (2, vI v2)]) 3 d_Bundles_sizeOf_25 rfl (by decide) rfl rfl ?_
  refine r_goto C (q := 4) d_Bundles_sizeOf_28 (by decide) ?_
  exact r_sub [1, 2, 3, 0] rfl (hk4 _ _ _  hf)
theorem s_x_Bundles_sizeOf_4 {X : CxT} {l : Launch} {G : GG} (C : Cx X l (xW G) 4 prog_2_method_5_code "OneSelf$Bundles" (wo y_Bundles_sizeOf prog_2_method_5_code 4 (some .int)) (some .int) rm_x_Bundles_sizeOf) {o : Int × St} {N : Nat} {v1 v2 v3 : Int} {k4 : Int → Int → St → MM} (hk4 : ∀ (u2 u3 : Int) (s : St), k4 u2 u3 s = some o → Rj X (xW G) 4 (qI X (xW G) o) 4 [(0, .ref ((xW G).h 8)), (1, vI v1), (2, vI u2), (3, vI u3)] [] s) {s : St} (hf : x_Bundles_sizeOf_4 N v1 k4 v2 v3 s = some o) : Rj X (xW G) 4 (qI X (xW G) o) 4 [(0, .ref ((xW G).h 8)), (1, vI v1), (2, vI v2), (3, vI v3)] [] s := by
  unfold x_Bundles_sizeOf_4 at hf
  refine r_iload_n C (q := 5) 3 d_Bundles_sizeOf_4 rfl rfl rfl ?_
  refine r_aload_n C (q := 6) 0 d_Bundles_sizeOf_5 rfl rfl rfl ?_
  refine gxx_Bundles_many C (q := 9) fl_Bundles_27 d_Bundles_sizeOf_6 rfl ?_
  refine r_ic_ge C (t := 31) (q := 12) d_Bundles_sizeOf_9 (by decide) rfl (fun c9 => ?_) (fun c9 => ?_)
  · replace hf := ite_t c9 hf
    refine r_iload_n C (q := 32) 2 d_Bundles_sizeOf_31 rfl rfl rfl ?_
    exact r_ireturn C hf d_Bundles_sizeOf_32
  · replace hf := ite_f c9 hf
    refine r_aload_n C (q := 13) 0 d_Bundles_sizeOf_12 rfl rfl rfl ?_
    refine gxx_Bundles_numbers C (q := 16) fl_Bundles_9 d_Bundles_sizeOf_13 rfl ?_
    refine r_iload_n C (q := 17) 3 d_Bundles_sizeOf_16 rfl rfl rfl ?_
    obtain ⟨g17, hf⟩ := gd_s hf
    refine r_iald C (q := 18) 31 (Nat.le_of_ble_eq_true rfl) (fun _ => rfl) 0 rfl g17 (by decide) d_Bundles_sizeOf_17 rfl ?_
    refine r_iload_n C (q := 19) 1 d_Bundles_sizeOf_18 rfl rfl rfl ?_
    refine r_ic_ne C (t := 25) (q := 22) d_Bundles_sizeOf_19 (by decide) rfl (fun c19 => ?_) (fun c19 => ?_)
    · replace hf := ite_t c19 hf
      refine r_iinc C (q := 25) (lv' := [(2, vI (v2 + 1)), (0, .ref ((xW G).h 8)), (1, vI v1), (3, vI v3)]) 2 d_Bundles_sizeOf_22 rfl (by decide) rfl rfl ?_
      exact r_sub [1, 2, 0, 3] rfl (s_x_Bundles_sizeOf_25 C hk4 hf)
    · replace hf := ite_f c19 hf
      exact r_sub [0, 1, 2, 3] rfl (s_x_Bundles_sizeOf_25 C hk4 hf)
theorem c_x_Bundles_sizeOf {l : Launch} {G : GG} (hi : wo_i (xW G)) {N : Nat} {v1 : Int} {s : St} {o : Int × St} (hf : x_Bundles_sizeOf N v1 s = some o) : CtI l (xW G) y_Bundles_sizeOf (wo y_Bundles_sizeOf prog_2_method_5_code 4 (some .int)) rm_x_Bundles_sizeOf [.ref ((xW G).h 8), vI v1] s o := by
  refine ct_I (by decide +kernel) hi (Nat.le_of_ble_eq_true rfl) fun X C => ?_
  unfold x_Bundles_sizeOf at hf
  show Rj X (xW G) 4 (qI X (xW G) o) 0 [(0, .ref ((xW G).h 8)), (1, vI v1)] [] s
  refine r_iconst C (q := 1) d_Bundles_sizeOf_0 rfl ?_
  refine r_istore_n C (q := 2) (lv' := [(2, vI 0), (0, .ref ((xW G).h 8)), (1, vI v1)]) d_Bundles_sizeOf_1 rfl (by decide) rfl rfl ?_
  refine r_iconst C (q := 3) d_Bundles_sizeOf_2 rfl ?_
  refine r_istore_n C (q := 4) (lv' := [(3, vI 0), (2, vI 0), (0, .ref ((xW G).h 8)), (1, vI v1)]) d_Bundles_sizeOf_3 rfl (by decide) rfl rfl ?_
  have hL : ∀ (u2 u3 : Int) (z : St), itr (x_Bundles_sizeOf_4 N v1) (fun _ _ _ => none) N u2 u3 z = some o → Rj X (xW G) 4 (qI X (xW G) o) 4 [(0, .ref ((xW G).h 8)), (1, vI v1), (2, vI u2), (3, vI u3)] [] z := itr_ind (x_Bundles_sizeOf_4 N v1) (fun _ _ _ => none) (fun k => ∀ (u2 u3 : Int) (z : St), k u2 u3 z = some o → Rj X (xW G) 4 (qI X (xW G) o) 4 [(0, .ref ((xW G).h 8)), (1, vI v1), (2, vI u2), (3, vI u3)] [] z) (fun _ _ _  h => by cases h) (fun k hk u2 u3 z h => s_x_Bundles_sizeOf_4 C hk h) N
  exact r_sub [2, 3, 1, 0] rfl (hL _ _ _  hf)
def x_Bundles_greatest_32 (N : Nat) (k4 : Int → Int → St → MM) (v1 v2 : Int) (s : St) : MM := k4 v1 (v2 + 1) s
def x_Bundles_greatest_4 (N : Nat) (k4 : Int → Int → St → MM) (v1 v2 : Int) (s : St) : MM := if le32 (s 8 1) v2 then (some (v1, s)) else (gd (inb v2 36) (if eq32 (s 31 v2) v2 then (bd (x_Bundles_sizeOf N v2 s) (fun r25 s25 => x_Bundles_greatest_32 N k4 (mx32 v1 r25) v2  s25)) else (x_Bundles_greatest_32 N k4 v1 v2  s)))
def x_Bundles_greatest (N : Nat) (s : St) : MM := itr (x_Bundles_greatest_4 N ) (fun _ _ _ => none) N 0 0 s
abbrev rm_x_Bundles_greatest : Room := { frames := 1, cells := 0, slots := 0, locals := 23 }
theorem s_x_Bundles_greatest_32 {X : CxT} {l : Launch} {G : GG} (C : Cx X l (xW G) 3 prog_2_method_6_code "OneSelf$Bundles" (wo y_Bundles_greatest prog_2_method_6_code 3 (some .int)) (some .int) rm_x_Bundles_greatest) {o : Int × St} {N : Nat} {v1 v2 : Int} {k4 : Int → Int → St → MM} (hk4 : ∀ (u1 u2 : Int) (s : St), k4 u1 u2 s = some o → Rj X (xW G) 3 (qI X (xW G) o) 4 [(0, .ref ((xW G).h 8)), (1, vI u1), (2, vI u2)] [] s) {s : St} (hf : x_Bundles_greatest_32 N k4 v1 v2 s = some o) : Rj X (xW G) 3 (qI X (xW G) o) 32 [(0, .ref ((xW G).h 8)), (1, vI v1), (2, vI v2)] [] s := by
  unfold x_Bundles_greatest_32 at hf
  refine r_iinc C (q := 35) (lv' := [(2, vI (v2 + 1)), (0, .ref ((xW G).h 8)), (1, vI v1)]) 2 d_Bundles_greatest_32 rfl (by decide) rfl rfl ?_
  refine r_goto C (q := 4) d_Bundles_greatest_35 (by decide) ?_
  exact r_sub [1, 2, 0] rfl (hk4 _ _ _  hf)
theorem s_x_Bundles_greatest_4 {X : CxT} {l : Launch} {G : GG} (C : Cx X l (xW G) 3 prog_2_method_6_code "OneSelf$Bundles" (wo y_Bundles_greatest prog_2_method_6_code 3 (some .int)) (some .int) rm_x_Bundles_greatest) {o : Int × St} {N : Nat} {v1 v2 : Int} {k4 : Int → Int → St → MM} (hk4 : ∀ (u1 u2 : Int) (s : St), k4 u1 u2 s = some o → Rj X (xW G) 3 (qI X (xW G) o) 4 [(0, .ref ((xW G).h 8)), (1, vI u1), (2, vI u2)] [] s) {s : St} (hf : x_Bundles_greatest_4 N  k4 v1 v2 s = some o) : Rj X (xW G) 3 (qI X (xW G) o) 4 [(0, .ref ((xW G).h 8)), (1, vI v1), (2, vI v2)] [] s := by
  unfold x_Bundles_greatest_4 at hf
  refine r_iload_n C (q := 5) 2 d_Bundles_greatest_4 rfl rfl rfl ?_
  refine r_aload_n C (q := 6) 0 d_Bundles_greatest_5 rfl rfl rfl ?_
  refine gxx_Bundles_many C (q := 9) fl_Bundles_27 d_Bundles_greatest_6 rfl ?_
  refine r_ic_ge C (t := 38) (q := 12) d_Bundles_greatest_9 (by decide) rfl (fun c9 => ?_) (fun c9 => ?_)
  · replace hf := ite_t c9 hf
    refine r_iload_n C (q := 39) 1 d_Bundles_greatest_38 rfl rfl rfl ?_
    exact r_ireturn C hf d_Bundles_greatest_39
  · replace hf := ite_f c9 hf
    refine r_aload_n C (q := 13) 0 d_Bundles_greatest_12 rfl rfl rfl ?_
    refine gxx_Bundles_numbers C (q := 16) fl_Bundles_9 d_Bundles_greatest_13 rfl ?_
    refine r_iload_n C (q := 17) 2 d_Bundles_greatest_16 rfl rfl rfl ?_
    obtain ⟨g17, hf⟩ := gd_s hf
    refine r_iald C (q := 18) 31 (Nat.le_of_ble_eq_true rfl) (fun _ => rfl) 0 rfl g17 (by decide) d_Bundles_greatest_17 rfl ?_
    refine r_iload_n C (q := 19) 2 d_Bundles_greatest_18 rfl rfl rfl ?_
    refine r_ic_ne C (t := 32) (q := 22) d_Bundles_greatest_19 (by decide) rfl (fun c19 => ?_) (fun c19 => ?_)
    · replace hf := ite_t c19 hf
      refine r_iload_n C (q := 23) 1 d_Bundles_greatest_22 rfl rfl rfl ?_
      refine r_aload_n C (q := 24) 0 d_Bundles_greatest_23 rfl rfl rfl ?_
      refine r_iload_n C (q := 25) 2 d_Bundles_greatest_24 rfl rfl rfl ?_
      obtain ⟨r25, s25, hg25, hf⟩ := bd_s hf
      refine r_cVI C (q := 28) (As := [vI v2]) (k0 := 8) (c_x_Bundles_sizeOf C.i hg25) mt_Bundles_sizeOf ml_Bundles_49 (Nat.le_of_ble_eq_true rfl) rfl rfl rfl rfl rfl rfl ⟨Nat.le_of_ble_eq_true rfl, Nat.le_of_ble_eq_true rfl⟩ rfl (Nat.le_of_ble_eq_true rfl) d_Bundles_greatest_25 rfl ?_
      refine r_mmax C (q := 31) ml_Bundles_46 mM_max (Nat.le_of_ble_eq_true rfl) (Nat.le_of_ble_eq_true rfl) (Nat.le_of_ble_eq_true rfl) d_Bundles_greatest_28 rfl ?_
      refine r_istore_n C (q := 32) (lv' := [(1, vI (mx32 v1 r25)), (0, .ref ((xW G).h 8)), (2, vI v2)]) d_Bundles_greatest_31 rfl (by decide) rfl rfl ?_
      exact r_sub [1, 0, 2] rfl (s_x_Bundles_greatest_32 C hk4 hf)
    · replace hf := ite_f c19 hf
      exact r_sub [0, 1, 2] rfl (s_x_Bundles_greatest_32 C hk4 hf)
theorem c_x_Bundles_greatest {l : Launch} {G : GG} (hi : wo_i (xW G)) {N : Nat} {s : St} {o : Int × St} (hf : x_Bundles_greatest N s = some o) : CtI l (xW G) y_Bundles_greatest (wo y_Bundles_greatest prog_2_method_6_code 3 (some .int)) rm_x_Bundles_greatest [.ref ((xW G).h 8)] s o := by
  refine ct_I (by decide +kernel) hi (Nat.le_of_ble_eq_true rfl) fun X C => ?_
  unfold x_Bundles_greatest at hf
  show Rj X (xW G) 3 (qI X (xW G) o) 0 [(0, .ref ((xW G).h 8))] [] s
  refine r_iconst C (q := 1) d_Bundles_greatest_0 rfl ?_
  refine r_istore_n C (q := 2) (lv' := [(1, vI 0), (0, .ref ((xW G).h 8))]) d_Bundles_greatest_1 rfl (by decide) rfl rfl ?_
  refine r_iconst C (q := 3) d_Bundles_greatest_2 rfl ?_
  refine r_istore_n C (q := 4) (lv' := [(2, vI 0), (1, vI 0), (0, .ref ((xW G).h 8))]) d_Bundles_greatest_3 rfl (by decide) rfl rfl ?_
  have hL : ∀ (u1 u2 : Int) (z : St), itr (x_Bundles_greatest_4 N ) (fun _ _ _ => none) N u1 u2 z = some o → Rj X (xW G) 3 (qI X (xW G) o) 4 [(0, .ref ((xW G).h 8)), (1, vI u1), (2, vI u2)] [] z := itr_ind (x_Bundles_greatest_4 N ) (fun _ _ _ => none) (fun k => ∀ (u1 u2 : Int) (z : St), k u1 u2 z = some o → Rj X (xW G) 3 (qI X (xW G) o) 4 [(0, .ref ((xW G).h 8)), (1, vI u1), (2, vI u2)] [] z) (fun _ _ _  h => by cases h) (fun k hk u1 u2 z h => s_x_Bundles_greatest_4 C hk h) N
  exact r_sub [2, 1, 0] rfl (hL _ _ _  hf)
def x_Bundles_isTorn_81 (N : Nat) (k8 : Int → Int → Int → St → MM) (v2 v3 v4 v5 : Int) (s : St) : MM := k8 v3 v4 (v5 + 1) s
def x_Bundles_isTorn_78 (N : Nat) (k8 : Int → Int → Int → St → MM) (v2 v3 v5 t0 t1 : Int) (s : St) : MM := x_Bundles_isTorn_81 N k8 v2 v3 (or32 t1 t0) v5  s
def x_Bundles_isTorn_8 (N : Nat) (v2 : Int) (k8 : Int → Int → Int → St → MM) (v3 v4 v5 : Int) (s : St) : MM := if le32 (s 8 1) v5 then (if eq32 v4 3 then (some (1, s)) else (some (0, s))) else (gd (inb v5 36) (if eq32 (s 31 v5) v2 then (bd (x_Rows_fact N v5 0 s) (fun r33 s33 => if eq32 (an32 v3 (sl32 1 r33)) 0 then (bd (x_Rows_fact N v5 3 s33) (fun r57 s57 => if eq32 r57 ((-1)) then (x_Bundles_isTorn_78 N k8 v2 (or32 v3 (sl32 1 r33)) v5 0 v4 s57) else (x_Bundles_isTorn_78 N k8 v2 (or32 v3 (sl32 1 r33)) v5 (sl32 1 r57) v4 s57))) else (some (1, s33)))) else (x_Bundles_isTorn_81 N k8 v2 v3 v4 v5  s)))
def x_Bundles_isTorn (N : Nat) (v2 : Int) (s : St) : MM := itr (x_Bundles_isTorn_8 N v2) (fun _ _ _ _ => none) N 0 0 0 s
abbrev rm_x_Bundles_isTorn : Room := { frames := 1, cells := 0, slots := 0, locals := 22 }
theorem s_x_Bundles_isTorn_81 {X : CxT} {l : Launch} {G : GG} (C : Cx X l (xW G) 8 prog_2_method_8_code "OneSelf$Bundles" (wo y_Bundles_isTorn prog_2_method_8_code 8 (some .boolean)) (some .boolean) rm_x_Bundles_isTorn) {o : Int × St} {N : Nat} {v2 v3 v4 v5 : Int} {k8 : Int → Int → Int → St → MM} (hk8 : ∀ (u3 u4 u5 : Int) (s : St), k8 u3 u4 u5 s = some o → Rj X (xW G) 8 (qI X (xW G) o) 8 [(0, .ref ((xW G).h 8)), (1, .ref ((xW G).h 3)), (2, vI v2), (3, vI u3), (4, vI u4), (5, vI u5)] [] s) {s : St} (hf : x_Bundles_isTorn_81 N k8 v2 v3 v4 v5 s = some o) : Rj X (xW G) 8 (qI X (xW G) o) 81 [(0, .ref ((xW G).h 8)), (1, .ref ((xW G).h 3)), (2, vI v2), (3, vI v3), (4, vI v4), (5, vI v5)] [] s := by
  unfold x_Bundles_isTorn_81 at hf
  refine r_iinc C (q := 84) (lv' := [(5, vI (v5 + 1)), (0, .ref ((xW G).h 8)), (1, .ref ((xW G).h 3)), (2, vI v2), (3, vI v3), (4, vI v4)]) 5 d_Bundles_isTorn_81 rfl (by decide) rfl rfl ?_
  refine r_goto C (q := 8) d_Bundles_isTorn_84 (by decide) ?_
  exact r_sub [1, 2, 3, 4, 5, 0] rfl (hk8 _ _ _ _  hf)
theorem s_x_Bundles_isTorn_78 {X : CxT} {l : Launch} {G : GG} (C : Cx X l (xW G) 8 prog_2_method_8_code "OneSelf$Bundles" (wo y_Bundles_isTorn prog_2_method_8_code 8 (some .boolean)) (some .boolean) rm_x_Bundles_isTorn) {o : Int × St} {N : Nat} {v2 v3 v5 t0 t1 : Int} {k8 : Int → Int → Int → St → MM} (hk8 : ∀ (u3 u4 u5 : Int) (s : St), k8 u3 u4 u5 s = some o → Rj X (xW G) 8 (qI X (xW G) o) 8 [(0, .ref ((xW G).h 8)), (1, .ref ((xW G).h 3)), (2, vI v2), (3, vI u3), (4, vI u4), (5, vI u5)] [] s) {s : St} (hf : x_Bundles_isTorn_78 N k8 v2 v3 v5 t0 t1 s = some o) : Rj X (xW G) 8 (qI X (xW G) o) 78 [(0, .ref ((xW G).h 8)), (1, .ref ((xW G).h 3)), (2, vI v2), (3, vI v3), (5, vI v5)] [vI t0, vI t1] s := by
  unfold x_Bundles_isTorn_78 at hf
  refine r_ior C (q := 79) d_Bundles_isTorn_78 rfl ?_
  refine r_istore C (q := 81) (lv' := [(4, vI (or32 t1 t0)), (0, .ref ((xW G).h 8)), (1, .ref ((xW G).h 3)), (2, vI v2), (3, vI v3), (5, vI v5)]) d_Bundles_isTorn_79 (by decide) rfl rfl ?_
  exact r_sub [1, 2, 3, 4, 0, 5] rfl (s_x_Bundles_isTorn_81 C hk8 hf)
theorem s_x_Bundles_isTorn_8 {X : CxT} {l : Launch} {G : GG} (C : Cx X l (xW G) 8 prog_2_method_8_code "OneSelf$Bundles" (wo y_Bundles_isTorn prog_2_method_8_code 8 (some .boolean)) (some .boolean) rm_x_Bundles_isTorn) {o : Int × St} {N : Nat} {v2 v3 v4 v5 : Int} {k8 : Int → Int → Int → St → MM} (hk8 : ∀ (u3 u4 u5 : Int) (s : St), k8 u3 u4 u5 s = some o → Rj X (xW G) 8 (qI X (xW G) o) 8 [(0, .ref ((xW G).h 8)), (1, .ref ((xW G).h 3)), (2, vI v2), (3, vI u3), (4, vI u4), (5, vI u5)] [] s) {s : St} (hf : x_Bundles_isTorn_8 N v2 k8 v3 v4 v5 s = some o) : Rj X (xW G) 8 (qI X (xW G) o) 8 [(0, .ref ((xW G).h 8)), (1, .ref ((xW G).h 3)), (2, vI v2), (3, vI v3), (4, vI v4), (5, vI v5)] [] s := by
  unfold x_Bundles_isTorn_8 at hf
  refine r_iload C (q := 10) 5 d_Bundles_isTorn_8 rfl rfl ?_
  refine r_aload_n C (q := 11) 0 d_Bundles_isTorn_10 rfl rfl rfl ?_
  refine gxx_Bundles_many C (q := 14) fl_Bundles_27 d_Bundles_isTorn_11 rfl ?_
  refine r_ic_ge C (t := 87) (q := 17) d_Bundles_isTorn_14 (by decide) rfl (fun c14 => ?_) (fun c14 => ?_)
  · replace hf := ite_t c14 hf
    refine r_iload C (q := 89) 4 d_Bundles_isTorn_87 rfl rfl ?_
    refine r_iconst C (q := 90) d_Bundles_isTorn_89 rfl ?_
    refine r_ic_ne C (t := 97) (q := 93) d_Bundles_isTorn_90 (by decide) rfl (fun c90 => ?_) (fun c90 => ?_)
    · replace hf := ite_t c90 hf
      refine r_iconst C (q := 94) d_Bundles_isTorn_93 rfl ?_
      refine r_goto C (q := 98) d_Bundles_isTorn_94 (by decide) ?_
      exact r_zreturn C (by decide) hf d_Bundles_isTorn_98
    · replace hf := ite_f c90 hf
      refine r_iconst C (q := 98) d_Bundles_isTorn_97 rfl ?_
      exact r_zreturn C (by decide) hf d_Bundles_isTorn_98
  · replace hf := ite_f c14 hf
    refine r_aload_n C (q := 18) 0 d_Bundles_isTorn_17 rfl rfl rfl ?_
    refine gxx_Bundles_numbers C (q := 21) fl_Bundles_9 d_Bundles_isTorn_18 rfl ?_
    refine r_iload C (q := 23) 5 d_Bundles_isTorn_21 rfl rfl ?_
    obtain ⟨g23, hf⟩ := gd_s hf
    refine r_iald C (q := 24) 31 (Nat.le_of_ble_eq_true rfl) (fun _ => rfl) 0 rfl g23 (by decide) d_Bundles_isTorn_23 rfl ?_
    refine r_iload_n C (q := 25) 2 d_Bundles_isTorn_24 rfl rfl rfl ?_
    refine r_ic_ne C (t := 81) (q := 28) d_Bundles_isTorn_25 (by decide) rfl (fun c25 => ?_) (fun c25 => ?_)
    · replace hf := ite_t c25 hf
      refine r_iconst C (q := 29) d_Bundles_isTorn_28 rfl ?_
      refine r_aload_n C (q := 30) 1 d_Bundles_isTorn_29 rfl rfl rfl ?_
      refine r_iload C (q := 32) 5 d_Bundles_isTorn_30 rfl rfl ?_
      refine r_iconst C (q := 33) d_Bundles_isTorn_32 rfl ?_
      obtain ⟨r33, s33, hg33, hf⟩ := bd_s hf
      refine r_cVI C (q := 36) (As := [vI v5, vI 0]) (k0 := 3) (c_x_Rows_fact C.i hg33) mt_Rows_fact ml_Bundles_57 (Nat.le_of_ble_eq_true rfl) rfl rfl rfl rfl rfl rfl ⟨Nat.le_of_ble_eq_true rfl, Nat.le_of_ble_eq_true rfl⟩ rfl (Nat.le_of_ble_eq_true rfl) d_Bundles_isTorn_33 rfl ?_
      refine r_ishl C (q := 37) d_Bundles_isTorn_36 rfl ?_
      refine r_istore C (q := 39) (lv' := [(6, vI (sl32 1 r33)), (0, .ref ((xW G).h 8)), (1, .ref ((xW G).h 3)), (2, vI v2), (3, vI v3), (4, vI v4), (5, vI v5)]) d_Bundles_isTorn_37 (by decide) rfl rfl ?_
      refine r_iload_n C (q := 40) 4 d_Bundles_isTorn_39 rfl rfl rfl ?_
      refine r_iload C (q := 42) 0 d_Bundles_isTorn_40 rfl rfl ?_
      refine r_iand C (q := 43) d_Bundles_isTorn_42 rfl ?_
      refine r_if_eq C (t := 48) (q := 46) d_Bundles_isTorn_43 (by decide) rfl (fun c43 => ?_) (fun c43 => ?_)
      · replace hf := ite_t c43 hf
        refine r_iload_n C (q := 49) 4 d_Bundles_isTorn_48 rfl rfl rfl ?_
        refine r_iload C (q := 51) 0 d_Bundles_isTorn_49 rfl rfl ?_
        refine r_ior C (q := 52) d_Bundles_isTorn_51 rfl ?_
        refine r_istore_n C (q := 53) (lv' := [(3, vI (or32 v3 (sl32 1 r33))), (6, vI (sl32 1 r33)), (0, .ref ((xW G).h 8)), (1, .ref ((xW G).h 3)), (2, vI v2), (4, vI v4), (5, vI v5)]) d_Bundles_isTorn_52 rfl (by decide) rfl rfl ?_
        refine r_aload_n C (q := 54) 3 d_Bundles_isTorn_53 rfl rfl rfl ?_
        refine r_iload C (q := 56) 6 d_Bundles_isTorn_54 rfl rfl ?_
        refine r_iconst C (q := 57) d_Bundles_isTorn_56 rfl ?_
        obtain ⟨r57, s57, hg57, hf⟩ := bd_s hf
        refine r_cVI C (q := 60) (As := [vI v5, vI 3]) (k0 := 3) (c_x_Rows_fact C.i hg57) mt_Rows_fact ml_Bundles_57 (Nat.le_of_ble_eq_true rfl) rfl rfl rfl rfl rfl rfl ⟨Nat.le_of_ble_eq_true rfl, Nat.le_of_ble_eq_true rfl⟩ rfl (Nat.le_of_ble_eq_true rfl) d_Bundles_isTorn_57 rfl ?_
        refine r_istore C (q := 62) (lv' := [(7, vI r57), (3, vI (or32 v3 (sl32 1 r33))), (6, vI (sl32 1 r33)), (0, .ref ((xW G).h 8)), (1, .ref ((xW G).h 3)), (2, vI v2), (4, vI v4), (5, vI v5)]) d_Bundles_isTorn_60 (by decide) rfl rfl ?_
        refine r_iload C (q := 64) 6 d_Bundles_isTorn_62 rfl rfl ?_
        refine r_iload C (q := 66) 0 d_Bundles_isTorn_64 rfl rfl ?_
        refine r_iconst C (q := 67) d_Bundles_isTorn_66 rfl ?_
        refine r_ic_ne C (t := 74) (q := 70) d_Bundles_isTorn_67 (by decide) rfl (fun c67 => ?_) (fun c67 => ?_)
        · replace hf := ite_t c67 hf
          refine r_iconst C (q := 71) d_Bundles_isTorn_70 rfl ?_
          refine r_goto C (q := 78) d_Bundles_isTorn_71 (by decide) ?_
          exact r_sub [3, 4, 5, 1, 7] rfl (s_x_Bundles_isTorn_78 C hk8 hf)
        · replace hf := ite_f c67 hf
          refine r_iconst C (q := 75) d_Bundles_isTorn_74 rfl ?_
          refine r_iload C (q := 77) 0 d_Bundles_isTorn_75 rfl rfl ?_
          refine r_ishl C (q := 78) d_Bundles_isTorn_77 rfl ?_
          exact r_sub [3, 4, 5, 1, 7] rfl (s_x_Bundles_isTorn_78 C hk8 hf)
      · replace hf := ite_f c43 hf
        refine r_iconst C (q := 47) d_Bundles_isTorn_46 rfl ?_
        exact r_zreturn C (by decide) hf d_Bundles_isTorn_47
    · replace hf := ite_f c25 hf
      exact r_sub [0, 1, 2, 3, 4, 5] rfl (s_x_Bundles_isTorn_81 C hk8 hf)
theorem c_x_Bundles_isTorn {l : Launch} {G : GG} (hi : wo_i (xW G)) {N : Nat} {v2 : Int} {s : St} {o : Int × St} (hf : x_Bundles_isTorn N v2 s = some o) : CtI l (xW G) y_Bundles_isTorn (wo y_Bundles_isTorn prog_2_method_8_code 8 (some .boolean)) rm_x_Bundles_isTorn [.ref ((xW G).h 8), .ref ((xW G).h 3), vI v2] s o := by
  refine ct_I (by decide +kernel) hi (Nat.le_of_ble_eq_true rfl) fun X C => ?_
  unfold x_Bundles_isTorn at hf
  show Rj X (xW G) 8 (qI X (xW G) o) 0 [(0, .ref ((xW G).h 8)), (1, .ref ((xW G).h 3)), (2, vI v2)] [] s
  refine r_iconst C (q := 1) d_Bundles_isTorn_0 rfl ?_
  refine r_istore_n C (q := 2) (lv' := [(3, vI 0), (0, .ref ((xW G).h 8)), (1, .ref ((xW G).h 3)), (2, vI v2)]) d_Bundles_isTorn_1 rfl (by decide) rfl rfl ?_
  refine r_iconst C (q := 3) d_Bundles_isTorn_2 rfl ?_
  refine r_istore C (q := 5) (lv' := [(4, vI 0), (3, vI 0), (0, .ref ((xW G).h 8)), (1, .ref ((xW G).h 3)), (2, vI v2)]) d_Bundles_isTorn_3 (by decide) rfl rfl ?_
  refine r_iconst C (q := 6) d_Bundles_isTorn_5 rfl ?_
  refine r_istore C (q := 8) (lv' := [(5, vI 0), (4, vI 0), (3, vI 0), (0, .ref ((xW G).h 8)), (1, .ref ((xW G).h 3)), (2, vI v2)]) d_Bundles_isTorn_6 (by decide) rfl rfl ?_
  have hL : ∀ (u3 u4 u5 : Int) (z : St), itr (x_Bundles_isTorn_8 N v2) (fun _ _ _ _ => none) N u3 u4 u5 z = some o → Rj X (xW G) 8 (qI X (xW G) o) 8 [(0, .ref ((xW G).h 8)), (1, .ref ((xW G).h 3)), (2, vI v2), (3, vI u3), (4, vI u4), (5, vI u5)] [] z := itr_ind (x_Bundles_isTorn_8 N v2) (fun _ _ _ _ => none) (fun k => ∀ (u3 u4 u5 : Int) (z : St), k u3 u4 u5 z = some o → Rj X (xW G) 8 (qI X (xW G) o) 8 [(0, .ref ((xW G).h 8)), (1, .ref ((xW G).h 3)), (2, vI v2), (3, vI u3), (4, vI u4), (5, vI u5)] [] z) (fun _ _ _ _  h => by cases h) (fun k hk u3 u4 u5 z h => s_x_Bundles_isTorn_8 C hk h) N
  exact r_sub [3, 4, 5, 2, 1, 0] rfl (hL _ _ _ _  hf)
def x_Bundles_countAll_43 (N : Nat) (k5 : Int → Int → St → MM) (v2 v3 v4 : Int) (s : St) : MM := k5 v3 (v4 + 1) s
def x_Bundles_countAll_40 (N : Nat) (k5 : Int → Int → St → MM) (v2 v3 v4 : Int) (s : St) : MM := x_Bundles_countAll_43 N k5 v2 (v3 + 1) v4  s
def x_Bundles_countAll_5 (N : Nat) (v2 : Int) (k5 : Int → Int → St → MM) (v3 v4 : Int) (s : St) : MM := if le32 (s 8 1) v4 then (some (v3, s)) else (gd (inb v4 36) (if eq32 (s 31 v4) v4 then (if eq32 v2 0 then (x_Bundles_countAll_40 N k5 v2 v3 v4  s) else (bd (x_Bundles_isTorn N v4 s) (fun r34 s34 => if eq32 r34 0 then (x_Bundles_countAll_43 N k5 v2 v3 v4  s34) else (x_Bundles_countAll_40 N k5 v2 v3 v4  s34)))) else (x_Bundles_countAll_43 N k5 v2 v3 v4  s)))
def x_Bundles_countAll (N : Nat) (v2 : Int) (s : St) : MM := itr (x_Bundles_countAll_5 N v2) (fun _ _ _ => none) N 0 0 s
abbrev rm_x_Bundles_countAll : Room := { frames := 2, cells := 0, slots := 0, locals := 49 }
theorem s_x_Bundles_countAll_43 {X : CxT} {l : Launch} {G : GG} (C : Cx X l (xW G) 5 prog_2_method_7_code "OneSelf$Bundles" (wo y_Bundles_countAll prog_2_method_7_code 5 (some .int)) (some .int) rm_x_Bundles_countAll) {o : Int × St} {N : Nat} {v2 v3 v4 : Int} {k5 : Int → Int → St → MM} (hk5 : ∀ (u3 u4 : Int) (s : St), k5 u3 u4 s = some o → Rj X (xW G) 5 (qI X (xW G) o) 5 [(0, .ref ((xW G).h 8)), (1, .ref ((xW G).h 3)), (2, vI v2), (3, vI u3), (4, vI u4)] [] s) {s : St} (hf : x_Bundles_countAll_43 N k5 v2 v3 v4 s = some o) : Rj X (xW G) 5 (qI X (xW G) o) 43 [(0, .ref ((xW G).h 8)), (1, .ref ((xW G).h 3)), (2, vI v2), (3, vI v3), (4, vI v4)] [] s := by
  unfold x_Bundles_countAll_43 at hf
  refine r_iinc C (q := 46) (lv' := [(4, vI (v4 + 1)), (0, .ref ((xW G).h 8)), (1, .ref ((xW G).h 3)), (2, vI v2), (3, vI v3)]) 4 d_Bundles_countAll_43 rfl (by decide) rfl rfl ?_
  refine r_goto C (q := 5) d_Bundles_countAll_46 (by decide) ?_
  exact r_sub [1, 2, 3, 4, 0] rfl (hk5 _ _ _  hf)
theorem s_x_Bundles_countAll_40 {X : CxT} {l : Launch} {G : GG} (C : Cx X l (xW G) 5 prog_2_method_7_code "OneSelf$Bundles" (wo y_Bundles_countAll prog_2_method_7_code 5 (some .int)) (some .int) rm_x_Bundles_countAll) {o : Int × St} {N : Nat} {v2 v3 v4 : Int} {k5 : Int → Int → St → MM} (hk5 : ∀ (u3 u4 : Int) (s : St), k5 u3 u4 s = some o → Rj X (xW G) 5 (qI X (xW G) o) 5 [(0, .ref ((xW G).h 8)), (1, .ref ((xW G).h 3)), (2, vI v2), (3, vI u3), (4, vI u4)] [] s) {s : St} (hf : x_Bundles_countAll_40 N k5 v2 v3 v4 s = some o) : Rj X (xW G) 5 (qI X (xW G) o) 40 [(0, .ref ((xW G).h 8)), (1, .ref ((xW G).h 3)), (2, vI v2), (3, vI v3), (4, vI v4)] [] s := by
  unfold x_Bundles_countAll_40 at hf
  refine r_iinc C (q := 43) (lv' := [(3, vI (v3 + 1)), (0, .ref ((xW G).h 8)), (1, .ref ((xW G).h 3)), (2, vI v2), (4, vI v4)]) 3 d_Bundles_countAll_40 rfl (by decide) rfl rfl ?_
  exact r_sub [1, 2, 3, 0, 4] rfl (s_x_Bundles_countAll_43 C hk5 hf)
theorem s_x_Bundles_countAll_5 {X : CxT} {l : Launch} {G : GG} (C : Cx X l (xW G) 5 prog_2_method_7_code "OneSelf$Bundles" (wo y_Bundles_countAll prog_2_method_7_code 5 (some .int)) (some .int) rm_x_Bundles_countAll) {o : Int × St} {N : Nat} {v2 v3 v4 : Int} {k5 : Int → Int → St → MM} (hk5 : ∀ (u3 u4 : Int) (s : St), k5 u3 u4 s = some o → Rj X (xW G) 5 (qI X (xW G) o) 5 [(0, .ref ((xW G).h 8)), (1, .ref ((xW G).h 3)), (2, vI v2), (3, vI u3), (4, vI u4)] [] s) {s : St} (hf : x_Bundles_countAll_5 N v2 k5 v3 v4 s = some o) : Rj X (xW G) 5 (qI X (xW G) o) 5 [(0, .ref ((xW G).h 8)), (1, .ref ((xW G).h 3)), (2, vI v2), (3, vI v3), (4, vI v4)] [] s := by
  unfold x_Bundles_countAll_5 at hf
  refine r_iload C (q := 7) 4 d_Bundles_countAll_5 rfl rfl ?_
  refine r_aload_n C (q := 8) 0 d_Bundles_countAll_7 rfl rfl rfl ?_
  refine gxx_Bundles_many C (q := 11) fl_Bundles_27 d_Bundles_countAll_8 rfl ?_
  refine r_ic_ge C (t := 49) (q := 14) d_Bundles_countAll_11 (by decide) rfl (fun c11 => ?_) (fun c11 => ?_)
  · replace hf := ite_t c11 hf
    refine r_iload_n C (q := 50) 3 d_Bundles_countAll_49 rfl rfl rfl ?_
    exact r_ireturn C hf d_Bundles_countAll_50
  · replace hf := ite_f c11 hf
    refine r_aload_n C (q := 15) 0 d_Bundles_countAll_14 rfl rfl rfl ?_
    refine gxx_Bundles_numbers C (q := 18) fl_Bundles_9 d_Bundles_countAll_15 rfl ?_
    refine r_iload C (q := 20) 4 d_Bundles_countAll_18 rfl rfl ?_
    obtain ⟨g20, hf⟩ := gd_s hf
    refine r_iald C (q := 21) 31 (Nat.le_of_ble_eq_true rfl) (fun _ => rfl) 0 rfl g20 (by decide) d_Bundles_countAll_20 rfl ?_
    refine r_iload C (q := 23) 4 d_Bundles_countAll_21 rfl rfl ?_
    refine r_ic_ne C (t := 43) (q := 26) d_Bundles_countAll_23 (by decide) rfl (fun c23 => ?_) (fun c23 => ?_)
    · replace hf := ite_t c23 hf
      refine r_iload_n C (q := 27) 2 d_Bundles_countAll_26 rfl rfl rfl ?_
      refine r_if_eq C (t := 40) (q := 30) d_Bundles_countAll_27 (by decide) rfl (fun c27 => ?_) (fun c27 => ?_)
      · replace hf := ite_t c27 hf
        exact r_sub [0, 1, 2, 3, 4] rfl (s_x_Bundles_countAll_40 C hk5 hf)
      · replace hf := ite_f c27 hf
        refine r_aload_n C (q := 31) 0 d_Bundles_countAll_30 rfl rfl rfl ?_
        refine r_aload_n C (q := 32) 1 d_Bundles_countAll_31 rfl rfl rfl ?_
        refine r_iload C (q := 34) 4 d_Bundles_countAll_32 rfl rfl ?_
        obtain ⟨r34, s34, hg34, hf⟩ := bd_s hf
        refine r_cVI C (q := 37) (As := [.ref ((xW G).h 3), vI v4]) (k0 := 8) (c_x_Bundles_isTorn C.i hg34) mt_Bundles_isTorn ml_Bundles_53 (Nat.le_of_ble_eq_true rfl) rfl rfl rfl rfl rfl rfl ⟨Nat.le_of_ble_eq_true rfl, Nat.le_of_ble_eq_true rfl⟩ rfl (Nat.le_of_ble_eq_true rfl) d_Bundles_countAll_34 rfl ?_
        refine r_if_eq C (t := 43) (q := 40) d_Bundles_countAll_37 (by decide) rfl (fun c37 => ?_) (fun c37 => ?_)
        · replace hf := ite_t c37 hf
          exact r_sub [0, 1, 2, 3, 4] rfl (s_x_Bundles_countAll_43 C hk5 hf)
        · replace hf := ite_f c37 hf
          exact r_sub [0, 1, 2, 3, 4] rfl (s_x_Bundles_countAll_40 C hk5 hf)
    · replace hf := ite_f c23 hf
      exact r_sub [0, 1, 2, 3, 4] rfl (s_x_Bundles_countAll_43 C hk5 hf)
theorem c_x_Bundles_countAll {l : Launch} {G : GG} (hi : wo_i (xW G)) {N : Nat} {v2 : Int} {s : St} {o : Int × St} (hf : x_Bundles_countAll N v2 s = some o) : CtI l (xW G) y_Bundles_countAll (wo y_Bundles_countAll prog_2_method_7_code 5 (some .int)) rm_x_Bundles_countAll [.ref ((xW G).h 8), .ref ((xW G).h 3), vI v2] s o := by
  refine ct_I (by decide +kernel) hi (Nat.le_of_ble_eq_true rfl) fun X C => ?_
  unfold x_Bundles_countAll at hf
  show Rj X (xW G) 5 (qI X (xW G) o) 0 [(0, .ref ((xW G).h 8)), (1, .ref ((xW G).h 3)), (2, vI v2)] [] s
  refine r_iconst C (q := 1) d_Bundles_countAll_0 rfl ?_
  refine r_istore_n C (q := 2) (lv' := [(3, vI 0), (0, .ref ((xW G).h 8)), (1, .ref ((xW G).h 3)), (2, vI v2)]) d_Bundles_countAll_1 rfl (by decide) rfl rfl ?_
  refine r_iconst C (q := 3) d_Bundles_countAll_2 rfl ?_
  refine r_istore C (q := 5) (lv' := [(4, vI 0), (3, vI 0), (0, .ref ((xW G).h 8)), (1, .ref ((xW G).h 3)), (2, vI v2)]) d_Bundles_countAll_3 (by decide) rfl rfl ?_
  have hL : ∀ (u3 u4 : Int) (z : St), itr (x_Bundles_countAll_5 N v2) (fun _ _ _ => none) N u3 u4 z = some o → Rj X (xW G) 5 (qI X (xW G) o) 5 [(0, .ref ((xW G).h 8)), (1, .ref ((xW G).h 3)), (2, vI v2), (3, vI u3), (4, vI u4)] [] z := itr_ind (x_Bundles_countAll_5 N v2) (fun _ _ _ => none) (fun k => ∀ (u3 u4 : Int) (z : St), k u3 u4 z = some o → Rj X (xW G) 5 (qI X (xW G) o) 5 [(0, .ref ((xW G).h 8)), (1, .ref ((xW G).h 3)), (2, vI v2), (3, vI u3), (4, vI u4)] [] z) (fun _ _ _  h => by cases h) (fun k hk u3 u4 z h => s_x_Bundles_countAll_5 C hk h) N
  exact r_sub [2, 3, 4, 1, 0] rfl (hL _ _ _  hf)
def x_bundles_53 (N : Nat) (t0 : Int) (s : St) : MM := bd (x_Bundles_countAll N t0 s) (fun r53 s53 => some (r53, s53))
def x_bundles (N : Nat) (v1 : Int) (s : St) : MM := bd (x_isBelow N v1 3 s) (fun r2 s2 => if eq32 r2 0 then (some ((-2), s2)) else (bd (x_Bundles_gather N s2) (fun r19 s19 => if eq32 v1 2 then (bd (x_Bundles_greatest N s19) (fun r31 s31 => some (r31, s31))) else (if eq32 v1 1 then (x_bundles_53 N  1 s19) else (x_bundles_53 N  0 s19)))))
abbrev rm_x_bundles : Room := { frames := 5, cells := 0, slots := 0, locals := 119 }
theorem s_x_bundles_53 {X : CxT} {l : Launch} {G : GG} (C : Cx X l (xW G) 2 prog_1_method_25_code "OneSelf" (wo y_O_bundles prog_1_method_25_code 2 (some .int)) (some .int) rm_x_bundles) {o : Int × St} {N : Nat} {t0 : Int} {s : St} (hf : x_bundles_53 N t0 s = some o) : Rj X (xW G) 2 (qI X (xW G) o) 53 [] [vI t0, .ref ((xW G).h 3), .ref ((xW G).h 8)] s := by
  unfold x_bundles_53 at hf
  obtain ⟨r53, s53, hg53, hf⟩ := bd_s hf
  refine r_cVI C (q := 56) (As := [.ref ((xW G).h 3), vI t0]) (k0 := 8) (c_x_Bundles_countAll C.i hg53) mt_Bundles_countAll ml_O_251 (Nat.le_of_ble_eq_true rfl) rfl rfl rfl rfl rfl rfl ⟨Nat.le_of_ble_eq_true rfl, Nat.le_of_ble_eq_true rfl⟩ rfl (Nat.le_of_ble_eq_true rfl) d_O_bundles_53 rfl ?_
  exact r_ireturn C hf d_O_bundles_56
theorem c_x_bundles {l : Launch} {G : GG} (hi : wo_i (xW G)) {N : Nat} {v1 : Int} {s : St} {o : Int × St} (hf : x_bundles N v1 s = some o) : CtI l (xW G) y_O_bundles (wo y_O_bundles prog_1_method_25_code 2 (some .int)) rm_x_bundles [.ref ((xW G).h 0), vI v1] s o := by
  refine ct_I (by decide +kernel) hi (Nat.le_of_ble_eq_true rfl) fun X C => ?_
  unfold x_bundles at hf
  show Rj X (xW G) 2 (qI X (xW G) o) 0 [(0, .ref ((xW G).h 0)), (1, vI v1)] [] s
  refine r_iload_n C (q := 1) 1 d_O_bundles_0 rfl rfl rfl ?_
  refine r_iconst C (q := 2) d_O_bundles_1 rfl ?_
  obtain ⟨r2, s2, hg2, hf⟩ := bd_s hf
  refine r_cSI C (q := 5) (As := [vI v1, vI 3]) (c_x_isBelow C.i hg2) mt_O_isBelow ml_O_88 rfl rfl rfl ⟨Nat.le_of_ble_eq_true rfl, Nat.le_of_ble_eq_true rfl⟩ rfl (Nat.le_of_ble_eq_true rfl) d_O_bundles_2 rfl ?_
  refine r_if_ne C (t := 11) (q := 8) d_O_bundles_5 (by decide) rfl (fun c5 => ?_) (fun c5 => ?_)
  · replace hf := ite_t c5 hf
    refine r_bipush C (q := 10) (x := (-2)) d_O_bundles_8 rfl rfl ?_
    exact r_ireturn C hf d_O_bundles_10
  · replace hf := ite_f c5 hf
    refine r_aload_n C (q := 12) 0 d_O_bundles_11 rfl rfl rfl ?_
    refine gxx_O_bundles C (q := 15) fl_O_53 d_O_bundles_12 rfl ?_
    refine r_aload_n C (q := 16) 0 d_O_bundles_15 rfl rfl rfl ?_
    refine gxx_O_pairs C (q := 19) fl_O_19 d_O_bundles_16 rfl ?_
    obtain ⟨r19, s19, hg19, hf⟩ := bd_s hf
    refine r_cVV C (q := 22) (As := [.ref ((xW G).h 2)]) (k0 := 8) (c_x_Bundles_gather C.i hg19) mt_Bundles_gather ml_O_241 (Nat.le_of_ble_eq_true rfl) rfl rfl rfl rfl rfl rfl ⟨Nat.le_of_ble_eq_true rfl, Nat.le_of_ble_eq_true rfl⟩ rfl (Nat.le_of_ble_eq_true rfl) d_O_bundles_19 rfl ?_
    refine r_iload_n C (q := 23) 1 d_O_bundles_22 rfl rfl rfl ?_
    refine r_iconst C (q := 24) d_O_bundles_23 rfl ?_
    refine r_ic_ne C (t := 35) (q := 27) d_O_bundles_24 (by decide) rfl (fun c24 => ?_) (fun c24 => ?_)
    · replace hf := ite_t c24 hf
      refine r_aload_n C (q := 28) 0 d_O_bundles_27 rfl rfl rfl ?_
      refine gxx_O_bundles C (q := 31) fl_O_53 d_O_bundles_28 rfl ?_
      obtain ⟨r31, s31, hg31, hf⟩ := bd_s hf
      refine r_cVI C (q := 34) (As := []) (k0 := 8) (c_x_Bundles_greatest C.i hg31) mt_Bundles_greatest ml_O_248 (Nat.le_of_ble_eq_true rfl) rfl rfl rfl rfl rfl rfl ⟨Nat.le_of_ble_eq_true rfl, Nat.le_of_ble_eq_true rfl⟩ rfl (Nat.le_of_ble_eq_true rfl) d_O_bundles_31 rfl ?_
      exact r_ireturn C hf d_O_bundles_34
    · replace hf := ite_f c24 hf
      refine r_aload_n C (q := 36) 0 d_O_bundles_35 rfl rfl rfl ?_
      refine gxx_O_bundles C (q := 39) fl_O_53 d_O_bundles_36 rfl ?_
      refine r_aload_n C (q := 40) 0 d_O_bundles_39 rfl rfl rfl ?_
      refine gxx_O_rows C (q := 43) fl_O_27 d_O_bundles_40 rfl ?_
      refine r_iload_n C (q := 44) 1 d_O_bundles_43 rfl rfl rfl ?_
      refine r_iconst C (q := 45) d_O_bundles_44 rfl ?_
      refine r_ic_ne C (t := 52) (q := 48) d_O_bundles_45 (by decide) rfl (fun c45 => ?_) (fun c45 => ?_)
      · replace hf := ite_t c45 hf
        refine r_iconst C (q := 49) d_O_bundles_48 rfl ?_
        refine r_goto C (q := 53) d_O_bundles_49 (by decide) ?_
        exact r_sub [] rfl (s_x_bundles_53 C hf)
      · replace hf := ite_f c45 hf
        refine r_iconst C (q := 53) d_O_bundles_52 rfl ?_
        exact r_sub [] rfl (s_x_bundles_53 C hf)
def x_torn (N : Nat) (v1 : Int) (s : St) : MM := bd (x_Rows_has N v1 s) (fun r5 s5 => if eq32 r5 0 then (some ((-2), s5)) else (bd (x_Rows_isKnown N v1 s5) (fun r19 s19 => if eq32 r19 0 then (some ((-3), s19)) else (bd (x_Bundles_gather N s19) (fun r36 s36 => bd (x_Bundles_numberOf N v1 s36) (fun r52 s52 => bd (x_Bundles_isTorn N r52 s52) (fun r55 s55 => bd (x_asInt N r55 s55) (fun r58 s58 => some (r58, s58)))))))))
abbrev rm_x_torn : Room := { frames := 5, cells := 0, slots := 0, locals := 119 }
theorem c_x_torn {l : Launch} {G : GG} (hi : wo_i (xW G)) {N : Nat} {v1 : Int} {s : St} {o : Int × St} (hf : x_torn N v1 s = some o) : CtI l (xW G) y_O_torn (wo y_O_torn prog_1_method_26_code 2 (some .int)) rm_x_torn [.ref ((xW G).h 0), vI v1] s o := by
  refine ct_I (by decide +kernel) hi (Nat.le_of_ble_eq_true rfl) fun X C => ?_
  unfold x_torn at hf
  show Rj X (xW G) 2 (qI X (xW G) o) 0 [(0, .ref ((xW G).h 0)), (1, vI v1)] [] s
  refine r_aload_n C (q := 1) 0 d_O_torn_0 rfl rfl rfl ?_
  refine gxx_O_rows C (q := 4) fl_O_27 d_O_torn_1 rfl ?_
  refine r_iload_n C (q := 5) 1 d_O_torn_4 rfl rfl rfl ?_
  obtain ⟨r5, s5, hg5, hf⟩ := bd_s hf
  refine r_cVI C (q := 8) (As := [vI v1]) (k0 := 3) (c_x_Rows_has C.i hg5) mt_Rows_has ml_O_138 (Nat.le_of_ble_eq_true rfl) rfl rfl rfl rfl rfl rfl ⟨Nat.le_of_ble_eq_true rfl, Nat.le_of_ble_eq_true rfl⟩ rfl (Nat.le_of_ble_eq_true rfl) d_O_torn_5 rfl ?_
  refine r_if_ne C (t := 14) (q := 11) d_O_torn_8 (by decide) rfl (fun c8 => ?_) (fun c8 => ?_)
  · replace hf := ite_t c8 hf
    refine r_bipush C (q := 13) (x := (-2)) d_O_torn_11 rfl rfl ?_
    exact r_ireturn C hf d_O_torn_13
  · replace hf := ite_f c8 hf
    refine r_aload_n C (q := 15) 0 d_O_torn_14 rfl rfl rfl ?_
    refine gxx_O_rows C (q := 18) fl_O_27 d_O_torn_15 rfl ?_
    refine r_iload_n C (q := 19) 1 d_O_torn_18 rfl rfl rfl ?_
    obtain ⟨r19, s19, hg19, hf⟩ := bd_s hf
    refine r_cVI C (q := 22) (As := [vI v1]) (k0 := 3) (c_x_Rows_isKnown C.i hg19) mt_Rows_isKnown ml_O_148 (Nat.le_of_ble_eq_true rfl) rfl rfl rfl rfl rfl rfl ⟨Nat.le_of_ble_eq_true rfl, Nat.le_of_ble_eq_true rfl⟩ rfl (Nat.le_of_ble_eq_true rfl) d_O_torn_19 rfl ?_
    refine r_if_ne C (t := 28) (q := 25) d_O_torn_22 (by decide) rfl (fun c22 => ?_) (fun c22 => ?_)
    · replace hf := ite_t c22 hf
      refine r_bipush C (q := 27) (x := (-3)) d_O_torn_25 rfl rfl ?_
      exact r_ireturn C hf d_O_torn_27
    · replace hf := ite_f c22 hf
      refine r_aload_n C (q := 29) 0 d_O_torn_28 rfl rfl rfl ?_
      refine gxx_O_bundles C (q := 32) fl_O_53 d_O_torn_29 rfl ?_
      refine r_aload_n C (q := 33) 0 d_O_torn_32 rfl rfl rfl ?_
      refine gxx_O_pairs C (q := 36) fl_O_19 d_O_torn_33 rfl ?_
      obtain ⟨r36, s36, hg36, hf⟩ := bd_s hf
      refine r_cVV C (q := 39) (As := [.ref ((xW G).h 2)]) (k0 := 8) (c_x_Bundles_gather C.i hg36) mt_Bundles_gather ml_O_241 (Nat.le_of_ble_eq_true rfl) rfl rfl rfl rfl rfl rfl ⟨Nat.le_of_ble_eq_true rfl, Nat.le_of_ble_eq_true rfl⟩ rfl (Nat.le_of_ble_eq_true rfl) d_O_torn_36 rfl ?_
      refine r_aload_n C (q := 40) 0 d_O_torn_39 rfl rfl rfl ?_
      refine gxx_O_bundles C (q := 43) fl_O_53 d_O_torn_40 rfl ?_
      refine r_aload_n C (q := 44) 0 d_O_torn_43 rfl rfl rfl ?_
      refine gxx_O_rows C (q := 47) fl_O_27 d_O_torn_44 rfl ?_
      refine r_aload_n C (q := 48) 0 d_O_torn_47 rfl rfl rfl ?_
      refine gxx_O_bundles C (q := 51) fl_O_53 d_O_torn_48 rfl ?_
      refine r_iload_n C (q := 52) 1 d_O_torn_51 rfl rfl rfl ?_
      obtain ⟨r52, s52, hg52, hf⟩ := bd_s hf
      refine r_cVI C (q := 55) (As := [vI v1]) (k0 := 8) (c_x_Bundles_numberOf C.i hg52) mt_Bundles_numberOf ml_O_245 (Nat.le_of_ble_eq_true rfl) rfl rfl rfl rfl rfl rfl ⟨Nat.le_of_ble_eq_true rfl, Nat.le_of_ble_eq_true rfl⟩ rfl (Nat.le_of_ble_eq_true rfl) d_O_torn_52 rfl ?_
      obtain ⟨r55, s55, hg55, hf⟩ := bd_s hf
      refine r_cVI C (q := 58) (As := [.ref ((xW G).h 3), vI r52]) (k0 := 8) (c_x_Bundles_isTorn C.i hg55) mt_Bundles_isTorn ml_O_255 (Nat.le_of_ble_eq_true rfl) rfl rfl rfl rfl rfl rfl ⟨Nat.le_of_ble_eq_true rfl, Nat.le_of_ble_eq_true rfl⟩ rfl (Nat.le_of_ble_eq_true rfl) d_O_torn_55 rfl ?_
      obtain ⟨r58, s58, hg58, hf⟩ := bd_s hf
      refine r_cSI C (q := 61) (As := [vI r55]) (c_x_asInt C.i hg58) mt_O_asInt ml_O_151 rfl rfl rfl ⟨Nat.le_of_ble_eq_true rfl, Nat.le_of_ble_eq_true rfl⟩ rfl (Nat.le_of_ble_eq_true rfl) d_O_torn_58 rfl ?_
      exact r_ireturn C hf d_O_torn_61
def x_Cut_enter_60 (N : Nat) (k8 : Int → St → MM) (v3 v4 : Int) (s : St) : MM := k8 (v4 + 1) s
def x_Cut_enter_147 (N : Nat) (k69 : Int → St → MM) (k81 : Int → St → MM) (v4 v5 t0 t1 : Int) (s : St) : MM := gd (inb t1 144) (k81 (v5 + 1) (su s 33 t1 t0))
def x_Cut_enter_123 (N : Nat) (k69 : Int → St → MM) (k81 : Int → St → MM) (v4 v5 t0 : Int) (s : St) : MM := if eq32 t0 0 then (x_Cut_enter_147 N k69 k81 v4 v5 0 ((v4 * 12) + v5) s) else (x_Cut_enter_147 N k69 k81 v4 v5 1 ((v4 * 12) + v5) s)
def x_Cut_enter_122 (N : Nat) (k69 : Int → St → MM) (k81 : Int → St → MM) (v4 v5 : Int) (s : St) : MM := x_Cut_enter_123 N k69 k81 v4 v5 0 s
def x_Cut_enter_81 (N : Nat) (k69 : Int → St → MM) (v4 : Int) (k81 : Int → St → MM) (v5 : Int) (s : St) : MM := if le32 (s 9 4) v5 then (k69 (v4 + 1) s) else (if eq32 v4 v5 then (x_Cut_enter_122 N k69 k81 v4 v5  s) else (gd (inb v4 12) (gd (inb v5 12) (bd (x_Pairs_areLinked N (s 32 v4) (s 32 v5) s) (fun r112 s112 => if eq32 r112 0 then (x_Cut_enter_122 N k69 k81 v4 v5  s112) else (x_Cut_enter_123 N k69 k81 v4 v5 1 s112))))))
def x_Cut_enter_69 (N : Nat) (k69 : Int → St → MM) (v4 : Int) (s : St) : MM := if le32 (s 9 4) v4 then (some (0, s)) else (itr (x_Cut_enter_81 N k69 v4) (fun _ _ => none) N 0 s)
def x_Cut_enter_8 (N : Nat) (v3 : Int) (k8 : Int → St → MM) (v4 : Int) (s : St) : MM := if le32 (s 3 2) v4 then (itr (x_Cut_enter_69 N ) (fun _ _ => none) N 0 s) else (bd (x_Bundles_numberOf N v4 s) (fun r23 s23 => if eq32 r23 v3 then (if le32 12 (s23 9 4) then (x_Cut_enter_60 N k8 v3 v4  s23) else (gd (inb (s23 9 4) 12) (x_Cut_enter_60 N k8 v3 v4  (su (su s23 32 (s23 9 4) v4) 9 4 (((su s23 32 (s23 9 4) v4) 9 4) + 1))))) else (x_Cut_enter_60 N k8 v3 v4  s23)))
def x_Cut_enter (N : Nat) (v3 : Int) (s : St) : MM := itr (x_Cut_enter_8 N v3) (fun _ _ => none) N 0 (su s 9 4 0)
abbrev rm_x_Cut_enter : Room := { frames := 4, cells := 0, slots := 0, locals := 96 }
theorem s_x_Cut_enter_60 {X : CxT} {l : Launch} {G : GG} (C : Cx X l (xW G) 7 prog_4_method_2_code "OneSelf$Cut" (wo y_Cut_enter prog_4_method_2_code 7 none) none rm_x_Cut_enter) {o : Int × St} {N : Nat} {v3 v4 : Int} {k8 : Int → St → MM} (hk8 : ∀ (u4 : Int) (s : St), k8 u4 s = some o → Rj X (xW G) 7 (qV X (xW G) o) 8 [(0, .ref ((xW G).h 9)), (1, .ref ((xW G).h 2)), (2, .ref ((xW G).h 8)), (3, vI v3), (4, vI u4)] [] s) {s : St} (hf : x_Cut_enter_60 N k8 v3 v4 s = some o) : Rj X (xW G) 7 (qV X (xW G) o) 60 [(0, .ref ((xW G).h 9)), (1, .ref ((xW G).h 2)), (2, .ref ((xW G).h 8)), (3, vI v3), (4, vI v4)] [] s := by
  unfold x_Cut_enter_60 at hf
  refine r_iinc C (q := 63) (lv' := [(4, vI (v4 + 1)), (0, .ref ((xW G).h 9)), (1, .ref ((xW G).h 2)), (2, .ref ((xW G).h 8)), (3, vI v3)]) 4 d_Cut_enter_60 rfl (by decide) rfl rfl ?_
  refine r_goto C (q := 8) d_Cut_enter_63 (by decide) ?_
  exact r_sub [1, 2, 3, 4, 0] rfl (hk8 _ _  hf)
theorem s_x_Cut_enter_147 {X : CxT} {l : Launch} {G : GG} (C : Cx X l (xW G) 7 prog_4_method_2_code "OneSelf$Cut" (wo y_Cut_enter prog_4_method_2_code 7 none) none rm_x_Cut_enter) {o : Int × St} {N : Nat} {v4 v5 t0 t1 : Int} {k69 : Int → St → MM} (hk69 : ∀ (u4 : Int) (s : St), k69 u4 s = some o → Rj X (xW G) 7 (qV X (xW G) o) 69 [(0, .ref ((xW G).h 9)), (1, .ref ((xW G).h 2)), (4, vI u4)] [] s) {k81 : Int → St → MM} (hk81 : ∀ (u5 : Int) (s : St), k81 u5 s = some o → Rj X (xW G) 7 (qV X (xW G) o) 81 [(0, .ref ((xW G).h 9)), (1, .ref ((xW G).h 2)), (4, vI v4), (5, vI u5)] [] s) {s : St} (hf : x_Cut_enter_147 N k69 k81 v4 v5 t0 t1 s = some o) : Rj X (xW G) 7 (qV X (xW G) o) 147 [(0, .ref ((xW G).h 9)), (1, .ref ((xW G).h 2)), (4, vI v4), (5, vI v5)] [vI t0, vI t1, .ref ((xW G).h 33)] s := by
  unfold x_Cut_enter_147 at hf
  obtain ⟨g147, hf⟩ := gd_s hf
  refine r_iast C (q := 148) 33 (Nat.le_of_ble_eq_true rfl) (fun _ => rfl) 0 rfl g147 (by decide) d_Cut_enter_147 rfl ?_
  refine r_iinc C (q := 151) (lv' := [(5, vI (v5 + 1)), (0, .ref ((xW G).h 9)), (1, .ref ((xW G).h 2)), (4, vI v4)]) 3 d_Cut_enter_148 rfl (by decide) rfl rfl ?_
  refine r_goto C (q := 81) d_Cut_enter_151 (by decide) ?_
  exact r_sub [1, 2, 3, 0] rfl (hk81 _ _  hf)
theorem s_x_Cut_enter_123 {X : CxT} {l : Launch} {G : GG} (C : Cx X l (xW G) 7 prog_4_method_2_code "OneSelf$Cut" (wo y_Cut_enter prog_4_method_2_code 7 none) none rm_x_Cut_enter) {o : Int × St} {N : Nat} {v4 v5 t0 : Int} {k69 : Int → St → MM} (hk69 : ∀ (u4 : Int) (s : St), k69 u4 s = some o → Rj X (xW G) 7 (qV X (xW G) o) 69 [(0, .ref ((xW G).h 9)), (1, .ref ((xW G).h 2)), (4, vI u4)] [] s) {k81 : Int → St → MM} (hk81 : ∀ (u5 : Int) (s : St), k81 u5 s = some o → Rj X (xW G) 7 (qV X (xW G) o) 81 [(0, .ref ((xW G).h 9)), (1, .ref ((xW G).h 2)), (4, vI v4), (5, vI u5)] [] s) {s : St} (hf : x_Cut_enter_123 N k69 k81 v4 v5 t0 s = some o) : Rj X (xW G) 7 (qV X (xW G) o) 123 [(0, .ref ((xW G).h 9)), (1, .ref ((xW G).h 2)), (4, vI v4), (5, vI v5)] [vI t0] s := by
  unfold x_Cut_enter_123 at hf
  refine r_istore C (q := 125) (lv' := [(6, vI t0), (0, .ref ((xW G).h 9)), (1, .ref ((xW G).h 2)), (4, vI v4), (5, vI v5)]) d_Cut_enter_123 (by decide) rfl rfl ?_
  refine r_aload_n C (q := 126) 1 d_Cut_enter_125 rfl rfl rfl ?_
  refine gxx_Cut_room C (q := 129) fl_Cut_15 d_Cut_enter_126 rfl ?_
  refine r_iload C (q := 131) 3 d_Cut_enter_129 rfl rfl ?_
  refine r_bipush C (q := 133) (x := 12) d_Cut_enter_131 rfl rfl ?_
  refine r_imul C (q := 134) d_Cut_enter_133 rfl ?_
  refine r_iload C (q := 136) 4 d_Cut_enter_134 rfl rfl ?_
  refine r_iadd C (q := 137) d_Cut_enter_136 rfl ?_
  refine r_iload C (q := 139) 0 d_Cut_enter_137 rfl rfl ?_
  refine r_if_eq C (t := 146) (q := 142) d_Cut_enter_139 (by decide) rfl (fun c139 => ?_) (fun c139 => ?_)
  · replace hf := ite_t c139 hf
    refine r_iconst C (q := 147) d_Cut_enter_146 rfl ?_
    exact r_sub [1, 2, 3, 4] rfl (s_x_Cut_enter_147 C hk69 hk81 hf)
  · replace hf := ite_f c139 hf
    refine r_iconst C (q := 143) d_Cut_enter_142 rfl ?_
    refine r_goto C (q := 147) d_Cut_enter_143 (by decide) ?_
    exact r_sub [1, 2, 3, 4] rfl (s_x_Cut_enter_147 C hk69 hk81 hf)
theorem s_x_Cut_enter_122 {X : CxT} {l : Launch} {G : GG} (C : Cx X l (xW G) 7 prog_4_method_2_code "OneSelf$Cut" (wo y_Cut_enter prog_4_method_2_code 7 none) none rm_x_Cut_enter) {o : Int × St} {N : Nat} {v4 v5 : Int} {k69 : Int → St → MM} (hk69 : ∀ (u4 : Int) (s : St), k69 u4 s = some o → Rj X (xW G) 7 (qV X (xW G) o) 69 [(0, .ref ((xW G).h 9)), (1, .ref ((xW G).h 2)), (4, vI u4)] [] s) {k81 : Int → St → MM} (hk81 : ∀ (u5 : Int) (s : St), k81 u5 s = some o → Rj X (xW G) 7 (qV X (xW G) o) 81 [(0, .ref ((xW G).h 9)), (1, .ref ((xW G).h 2)), (4, vI v4), (5, vI u5)] [] s) {s : St} (hf : x_Cut_enter_122 N k69 k81 v4 v5 s = some o) : Rj X (xW G) 7 (qV X (xW G) o) 122 [(0, .ref ((xW G).h 9)), (1, .ref ((xW G).h 2)), (4, vI v4), (5, vI v5)] [] s := by
  unfold x_Cut_enter_122 at hf
  refine r_iconst C (q := 123) d_Cut_enter_122 rfl ?_
  exact r_sub [0, 1, 2, 3] rfl (s_x_Cut_enter_123 C hk69 hk81 hf)
theorem s_x_Cut_enter_81 {X : CxT} {l : Launch} {G : GG} (C : Cx X l (xW G) 7 prog_4_method_2_code "OneSelf$Cut" (wo y_Cut_enter prog_4_method_2_code 7 none) none rm_x_Cut_enter) {o : Int × St} {N : Nat} {v4 v5 : Int} {k69 : Int → St → MM} (hk69 : ∀ (u4 : Int) (s : St), k69 u4 s = some o → Rj X (xW G) 7 (qV X (xW G) o) 69 [(0, .ref ((xW G).h 9)), (1, .ref ((xW G).h 2)), (4, vI u4)] [] s) {k81 : Int → St → MM} (hk81 : ∀ (u5 : Int) (s : St), k81 u5 s = some o → Rj X (xW G) 7 (qV X (xW G) o) 81 [(0, .ref ((xW G).h 9)), (1, .ref ((xW G).h 2)), (4, vI v4), (5, vI u5)] [] s) {s : St} (hf : x_Cut_enter_81 N k69 v4 k81 v5 s = some o) : Rj X (xW G) 7 (qV X (xW G) o) 81 [(0, .ref ((xW G).h 9)), (1, .ref ((xW G).h 2)), (4, vI v4), (5, vI v5)] [] s := by
  unfold x_Cut_enter_81 at hf
  refine r_iload C (q := 83) 3 d_Cut_enter_81 rfl rfl ?_
  refine r_aload_n C (q := 84) 0 d_Cut_enter_83 rfl rfl rfl ?_
  refine gxx_Cut_many C (q := 87) fl_Cut_24 d_Cut_enter_84 rfl ?_
  refine r_ic_ge C (t := 154) (q := 90) d_Cut_enter_87 (by decide) rfl (fun c87 => ?_) (fun c87 => ?_)
  · replace hf := ite_t c87 hf
    refine r_iinc C (q := 157) (lv' := [(4, vI (v4 + 1)), (0, .ref ((xW G).h 9)), (1, .ref ((xW G).h 2)), (5, vI v5)]) 2 d_Cut_enter_154 rfl (by decide) rfl rfl ?_
    refine r_goto C (q := 69) d_Cut_enter_157 (by decide) ?_
    exact r_sub [1, 2, 0] rfl (hk69 _ _  hf)
  · replace hf := ite_f c87 hf
    refine r_iload C (q := 92) 2 d_Cut_enter_90 rfl rfl ?_
    refine r_iload C (q := 94) 3 d_Cut_enter_92 rfl rfl ?_
    refine r_ic_eq C (t := 122) (q := 97) d_Cut_enter_94 (by decide) rfl (fun c94 => ?_) (fun c94 => ?_)
    · replace hf := ite_t c94 hf
      exact r_sub [0, 1, 2, 3] rfl (s_x_Cut_enter_122 C hk69 hk81 hf)
    · replace hf := ite_f c94 hf
      refine r_aload_n C (q := 98) 1 d_Cut_enter_97 rfl rfl rfl ?_
      refine r_aload_n C (q := 99) 0 d_Cut_enter_98 rfl rfl rfl ?_
      refine gxx_Cut_members C (q := 102) fl_Cut_9 d_Cut_enter_99 rfl ?_
      refine r_iload C (q := 104) 2 d_Cut_enter_102 rfl rfl ?_
      obtain ⟨g104, hf⟩ := gd_s hf
      refine r_iald C (q := 105) 32 (Nat.le_of_ble_eq_true rfl) (fun _ => rfl) 0 rfl g104 (by decide) d_Cut_enter_104 rfl ?_
      refine r_aload_n C (q := 106) 0 d_Cut_enter_105 rfl rfl rfl ?_
      refine gxx_Cut_members C (q := 109) fl_Cut_9 d_Cut_enter_106 rfl ?_
      refine r_iload C (q := 111) 3 d_Cut_enter_109 rfl rfl ?_
      obtain ⟨g111, hf⟩ := gd_s hf
      refine r_iald C (q := 112) 32 (Nat.le_of_ble_eq_true rfl) (fun _ => rfl) 0 rfl g111 (by decide) d_Cut_enter_111 rfl ?_
      obtain ⟨r112, s112, hg112, hf⟩ := bd_s hf
      refine r_cVI C (q := 115) (As := [vI (s 32 v4), vI (s 32 v5)]) (k0 := 2) (c_x_Pairs_areLinked C.i hg112) mt_Pairs_areLinked ml_Cut_43 (Nat.le_of_ble_eq_true rfl) rfl rfl rfl rfl rfl rfl ⟨Nat.le_of_ble_eq_true rfl, Nat.le_of_ble_eq_true rfl⟩ rfl (Nat.le_of_ble_eq_true rfl) d_Cut_enter_112 rfl ?_
      refine r_if_eq C (t := 122) (q := 118) d_Cut_enter_115 (by decide) rfl (fun c115 => ?_) (fun c115 => ?_)
      · replace hf := ite_t c115 hf
        exact r_sub [0, 1, 2, 3] rfl (s_x_Cut_enter_122 C hk69 hk81 hf)
      · replace hf := ite_f c115 hf
        refine r_iconst C (q := 119) d_Cut_enter_118 rfl ?_
        refine r_goto C (q := 123) d_Cut_enter_119 (by decide) ?_
        exact r_sub [0, 1, 2, 3] rfl (s_x_Cut_enter_123 C hk69 hk81 hf)
theorem s_x_Cut_enter_69 {X : CxT} {l : Launch} {G : GG} (C : Cx X l (xW G) 7 prog_4_method_2_code "OneSelf$Cut" (wo y_Cut_enter prog_4_method_2_code 7 none) none rm_x_Cut_enter) {o : Int × St} {N : Nat} {v4 : Int} {k69 : Int → St → MM} (hk69 : ∀ (u4 : Int) (s : St), k69 u4 s = some o → Rj X (xW G) 7 (qV X (xW G) o) 69 [(0, .ref ((xW G).h 9)), (1, .ref ((xW G).h 2)), (4, vI u4)] [] s) {s : St} (hf : x_Cut_enter_69 N  k69 v4 s = some o) : Rj X (xW G) 7 (qV X (xW G) o) 69 [(0, .ref ((xW G).h 9)), (1, .ref ((xW G).h 2)), (4, vI v4)] [] s := by
  unfold x_Cut_enter_69 at hf
  refine r_iload C (q := 71) 2 d_Cut_enter_69 rfl rfl ?_
  refine r_aload_n C (q := 72) 0 d_Cut_enter_71 rfl rfl rfl ?_
  refine gxx_Cut_many C (q := 75) fl_Cut_24 d_Cut_enter_72 rfl ?_
  refine r_ic_ge C (t := 160) (q := 78) d_Cut_enter_75 (by decide) rfl (fun c75 => ?_) (fun c75 => ?_)
  · replace hf := ite_t c75 hf
    exact r_return C hf d_Cut_enter_160
  · replace hf := ite_f c75 hf
    refine r_iconst C (q := 79) d_Cut_enter_78 rfl ?_
    refine r_istore C (q := 81) (lv' := [(5, vI 0), (0, .ref ((xW G).h 9)), (1, .ref ((xW G).h 2)), (4, vI v4)]) d_Cut_enter_79 (by decide) rfl rfl ?_
    have hL : ∀ (u5 : Int) (z : St), itr (x_Cut_enter_81 N k69 v4) (fun _ _ => none) N u5 z = some o → Rj X (xW G) 7 (qV X (xW G) o) 81 [(0, .ref ((xW G).h 9)), (1, .ref ((xW G).h 2)), (4, vI v4), (5, vI u5)] [] z := itr_ind (x_Cut_enter_81 N k69 v4) (fun _ _ => none) (fun k => ∀ (u5 : Int) (z : St), k u5 z = some o → Rj X (xW G) 7 (qV X (xW G) o) 81 [(0, .ref ((xW G).h 9)), (1, .ref ((xW G).h 2)), (4, vI v4), (5, vI u5)] [] z) (fun _ _  h => by cases h) (fun k hk u5 z h => s_x_Cut_enter_81 C hk69 hk h) N
    exact r_sub [1, 2, 3, 0] rfl (hL _ _  hf)
theorem s_x_Cut_enter_8 {X : CxT} {l : Launch} {G : GG} (C : Cx X l (xW G) 7 prog_4_method_2_code "OneSelf$Cut" (wo y_Cut_enter prog_4_method_2_code 7 none) none rm_x_Cut_enter) {o : Int × St} {N : Nat} {v3 v4 : Int} {k8 : Int → St → MM} (hk8 : ∀ (u4 : Int) (s : St), k8 u4 s = some o → Rj X (xW G) 7 (qV X (xW G) o) 8 [(0, .ref ((xW G).h 9)), (1, .ref ((xW G).h 2)), (2, .ref ((xW G).h 8)), (3, vI v3), (4, vI u4)] [] s) {s : St} (hf : x_Cut_enter_8 N v3 k8 v4 s = some o) : Rj X (xW G) 7 (qV X (xW G) o) 8 [(0, .ref ((xW G).h 9)), (1, .ref ((xW G).h 2)), (2, .ref ((xW G).h 8)), (3, vI v3), (4, vI v4)] [] s := by
  unfold x_Cut_enter_8 at hf
  refine r_iload C (q := 10) 4 d_Cut_enter_8 rfl rfl ?_
  refine r_aload_n C (q := 11) 1 d_Cut_enter_10 rfl rfl rfl ?_
  refine gnx_Pairs_rows C (q := 14) fn_Cut_28 d_Cut_enter_11 rfl ?_
  refine gnx_Rows_many C (q := 17) fn_Cut_34 d_Cut_enter_14 rfl ?_
  refine r_ic_ge C (t := 66) (q := 20) d_Cut_enter_17 (by decide) rfl (fun c17 => ?_) (fun c17 => ?_)
  · replace hf := ite_t c17 hf
    refine r_iconst C (q := 67) d_Cut_enter_66 rfl ?_
    refine r_istore C (q := 69) (lv' := [(4, vI 0), (0, .ref ((xW G).h 9)), (1, .ref ((xW G).h 2)), (2, .ref ((xW G).h 8)), (3, vI v3)]) d_Cut_enter_67 (by decide) rfl rfl ?_
    have hL : ∀ (u4 : Int) (z : St), itr (x_Cut_enter_69 N ) (fun _ _ => none) N u4 z = some o → Rj X (xW G) 7 (qV X (xW G) o) 69 [(0, .ref ((xW G).h 9)), (1, .ref ((xW G).h 2)), (4, vI u4)] [] z := itr_ind (x_Cut_enter_69 N ) (fun _ _ => none) (fun k => ∀ (u4 : Int) (z : St), k u4 z = some o → Rj X (xW G) 7 (qV X (xW G) o) 69 [(0, .ref ((xW G).h 9)), (1, .ref ((xW G).h 2)), (4, vI u4)] [] z) (fun _ _  h => by cases h) (fun k hk u4 z h => s_x_Cut_enter_69 C hk h) N
    exact r_sub [1, 2, 0] rfl (hL _ _  hf)
  · replace hf := ite_f c17 hf
    refine r_aload_n C (q := 21) 2 d_Cut_enter_20 rfl rfl rfl ?_
    refine r_iload C (q := 23) 4 d_Cut_enter_21 rfl rfl ?_
    obtain ⟨r23, s23, hg23, hf⟩ := bd_s hf
    refine r_cVI C (q := 26) (As := [vI v4]) (k0 := 8) (c_x_Bundles_numberOf C.i hg23) mt_Bundles_numberOf ml_Cut_37 (Nat.le_of_ble_eq_true rfl) rfl rfl rfl rfl rfl rfl ⟨Nat.le_of_ble_eq_true rfl, Nat.le_of_ble_eq_true rfl⟩ rfl (Nat.le_of_ble_eq_true rfl) d_Cut_enter_23 rfl ?_
    refine r_iload_n C (q := 27) 3 d_Cut_enter_26 rfl rfl rfl ?_
    refine r_ic_ne C (t := 60) (q := 30) d_Cut_enter_27 (by decide) rfl (fun c27 => ?_) (fun c27 => ?_)
    · replace hf := ite_t c27 hf
      refine r_aload_n C (q := 31) 0 d_Cut_enter_30 rfl rfl rfl ?_
      refine gxx_Cut_many C (q := 34) fl_Cut_24 d_Cut_enter_31 rfl ?_
      refine r_bipush C (q := 36) (x := 12) d_Cut_enter_34 rfl rfl ?_
      refine r_ic_ge C (t := 60) (q := 39) d_Cut_enter_36 (by decide) rfl (fun c36 => ?_) (fun c36 => ?_)
      · replace hf := ite_t c36 hf
        exact r_sub [0, 1, 2, 3, 4] rfl (s_x_Cut_enter_60 C hk8 hf)
      · replace hf := ite_f c36 hf
        refine r_aload_n C (q := 40) 0 d_Cut_enter_39 rfl rfl rfl ?_
        refine gxx_Cut_members C (q := 43) fl_Cut_9 d_Cut_enter_40 rfl ?_
        refine r_aload_n C (q := 44) 0 d_Cut_enter_43 rfl rfl rfl ?_
        refine gxx_Cut_many C (q := 47) fl_Cut_24 d_Cut_enter_44 rfl ?_
        refine r_iload C (q := 49) 4 d_Cut_enter_47 rfl rfl ?_
        obtain ⟨g49, hf⟩ := gd_s hf
        refine r_iast C (q := 50) 32 (Nat.le_of_ble_eq_true rfl) (fun _ => rfl) 0 rfl g49 (by decide) d_Cut_enter_49 rfl ?_
        refine r_aload_n C (q := 51) 0 d_Cut_enter_50 rfl rfl rfl ?_
        refine r_dup C (q := 52) d_Cut_enter_51 rfl rfl ?_
        refine gxx_Cut_many C (q := 55) fl_Cut_24 d_Cut_enter_52 rfl ?_
        refine r_iconst C (q := 56) d_Cut_enter_55 rfl ?_
        refine r_iadd C (q := 57) d_Cut_enter_56 rfl ?_
        refine pxx_Cut_many C (q := 60) fl_Cut_24 d_Cut_enter_57 rfl ?_
        exact r_sub [0, 1, 2, 3, 4] rfl (s_x_Cut_enter_60 C hk8 hf)
    · replace hf := ite_f c27 hf
      exact r_sub [0, 1, 2, 3, 4] rfl (s_x_Cut_enter_60 C hk8 hf)
theorem c_x_Cut_enter {l : Launch} {G : GG} (hi : wo_i (xW G)) {N : Nat} {v3 : Int} {s : St} {o : Int × St} (hf : x_Cut_enter N v3 s = some o) : CtV l (xW G) y_Cut_enter (wo y_Cut_enter prog_4_method_2_code 7 none) rm_x_Cut_enter [.ref ((xW G).h 9), .ref ((xW G).h 2), .ref ((xW G).h 8), vI v3] s o := by
  refine ct_V (by decide +kernel) hi (Nat.le_of_ble_eq_true rfl) fun X C => ?_
  unfold x_Cut_enter at hf
  show Rj X (xW G) 7 (qV X (xW G) o) 0 [(0, .ref ((xW G).h 9)), (1, .ref ((xW G).h 2)), (2, .ref ((xW G).h 8)), (3, vI v3)] [] s
  refine r_aload_n C (q := 1) 0 d_Cut_enter_0 rfl rfl rfl ?_
  refine r_iconst C (q := 2) d_Cut_enter_1 rfl ?_
  refine pxx_Cut_many C (q := 5) fl_Cut_24 d_Cut_enter_2 rfl ?_
  refine r_iconst C (q := 6) d_Cut_enter_5 rfl ?_
  refine r_istore C (q := 8) (lv' := [(4, vI 0), (0, .ref ((xW G).h 9)), (1, .ref ((xW G).h 2)), (2, .ref ((xW G).h 8)), (3, vI v3)]) d_Cut_enter_6 (by decide) rfl rfl ?_
  have hL : ∀ (u4 : Int) (z : St), itr (x_Cut_enter_8 N v3) (fun _ _ => none) N u4 z = some o → Rj X (xW G) 7 (qV X (xW G) o) 8 [(0, .ref ((xW G).h 9)), (1, .ref ((xW G).h 2)), (2, .ref ((xW G).h 8)), (3, vI v3), (4, vI u4)] [] z := itr_ind (x_Cut_enter_8 N v3) (fun _ _ => none) (fun k => ∀ (u4 : Int) (z : St), k u4 z = some o → Rj X (xW G) 7 (qV X (xW G) o) 8 [(0, .ref ((xW G).h 9)), (1, .ref ((xW G).h 2)), (2, .ref ((xW G).h 8)), (3, vI v3), (4, vI u4)] [] z) (fun _ _  h => by cases h) (fun k hk u4 z h => s_x_Cut_enter_8 C hk h) N
  exact r_sub [1, 2, 3, 4, 0] rfl (hL _ _  hf)
def x_Cut_placeOf_2 (N : Nat) (v1 : Int) (k2 : Int → St → MM) (v2 : Int) (s : St) : MM := if le32 (s 9 4) v2 then (some (0, s)) else (gd (inb v2 12) (if eq32 (s 32 v2) v1 then (some (v2, s)) else (k2 (v2 + 1) s)))
def x_Cut_placeOf (N : Nat) (v1 : Int) (s : St) : MM := itr (x_Cut_placeOf_2 N v1) (fun _ _ => none) N 0 s
abbrev rm_x_Cut_placeOf : Room := { frames := 0, cells := 0, slots := 0, locals := 0 }
theorem s_x_Cut_placeOf_2 {X : CxT} {l : Launch} {G : GG} (C : Cx X l (xW G) 3 prog_4_method_4_code "OneSelf$Cut" (wo y_Cut_placeOf prog_4_method_4_code 3 (some .int)) (some .int) rm_x_Cut_placeOf) {o : Int × St} {N : Nat} {v1 v2 : Int} {k2 : Int → St → MM} (hk2 : ∀ (u2 : Int) (s : St), k2 u2 s = some o → Rj X (xW G) 3 (qI X (xW G) o) 2 [(0, .ref ((xW G).h 9)), (1, vI v1), (2, vI u2)] [] s) {s : St} (hf : x_Cut_placeOf_2 N v1 k2 v2 s = some o) : Rj X (xW G) 3 (qI X (xW G) o) 2 [(0, .ref ((xW G).h 9)), (1, vI v1), (2, vI v2)] [] s := by
  unfold x_Cut_placeOf_2 at hf
  refine r_iload_n C (q := 3) 2 d_Cut_placeOf_2 rfl rfl rfl ?_
  refine r_aload_n C (q := 4) 0 d_Cut_placeOf_3 rfl rfl rfl ?_
  refine gxx_Cut_many C (q := 7) fl_Cut_24 d_Cut_placeOf_4 rfl ?_
  refine r_ic_ge C (t := 28) (q := 10) d_Cut_placeOf_7 (by decide) rfl (fun c7 => ?_) (fun c7 => ?_)
  · replace hf := ite_t c7 hf
    refine r_iconst C (q := 29) d_Cut_placeOf_28 rfl ?_
    exact r_ireturn C hf d_Cut_placeOf_29
  · replace hf := ite_f c7 hf
    refine r_aload_n C (q := 11) 0 d_Cut_placeOf_10 rfl rfl rfl ?_
    refine gxx_Cut_members C (q := 14) fl_Cut_9 d_Cut_placeOf_11 rfl ?_
    refine r_iload_n C (q := 15) 2 d_Cut_placeOf_14 rfl rfl rfl ?_
    obtain ⟨g15, hf⟩ := gd_s hf
    refine r_iald C (q := 16) 32 (Nat.le_of_ble_eq_true rfl) (fun _ => rfl) 0 rfl g15 (by decide) d_Cut_placeOf_15 rfl ?_
    refine r_iload_n C (q := 17) 1 d_Cut_placeOf_16 rfl rfl rfl ?_
    refine r_ic_ne C (t := 22) (q := 20) d_Cut_placeOf_17 (by decide) rfl (fun c17 => ?_) (fun c17 => ?_)
    · replace hf := ite_t c17 hf
      refine r_iload_n C (q := 21) 2 d_Cut_placeOf_20 rfl rfl rfl ?_
      exact r_ireturn C hf d_Cut_placeOf_21
    · replace hf := ite_f c17 hf
      refine r_iinc C (q := 25) (lv' := [(2, vI (v2 + 1)), (0, .ref ((xW G).h 9)), (1, vI v1)]) 2 d_Cut_placeOf_22 rfl (by decide) rfl rfl ?_
      refine r_goto C (q := 2) d_Cut_placeOf_25 (by decide) ?_
      exact r_sub [1, 2, 0] rfl (hk2 _ _  hf)
theorem c_x_Cut_placeOf {l : Launch} {G : GG} (hi : wo_i (xW G)) {N : Nat} {v1 : Int} {s : St} {o : Int × St} (hf : x_Cut_placeOf N v1 s = some o) : CtI l (xW G) y_Cut_placeOf (wo y_Cut_placeOf prog_4_method_4_code 3 (some .int)) rm_x_Cut_placeOf [.ref ((xW G).h 9), vI v1] s o := by
  refine ct_I (by decide +kernel) hi (Nat.le_of_ble_eq_true rfl) fun X C => ?_
  unfold x_Cut_placeOf at hf
  show Rj X (xW G) 3 (qI X (xW G) o) 0 [(0, .ref ((xW G).h 9)), (1, vI v1)] [] s
  refine r_iconst C (q := 1) d_Cut_placeOf_0 rfl ?_
  refine r_istore_n C (q := 2) (lv' := [(2, vI 0), (0, .ref ((xW G).h 9)), (1, vI v1)]) d_Cut_placeOf_1 rfl (by decide) rfl rfl ?_
  have hL : ∀ (u2 : Int) (z : St), itr (x_Cut_placeOf_2 N v1) (fun _ _ => none) N u2 z = some o → Rj X (xW G) 3 (qI X (xW G) o) 2 [(0, .ref ((xW G).h 9)), (1, vI v1), (2, vI u2)] [] z := itr_ind (x_Cut_placeOf_2 N v1) (fun _ _ => none) (fun k => ∀ (u2 : Int) (z : St), k u2 z = some o → Rj X (xW G) 3 (qI X (xW G) o) 2 [(0, .ref ((xW G).h 9)), (1, vI v1), (2, vI u2)] [] z) (fun _ _  h => by cases h) (fun k hk u2 z h => s_x_Cut_placeOf_2 C hk h) N
  exact r_sub [1, 2, 0] rfl (hL _ _  hf)
def x_Cut_findWay_122 (N : Nat) (v2 : Int) (s : St) : MM := gd (inb v2 12) (if eq32 (s 35 v2) ((-1)) then (some (0, s)) else (some (1, s)))
def x_Cut_findWay_110 (N : Nat) (k27 : Int → Int → St → MM) (k54 : Int → Int → St → MM) (v2 v3 v4 v5 v6 : Int) (s : St) : MM := k54 v3 (v6 + 1) s
def x_Cut_findWay_54 (N : Nat) (k27 : Int → Int → St → MM) (v2 v4 v5 : Int) (k54 : Int → Int → St → MM) (v3 v6 : Int) (s : St) : MM := if le32 (s 9 4) v6 then (k27 v3 (v4 + 1) s) else (gd (inb v6 12) (if eq32 (s 35 v6) ((-1)) then (gd (inb ((v5 * 12) + v6) 144) (if le32 (s 33 ((v5 * 12) + v6)) 0 then (x_Cut_findWay_110 N k27 k54 v2 v3 v4 v5 v6  s) else (gd (inb v6 12) (gd (inb v3 12) (x_Cut_findWay_110 N k27 k54 v2 (v3 + 1) v4 v5 v6  (su (su s 35 v6 v5) 34 v3 v6)))))) else (x_Cut_findWay_110 N k27 k54 v2 v3 v4 v5 v6  s)))
def x_Cut_findWay_27 (N : Nat) (v2 : Int) (k27 : Int → Int → St → MM) (v3 v4 : Int) (s : St) : MM := if le32 v3 v4 then (x_Cut_findWay_122 N v2  s) else (if le32 (s 9 4) v4 then (x_Cut_findWay_122 N v2  s) else (gd (inb v4 12) (itr (x_Cut_findWay_54 N k27 v2 v4 (s 34 v4)) (fun _ _ _ => none) N v3 0 s)))
def x_Cut_findWay (N : Nat) (v1 v2 : Int) (s : St) : MM := bd (j_Arrays_fill_IIV N 35 12 ((-1)) s) (fun r5 s5 => gd (inb v1 12) (gd (inb 0 12) (itr (x_Cut_findWay_27 N v2) (fun _ _ _ => none) N 1 0 (su (su s5 35 v1 v1) 34 0 v1))))
abbrev rm_x_Cut_findWay : Room := { frames := 1, cells := 0, slots := 0, locals := 23 }
theorem s_x_Cut_findWay_122 {X : CxT} {l : Launch} {G : GG} (C : Cx X l (xW G) 7 prog_4_method_5_code "OneSelf$Cut" (wo y_Cut_findWay prog_4_method_5_code 7 (some .boolean)) (some .boolean) rm_x_Cut_findWay) {o : Int × St} {N : Nat} {v2 : Int} {s : St} (hf : x_Cut_findWay_122 N v2 s = some o) : Rj X (xW G) 7 (qI X (xW G) o) 122 [(0, .ref ((xW G).h 9)), (2, vI v2)] [] s := by
  unfold x_Cut_findWay_122 at hf
  refine r_aload_n C (q := 123) 0 d_Cut_findWay_122 rfl rfl rfl ?_
  refine gxx_Cut_cameFrom C (q := 126) fl_Cut_21 d_Cut_findWay_123 rfl ?_
  refine r_iload_n C (q := 127) 1 d_Cut_findWay_126 rfl rfl rfl ?_
  obtain ⟨g127, hf⟩ := gd_s hf
  refine r_iald C (q := 128) 35 (Nat.le_of_ble_eq_true rfl) (fun _ => rfl) 0 rfl g127 (by decide) d_Cut_findWay_127 rfl ?_
  refine r_iconst C (q := 129) d_Cut_findWay_128 rfl ?_
  refine r_ic_eq C (t := 136) (q := 132) d_Cut_findWay_129 (by decide) rfl (fun c129 => ?_) (fun c129 => ?_)
  · replace hf := ite_t c129 hf
    refine r_iconst C (q := 137) d_Cut_findWay_136 rfl ?_
    exact r_zreturn C (by decide) hf d_Cut_findWay_137
  · replace hf := ite_f c129 hf
    refine r_iconst C (q := 133) d_Cut_findWay_132 rfl ?_
    refine r_goto C (q := 137) d_Cut_findWay_133 (by decide) ?_
    exact r_zreturn C (by decide) hf d_Cut_findWay_137
theorem s_x_Cut_findWay_110 {X : CxT} {l : Launch} {G : GG} (C : Cx X l (xW G) 7 prog_4_method_5_code "OneSelf$Cut" (wo y_Cut_findWay prog_4_method_5_code 7 (some .boolean)) (some .boolean) rm_x_Cut_findWay) {o : Int × St} {N : Nat} {v2 v3 v4 v5 v6 : Int} {k27 : Int → Int → St → MM} (hk27 : ∀ (u3 u4 : Int) (s : St), k27 u3 u4 s = some o → Rj X (xW G) 7 (qI X (xW G) o) 27 [(0, .ref ((xW G).h 9)), (2, vI v2), (3, vI u3), (4, vI u4)] [] s) {k54 : Int → Int → St → MM} (hk54 : ∀ (u3 u6 : Int) (s : St), k54 u3 u6 s = some o → Rj X (xW G) 7 (qI X (xW G) o) 54 [(0, .ref ((xW G).h 9)), (2, vI v2), (3, vI u3), (4, vI v4), (5, vI v5), (6, vI u6)] [] s) {s : St} (hf : x_Cut_findWay_110 N k27 k54 v2 v3 v4 v5 v6 s = some o) : Rj X (xW G) 7 (qI X (xW G) o) 110 [(0, .ref ((xW G).h 9)), (2, vI v2), (3, vI v3), (4, vI v4), (5, vI v5), (6, vI v6)] [] s := by
  unfold x_Cut_findWay_110 at hf
  refine r_iinc C (q := 113) (lv' := [(6, vI (v6 + 1)), (0, .ref ((xW G).h 9)), (2, vI v2), (3, vI v3), (4, vI v4), (5, vI v5)]) 5 d_Cut_findWay_110 rfl (by decide) rfl rfl ?_
  refine r_goto C (q := 54) d_Cut_findWay_113 (by decide) ?_
  exact r_sub [1, 2, 3, 4, 5, 0] rfl (hk54 _ _ _  hf)
theorem s_x_Cut_findWay_54 {X : CxT} {l : Launch} {G : GG} (C : Cx X l (xW G) 7 prog_4_method_5_code "OneSelf$Cut" (wo y_Cut_findWay prog_4_method_5_code 7 (some .boolean)) (some .boolean) rm_x_Cut_findWay) {o : Int × St} {N : Nat} {v2 v3 v4 v5 v6 : Int} {k27 : Int → Int → St → MM} (hk27 : ∀ (u3 u4 : Int) (s : St), k27 u3 u4 s = some o → Rj X (xW G) 7 (qI X (xW G) o) 27 [(0, .ref ((xW G).h 9)), (2, vI v2), (3, vI u3), (4, vI u4)] [] s) {k54 : Int → Int → St → MM} (hk54 : ∀ (u3 u6 : Int) (s : St), k54 u3 u6 s = some o → Rj X (xW G) 7 (qI X (xW G) o) 54 [(0, .ref ((xW G).h 9)), (2, vI v2), (3, vI u3), (4, vI v4), (5, vI v5), (6, vI u6)] [] s) {s : St} (hf : x_Cut_findWay_54 N k27 v2 v4 v5 k54 v3 v6 s = some o) : Rj X (xW G) 7 (qI X (xW G) o) 54 [(0, .ref ((xW G).h 9)), (2, vI v2), (3, vI v3), (4, vI v4), (5, vI v5), (6, vI v6)] [] s := by
  unfold x_Cut_findWay_54 at hf
  refine r_iload C (q := 56) 5 d_Cut_findWay_54 rfl rfl ?_
  refine r_aload_n C (q := 57) 0 d_Cut_findWay_56 rfl rfl rfl ?_
  refine gxx_Cut_many C (q := 60) fl_Cut_24 d_Cut_findWay_57 rfl ?_
  refine r_ic_ge C (t := 116) (q := 63) d_Cut_findWay_60 (by decide) rfl (fun c60 => ?_) (fun c60 => ?_)
  · replace hf := ite_t c60 hf
    refine r_iinc C (q := 119) (lv' := [(4, vI (v4 + 1)), (0, .ref ((xW G).h 9)), (2, vI v2), (3, vI v3), (5, vI v5), (6, vI v6)]) 3 d_Cut_findWay_116 rfl (by decide) rfl rfl ?_
    refine r_goto C (q := 27) d_Cut_findWay_119 (by decide) ?_
    exact r_sub [1, 2, 3, 0] rfl (hk27 _ _ _  hf)
  · replace hf := ite_f c60 hf
    refine r_aload_n C (q := 64) 0 d_Cut_findWay_63 rfl rfl rfl ?_
    refine gxx_Cut_cameFrom C (q := 67) fl_Cut_21 d_Cut_findWay_64 rfl ?_
    refine r_iload C (q := 69) 5 d_Cut_findWay_67 rfl rfl ?_
    obtain ⟨g69, hf⟩ := gd_s hf
    refine r_iald C (q := 70) 35 (Nat.le_of_ble_eq_true rfl) (fun _ => rfl) 0 rfl g69 (by decide) d_Cut_findWay_69 rfl ?_
    refine r_iconst C (q := 71) d_Cut_findWay_70 rfl ?_
    refine r_ic_ne C (t := 110) (q := 74) d_Cut_findWay_71 (by decide) rfl (fun c71 => ?_) (fun c71 => ?_)
    · replace hf := ite_t c71 hf
      refine r_aload_n C (q := 75) 0 d_Cut_findWay_74 rfl rfl rfl ?_
      refine gxx_Cut_room C (q := 78) fl_Cut_15 d_Cut_findWay_75 rfl ?_
      refine r_iload C (q := 80) 4 d_Cut_findWay_78 rfl rfl ?_
      refine r_bipush C (q := 82) (x := 12) d_Cut_findWay_80 rfl rfl ?_
      refine r_imul C (q := 83) d_Cut_findWay_82 rfl ?_
      refine r_iload C (q := 85) 5 d_Cut_findWay_83 rfl rfl ?_
      refine r_iadd C (q := 86) d_Cut_findWay_85 rfl ?_
      obtain ⟨g86, hf⟩ := gd_s hf
      refine r_iald C (q := 87) 33 (Nat.le_of_ble_eq_true rfl) (fun _ => rfl) 0 rfl g86 (by decide) d_Cut_findWay_86 rfl ?_
      refine r_if_le C (t := 110) (q := 90) d_Cut_findWay_87 (by decide) rfl (fun c87 => ?_) (fun c87 => ?_)
      · replace hf := ite_t c87 hf
        exact r_sub [0, 1, 2, 3, 4, 5] rfl (s_x_Cut_findWay_110 C hk27 hk54 hf)
      · replace hf := ite_f c87 hf
        refine r_aload_n C (q := 91) 0 d_Cut_findWay_90 rfl rfl rfl ?_
        refine gxx_Cut_cameFrom C (q := 94) fl_Cut_21 d_Cut_findWay_91 rfl ?_
        refine r_iload C (q := 96) 5 d_Cut_findWay_94 rfl rfl ?_
        refine r_iload C (q := 98) 4 d_Cut_findWay_96 rfl rfl ?_
        obtain ⟨g98, hf⟩ := gd_s hf
        refine r_iast C (q := 99) 35 (Nat.le_of_ble_eq_true rfl) (fun _ => rfl) 0 rfl g98 (by decide) d_Cut_findWay_98 rfl ?_
        refine r_aload_n C (q := 100) 0 d_Cut_findWay_99 rfl rfl rfl ?_
        refine gxx_Cut_reached C (q := 103) fl_Cut_18 d_Cut_findWay_100 rfl ?_
        refine r_iload_n C (q := 104) 2 d_Cut_findWay_103 rfl rfl rfl ?_
        refine r_iload C (q := 106) 5 d_Cut_findWay_104 rfl rfl ?_
        obtain ⟨g106, hf⟩ := gd_s hf
        refine r_iast C (q := 107) 34 (Nat.le_of_ble_eq_true rfl) (fun _ => rfl) 0 rfl g106 (by decide) d_Cut_findWay_106 rfl ?_
        refine r_iinc C (q := 110) (lv' := [(3, vI (v3 + 1)), (0, .ref ((xW G).h 9)), (2, vI v2), (4, vI v4), (5, vI v5), (6, vI v6)]) 2 d_Cut_findWay_107 rfl (by decide) rfl rfl ?_
        exact r_sub [1, 2, 0, 3, 4, 5] rfl (s_x_Cut_findWay_110 C hk27 hk54 hf)
    · replace hf := ite_f c71 hf
      exact r_sub [0, 1, 2, 3, 4, 5] rfl (s_x_Cut_findWay_110 C hk27 hk54 hf)
theorem s_x_Cut_findWay_27 {X : CxT} {l : Launch} {G : GG} (C : Cx X l (xW G) 7 prog_4_method_5_code "OneSelf$Cut" (wo y_Cut_findWay prog_4_method_5_code 7 (some .boolean)) (some .boolean) rm_x_Cut_findWay) {o : Int × St} {N : Nat} {v2 v3 v4 : Int} {k27 : Int → Int → St → MM} (hk27 : ∀ (u3 u4 : Int) (s : St), k27 u3 u4 s = some o → Rj X (xW G) 7 (qI X (xW G) o) 27 [(0, .ref ((xW G).h 9)), (2, vI v2), (3, vI u3), (4, vI u4)] [] s) {s : St} (hf : x_Cut_findWay_27 N v2 k27 v3 v4 s = some o) : Rj X (xW G) 7 (qI X (xW G) o) 27 [(0, .ref ((xW G).h 9)), (2, vI v2), (3, vI v3), (4, vI v4)] [] s := by
  unfold x_Cut_findWay_27 at hf
  refine r_iload C (q := 29) 3 d_Cut_findWay_27 rfl rfl ?_
  refine r_iload_n C (q := 30) 2 d_Cut_findWay_29 rfl rfl rfl ?_
  refine r_ic_ge C (t := 122) (q := 33) d_Cut_findWay_30 (by decide) rfl (fun c30 => ?_) (fun c30 => ?_)
  · replace hf := ite_t c30 hf
    exact r_sub [0, 1] rfl (s_x_Cut_findWay_122 C hf)
  · replace hf := ite_f c30 hf
    refine r_iload C (q := 35) 3 d_Cut_findWay_33 rfl rfl ?_
    refine r_aload_n C (q := 36) 0 d_Cut_findWay_35 rfl rfl rfl ?_
    refine gxx_Cut_many C (q := 39) fl_Cut_24 d_Cut_findWay_36 rfl ?_
    refine r_ic_ge C (t := 122) (q := 42) d_Cut_findWay_39 (by decide) rfl (fun c39 => ?_) (fun c39 => ?_)
    · replace hf := ite_t c39 hf
      exact r_sub [0, 1] rfl (s_x_Cut_findWay_122 C hf)
    · replace hf := ite_f c39 hf
      refine r_aload_n C (q := 43) 0 d_Cut_findWay_42 rfl rfl rfl ?_
      refine gxx_Cut_reached C (q := 46) fl_Cut_18 d_Cut_findWay_43 rfl ?_
      refine r_iload C (q := 48) 3 d_Cut_findWay_46 rfl rfl ?_
      obtain ⟨g48, hf⟩ := gd_s hf
      refine r_iald C (q := 49) 34 (Nat.le_of_ble_eq_true rfl) (fun _ => rfl) 0 rfl g48 (by decide) d_Cut_findWay_48 rfl ?_
      refine r_istore C (q := 51) (lv' := [(5, vI (s 34 v4)), (0, .ref ((xW G).h 9)), (2, vI v2), (3, vI v3), (4, vI v4)]) d_Cut_findWay_49 (by decide) rfl rfl ?_
      refine r_iconst C (q := 52) d_Cut_findWay_51 rfl ?_
      refine r_istore C (q := 54) (lv' := [(6, vI 0), (5, vI (s 34 v4)), (0, .ref ((xW G).h 9)), (2, vI v2), (3, vI v3), (4, vI v4)]) d_Cut_findWay_52 (by decide) rfl rfl ?_
      have hL : ∀ (u3 u6 : Int) (z : St), itr (x_Cut_findWay_54 N k27 v2 v4 (s 34 v4)) (fun _ _ _ => none) N u3 u6 z = some o → Rj X (xW G) 7 (qI X (xW G) o) 54 [(0, .ref ((xW G).h 9)), (2, vI v2), (3, vI u3), (4, vI v4), (5, vI (s 34 v4)), (6, vI u6)] [] z := itr_ind (x_Cut_findWay_54 N k27 v2 v4 (s 34 v4)) (fun _ _ _ => none) (fun k => ∀ (u3 u6 : Int) (z : St), k u3 u6 z = some o → Rj X (xW G) 7 (qI X (xW G) o) 54 [(0, .ref ((xW G).h 9)), (2, vI v2), (3, vI u3), (4, vI v4), (5, vI (s 34 v4)), (6, vI u6)] [] z) (fun _ _ _  h => by cases h) (fun k hk u3 u6 z h => s_x_Cut_findWay_54 C hk27 hk h) N
      exact r_sub [2, 3, 4, 5, 1, 0] rfl (hL _ _ _  hf)
theorem c_x_Cut_findWay {l : Launch} {G : GG} (hi : wo_i (xW G)) {N : Nat} {v1 v2 : Int} {s : St} {o : Int × St} (hf : x_Cut_findWay N v1 v2 s = some o) : CtI l (xW G) y_Cut_findWay (wo y_Cut_findWay prog_4_method_5_code 7 (some .boolean)) rm_x_Cut_findWay [.ref ((xW G).h 9), vI v1, vI v2] s o := by
  refine ct_I (by decide +kernel) hi (Nat.le_of_ble_eq_true rfl) fun X C => ?_
  unfold x_Cut_findWay at hf
  show Rj X (xW G) 7 (qI X (xW G) o) 0 [(0, .ref ((xW G).h 9)), (1, vI v1), (2, vI v2)] [] s
  refine r_aload_n C (q := 1) 0 d_Cut_findWay_0 rfl rfl rfl ?_
  refine gxx_Cut_cameFrom C (q := 4) fl_Cut_21 d_Cut_findWay_1 rfl ?_
  refine r_iconst C (q := 5) d_Cut_findWay_4 rfl ?_
  obtain ⟨r5, s5, hg5, hf⟩ := bd_s hf
  refine r_cSV C (q := 8) (As := [.ref ((xW G).h 35), vI ((-1))]) (c_j_Arrays_fill_IIV (Nat.le_of_ble_eq_true rfl) (fun _ => rfl) 0 rfl (by decide) C.i hg5) mt_Arrays_fill_IIV ml_Cut_57 rfl rfl rfl ⟨Nat.le_of_ble_eq_true rfl, Nat.le_of_ble_eq_true rfl⟩ rfl (Nat.le_of_ble_eq_true rfl) d_Cut_findWay_5 rfl ?_
  refine r_aload_n C (q := 9) 0 d_Cut_findWay_8 rfl rfl rfl ?_
  refine gxx_Cut_cameFrom C (q := 12) fl_Cut_21 d_Cut_findWay_9 rfl ?_
  refine r_iload_n C (q := 13) 1 d_Cut_findWay_12 rfl rfl rfl ?_
  refine r_iload_n C (q := 14) 1 d_Cut_findWay_13 rfl rfl rfl ?_
  obtain ⟨g14, hf⟩ := gd_s hf
  refine r_iast C (q := 15) 35 (Nat.le_of_ble_eq_true rfl) (fun _ => rfl) 0 rfl g14 (by decide) d_Cut_findWay_14 rfl ?_
  refine r_aload_n C (q := 16) 0 d_Cut_findWay_15 rfl rfl rfl ?_
  refine gxx_Cut_reached C (q := 19) fl_Cut_18 d_Cut_findWay_16 rfl ?_
  refine r_iconst C (q := 20) d_Cut_findWay_19 rfl ?_
  refine r_iload_n C (q := 21) 1 d_Cut_findWay_20 rfl rfl rfl ?_
  obtain ⟨g21, hf⟩ := gd_s hf
  refine r_iast C (q := 22) 34 (Nat.le_of_ble_eq_true rfl) (fun _ => rfl) 0 rfl g21 (by decide) d_Cut_findWay_21 rfl ?_
  refine r_iconst C (q := 23) d_Cut_findWay_22 rfl ?_
  refine r_istore_n C (q := 24) (lv' := [(3, vI 1), (0, .ref ((xW G).h 9)), (1, vI v1), (2, vI v2)]) d_Cut_findWay_23 rfl (by decide) rfl rfl ?_
  refine r_iconst C (q := 25) d_Cut_findWay_24 rfl ?_
  refine r_istore C (q := 27) (lv' := [(4, vI 0), (3, vI 1), (0, .ref ((xW G).h 9)), (1, vI v1), (2, vI v2)]) d_Cut_findWay_25 (by decide) rfl rfl ?_
  have hL : ∀ (u3 u4 : Int) (z : St), itr (x_Cut_findWay_27 N v2) (fun _ _ _ => none) N u3 u4 z = some o → Rj X (xW G) 7 (qI X (xW G) o) 27 [(0, .ref ((xW G).h 9)), (2, vI v2), (3, vI u3), (4, vI u4)] [] z := itr_ind (x_Cut_findWay_27 N v2) (fun _ _ _ => none) (fun k => ∀ (u3 u4 : Int) (z : St), k u3 u4 z = some o → Rj X (xW G) 7 (qI X (xW G) o) 27 [(0, .ref ((xW G).h 9)), (2, vI v2), (3, vI u3), (4, vI u4)] [] z) (fun _ _ _  h => by cases h) (fun k hk u3 u4 z h => s_x_Cut_findWay_27 C hk h) N
  exact r_sub [2, 4, 1, 0] rfl (hL _ _ _  hf)
def x_Cut_goWay_5 (N : Nat) (v1 : Int) (k5 : Int → Int → St → MM) (v3 v4 : Int) (s : St) : MM := if le32 (s 9 4) v4 then (some (0, s)) else (if eq32 v3 v1 then (some (0, s)) else (gd (inb v3 12) (gd (inb (((s 35 v3) * 12) + v3) 144) (gd (inb (((s 35 v3) * 12) + v3) 144) (gd (inb ((v3 * 12) + (s 35 v3)) 144) (gd (inb ((v3 * 12) + (s 35 v3)) 144) (k5 (s 35 v3) (v4 + 1) (su (su s 33 (((s 35 v3) * 12) + v3) ((s 33 (((s 35 v3) * 12) + v3)) - 1)) 33 ((v3 * 12) + (s 35 v3)) (((su s 33 (((s 35 v3) * 12) + v3) ((s 33 (((s 35 v3) * 12) + v3)) - 1)) 33 ((v3 * 12) + (s 35 v3))) + 1)))))))))
def x_Cut_goWay (N : Nat) (v1 v2 : Int) (s : St) : MM := itr (x_Cut_goWay_5 N v1) (fun _ _ _ => none) N v2 0 s
abbrev rm_x_Cut_goWay : Room := { frames := 0, cells := 0, slots := 0, locals := 0 }
theorem s_x_Cut_goWay_5 {X : CxT} {l : Launch} {G : GG} (C : Cx X l (xW G) 6 prog_4_method_6_code "OneSelf$Cut" (wo y_Cut_goWay prog_4_method_6_code 6 none) none rm_x_Cut_goWay) {o : Int × St} {N : Nat} {v1 v3 v4 : Int} {k5 : Int → Int → St → MM} (hk5 : ∀ (u3 u4 : Int) (s : St), k5 u3 u4 s = some o → Rj X (xW G) 6 (qV X (xW G) o) 5 [(0, .ref ((xW G).h 9)), (1, vI v1), (3, vI u3), (4, vI u4)] [] s) {s : St} (hf : x_Cut_goWay_5 N v1 k5 v3 v4 s = some o) : Rj X (xW G) 6 (qV X (xW G) o) 5 [(0, .ref ((xW G).h 9)), (1, vI v1), (3, vI v3), (4, vI v4)] [] s := by
  unfold x_Cut_goWay_5 at hf
  refine r_iload C (q := 7) 3 d_Cut_goWay_5 rfl rfl ?_
  refine r_aload_n C (q := 8) 0 d_Cut_goWay_7 rfl rfl rfl ?_
  refine gxx_Cut_many C (q := 11) fl_Cut_24 d_Cut_goWay_8 rfl ?_
  refine r_ic_ge C (t := 68) (q := 14) d_Cut_goWay_11 (by decide) rfl (fun c11 => ?_) (fun c11 => ?_)
  · replace hf := ite_t c11 hf
    exact r_return C hf d_Cut_goWay_68
  · replace hf := ite_f c11 hf
    refine r_iload_n C (q := 15) 2 d_Cut_goWay_14 rfl rfl rfl ?_
    refine r_iload_n C (q := 16) 1 d_Cut_goWay_15 rfl rfl rfl ?_
    refine r_ic_eq C (t := 68) (q := 19) d_Cut_goWay_16 (by decide) rfl (fun c16 => ?_) (fun c16 => ?_)
    · replace hf := ite_t c16 hf
      exact r_return C hf d_Cut_goWay_68
    · replace hf := ite_f c16 hf
      refine r_aload_n C (q := 20) 0 d_Cut_goWay_19 rfl rfl rfl ?_
      refine gxx_Cut_cameFrom C (q := 23) fl_Cut_21 d_Cut_goWay_20 rfl ?_
      refine r_iload_n C (q := 24) 2 d_Cut_goWay_23 rfl rfl rfl ?_
      obtain ⟨g24, hf⟩ := gd_s hf
      refine r_iald C (q := 25) 35 (Nat.le_of_ble_eq_true rfl) (fun _ => rfl) 0 rfl g24 (by decide) d_Cut_goWay_24 rfl ?_
      refine r_istore C (q := 27) (lv' := [(5, vI (s 35 v3)), (0, .ref ((xW G).h 9)), (1, vI v1), (3, vI v3), (4, vI v4)]) d_Cut_goWay_25 (by decide) rfl rfl ?_
      refine r_aload_n C (q := 28) 1 d_Cut_goWay_27 rfl rfl rfl ?_
      refine gxx_Cut_room C (q := 31) fl_Cut_15 d_Cut_goWay_28 rfl ?_
      refine r_iload C (q := 33) 0 d_Cut_goWay_31 rfl rfl ?_
      refine r_bipush C (q := 35) (x := 12) d_Cut_goWay_33 rfl rfl ?_
      refine r_imul C (q := 36) d_Cut_goWay_35 rfl ?_
      refine r_iload_n C (q := 37) 3 d_Cut_goWay_36 rfl rfl rfl ?_
      refine r_iadd C (q := 38) d_Cut_goWay_37 rfl ?_
      refine r_dup2 C (q := 39) d_Cut_goWay_38 rfl rfl rfl ?_
      obtain ⟨g39, hf⟩ := gd_s hf
      refine r_iald C (q := 40) 33 (Nat.le_of_ble_eq_true rfl) (fun _ => rfl) 0 rfl g39 (by decide) d_Cut_goWay_39 rfl ?_
      refine r_iconst C (q := 41) d_Cut_goWay_40 rfl ?_
      refine r_isub C (q := 42) d_Cut_goWay_41 rfl ?_
      obtain ⟨g42, hf⟩ := gd_s hf
      refine r_iast C (q := 43) 33 (Nat.le_of_ble_eq_true rfl) (fun _ => rfl) 0 rfl g42 (by decide) d_Cut_goWay_42 rfl ?_
      refine r_aload_n C (q := 44) 1 d_Cut_goWay_43 rfl rfl rfl ?_
      refine gxx_Cut_room C (q := 47) fl_Cut_15 d_Cut_goWay_44 rfl ?_
      refine r_iload_n C (q := 48) 3 d_Cut_goWay_47 rfl rfl rfl ?_
      refine r_bipush C (q := 50) (x := 12) d_Cut_goWay_48 rfl rfl ?_
      refine r_imul C (q := 51) d_Cut_goWay_50 rfl ?_
      refine r_iload C (q := 53) 0 d_Cut_goWay_51 rfl rfl ?_
      refine r_iadd C (q := 54) d_Cut_goWay_53 rfl ?_
      refine r_dup2 C (q := 55) d_Cut_goWay_54 rfl rfl rfl ?_
      obtain ⟨g55, hf⟩ := gd_s hf
      refine r_iald C (q := 56) 33 (Nat.le_of_ble_eq_true rfl) (fun _ => rfl) 0 rfl g55 (by decide) d_Cut_goWay_55 rfl ?_
      refine r_iconst C (q := 57) d_Cut_goWay_56 rfl ?_
      refine r_iadd C (q := 58) d_Cut_goWay_57 rfl ?_
      obtain ⟨g58, hf⟩ := gd_s hf
      refine r_iast C (q := 59) 33 (Nat.le_of_ble_eq_true rfl) (fun _ => rfl) 0 rfl g58 (by decide) d_Cut_goWay_58 rfl ?_
      refine r_iload C (q := 61) 0 d_Cut_goWay_59 rfl rfl ?_
      refine r_istore_n C (q := 62) (lv' := [(3, vI (s 35 v3)), (5, vI (s 35 v3)), (0, .ref ((xW G).h 9)), (1, vI v1), (4, vI v4)]) d_Cut_goWay_61 rfl (by decide) rfl rfl ?_
      refine r_iinc C (q := 65) (lv' := [(4, vI (v4 + 1)), (3, vI (s 35 v3)), (5, vI (s 35 v3)), (0, .ref ((xW G).h 9)), (1, vI v1)]) 4 d_Cut_goWay_62 rfl (by decide) rfl rfl ?_
      refine r_goto C (q := 5) d_Cut_goWay_65 (by decide) ?_
      exact r_sub [3, 4, 1, 0] rfl (hk5 _ _ _  hf)
theorem c_x_Cut_goWay {l : Launch} {G : GG} (hi : wo_i (xW G)) {N : Nat} {v1 v2 : Int} {s : St} {o : Int × St} (hf : x_Cut_goWay N v1 v2 s = some o) : CtV l (xW G) y_Cut_goWay (wo y_Cut_goWay prog_4_method_6_code 6 none) rm_x_Cut_goWay [.ref ((xW G).h 9), vI v1, vI v2] s o := by
  refine ct_V (by decide +kernel) hi (Nat.le_of_ble_eq_true rfl) fun X C => ?_
  unfold x_Cut_goWay at hf
  show Rj X (xW G) 6 (qV X (xW G) o) 0 [(0, .ref ((xW G).h 9)), (1, vI v1), (2, vI v2)] [] s
  refine r_iload_n C (q := 1) 2 d_Cut_goWay_0 rfl rfl rfl ?_
  refine r_istore_n C (q := 2) (lv' := [(3, vI v2), (0, .ref ((xW G).h 9)), (1, vI v1), (2, vI v2)]) d_Cut_goWay_1 rfl (by decide) rfl rfl ?_
  refine r_iconst C (q := 3) d_Cut_goWay_2 rfl ?_
  refine r_istore C (q := 5) (lv' := [(4, vI 0), (3, vI v2), (0, .ref ((xW G).h 9)), (1, vI v1), (2, vI v2)]) d_Cut_goWay_3 (by decide) rfl rfl ?_
  have hL : ∀ (u3 u4 : Int) (z : St), itr (x_Cut_goWay_5 N v1) (fun _ _ _ => none) N u3 u4 z = some o → Rj X (xW G) 6 (qV X (xW G) o) 5 [(0, .ref ((xW G).h 9)), (1, vI v1), (3, vI u3), (4, vI u4)] [] z := itr_ind (x_Cut_goWay_5 N v1) (fun _ _ _ => none) (fun k => ∀ (u3 u4 : Int) (z : St), k u3 u4 z = some o → Rj X (xW G) 6 (qV X (xW G) o) 5 [(0, .ref ((xW G).h 9)), (1, vI v1), (3, vI u3), (4, vI u4)] [] z) (fun _ _ _  h => by cases h) (fun k hk u3 u4 z h => s_x_Cut_goWay_5 C hk h) N
  exact r_sub [2, 3, 1, 0] rfl (hL _ _ _  hf)
def x_Cut_fewest_16 (N : Nat) (v3 v4 : Int) (k16 : Int → St → MM) (v5 : Int) (s : St) : MM := if le32 12 v5 then (some (v5, s)) else (bd (x_Cut_findWay N v3 v4 s) (fun r27 s27 => if eq32 r27 0 then (some (v5, s27)) else (bd (x_Cut_goWay N v3 v4 s27) (fun r37 s37 => k16 (v5 + 1) s37))))
def x_Cut_fewest (N : Nat) (v1 v2 : Int) (s : St) : MM := bd (x_Cut_placeOf N v1 s) (fun r2 s2 => bd (x_Cut_placeOf N v2 s2) (fun r8 s8 => itr (x_Cut_fewest_16 N r2 r8) (fun _ _ => none) N 0 s8))
abbrev rm_x_Cut_fewest : Room := { frames := 2, cells := 0, slots := 0, locals := 49 }
theorem s_x_Cut_fewest_16 {X : CxT} {l : Launch} {G : GG} (C : Cx X l (xW G) 6 prog_4_method_3_code "OneSelf$Cut" (wo y_Cut_fewest prog_4_method_3_code 6 (some .int)) (some .int) rm_x_Cut_fewest) {o : Int × St} {N : Nat} {v3 v4 v5 : Int} {k16 : Int → St → MM} (hk16 : ∀ (u5 : Int) (s : St), k16 u5 s = some o → Rj X (xW G) 6 (qI X (xW G) o) 16 [(0, .ref ((xW G).h 9)), (3, vI v3), (4, vI v4), (5, vI u5)] [] s) {s : St} (hf : x_Cut_fewest_16 N v3 v4 k16 v5 s = some o) : Rj X (xW G) 6 (qI X (xW G) o) 16 [(0, .ref ((xW G).h 9)), (3, vI v3), (4, vI v4), (5, vI v5)] [] s := by
  unfold x_Cut_fewest_16 at hf
  refine r_iload C (q := 18) 3 d_Cut_fewest_16 rfl rfl ?_
  refine r_bipush C (q := 20) (x := 12) d_Cut_fewest_18 rfl rfl ?_
  refine r_ic_ge C (t := 46) (q := 23) d_Cut_fewest_20 (by decide) rfl (fun c20 => ?_) (fun c20 => ?_)
  · replace hf := ite_t c20 hf
    refine r_iload C (q := 48) 3 d_Cut_fewest_46 rfl rfl ?_
    exact r_ireturn C hf d_Cut_fewest_48
  · replace hf := ite_f c20 hf
    refine r_aload_n C (q := 24) 0 d_Cut_fewest_23 rfl rfl rfl ?_
    refine r_iload_n C (q := 25) 1 d_Cut_fewest_24 rfl rfl rfl ?_
    refine r_iload C (q := 27) 2 d_Cut_fewest_25 rfl rfl ?_
    obtain ⟨r27, s27, hg27, hf⟩ := bd_s hf
    refine r_cVI C (q := 30) (As := [vI v3, vI v4]) (k0 := 9) (c_x_Cut_findWay C.i hg27) mt_Cut_findWay ml_Cut_50 (Nat.le_of_ble_eq_true rfl) rfl rfl rfl rfl rfl rfl ⟨Nat.le_of_ble_eq_true rfl, Nat.le_of_ble_eq_true rfl⟩ rfl (Nat.le_of_ble_eq_true rfl) d_Cut_fewest_27 rfl ?_
    refine r_if_eq C (t := 46) (q := 33) d_Cut_fewest_30 (by decide) rfl (fun c30 => ?_) (fun c30 => ?_)
    · replace hf := ite_t c30 hf
      refine r_iload C (q := 48) 3 d_Cut_fewest_46 rfl rfl ?_
      exact r_ireturn C hf d_Cut_fewest_48
    · replace hf := ite_f c30 hf
      refine r_aload_n C (q := 34) 0 d_Cut_fewest_33 rfl rfl rfl ?_
      refine r_iload_n C (q := 35) 1 d_Cut_fewest_34 rfl rfl rfl ?_
      refine r_iload C (q := 37) 2 d_Cut_fewest_35 rfl rfl ?_
      obtain ⟨r37, s37, hg37, hf⟩ := bd_s hf
      refine r_cVV C (q := 40) (As := [vI v3, vI v4]) (k0 := 9) (c_x_Cut_goWay C.i hg37) mt_Cut_goWay ml_Cut_53 (Nat.le_of_ble_eq_true rfl) rfl rfl rfl rfl rfl rfl ⟨Nat.le_of_ble_eq_true rfl, Nat.le_of_ble_eq_true rfl⟩ rfl (Nat.le_of_ble_eq_true rfl) d_Cut_fewest_37 rfl ?_
      refine r_iinc C (q := 43) (lv' := [(5, vI (v5 + 1)), (0, .ref ((xW G).h 9)), (3, vI v3), (4, vI v4)]) 3 d_Cut_fewest_40 rfl (by decide) rfl rfl ?_
      refine r_goto C (q := 16) d_Cut_fewest_43 (by decide) ?_
      exact r_sub [1, 2, 3, 0] rfl (hk16 _ _  hf)
theorem c_x_Cut_fewest {l : Launch} {G : GG} (hi : wo_i (xW G)) {N : Nat} {v1 v2 : Int} {s : St} {o : Int × St} (hf : x_Cut_fewest N v1 v2 s = some o) : CtI l (xW G) y_Cut_fewest (wo y_Cut_fewest prog_4_method_3_code 6 (some .int)) rm_x_Cut_fewest [.ref ((xW G).h 9), vI v1, vI v2] s o := by
  refine ct_I (by decide +kernel) hi (Nat.le_of_ble_eq_true rfl) fun X C => ?_
  unfold x_Cut_fewest at hf
  show Rj X (xW G) 6 (qI X (xW G) o) 0 [(0, .ref ((xW G).h 9)), (1, vI v1), (2, vI v2)] [] s
  refine r_aload_n C (q := 1) 0 d_Cut_fewest_0 rfl rfl rfl ?_
  refine r_iload_n C (q := 2) 1 d_Cut_fewest_1 rfl rfl rfl ?_
  obtain ⟨r2, s2, hg2, hf⟩ := bd_s hf
  refine r_cVI C (q := 5) (As := [vI v1]) (k0 := 9) (c_x_Cut_placeOf C.i hg2) mt_Cut_placeOf ml_Cut_47 (Nat.le_of_ble_eq_true rfl) rfl rfl rfl rfl rfl rfl ⟨Nat.le_of_ble_eq_true rfl, Nat.le_of_ble_eq_true rfl⟩ rfl (Nat.le_of_ble_eq_true rfl) d_Cut_fewest_2 rfl ?_
  refine r_istore_n C (q := 6) (lv' := [(3, vI r2), (0, .ref ((xW G).h 9)), (1, vI v1), (2, vI v2)]) d_Cut_fewest_5 rfl (by decide) rfl rfl ?_
  refine r_aload_n C (q := 7) 1 d_Cut_fewest_6 rfl rfl rfl ?_
  refine r_iload_n C (q := 8) 3 d_Cut_fewest_7 rfl rfl rfl ?_
  obtain ⟨r8, s8, hg8, hf⟩ := bd_s hf
  refine r_cVI C (q := 11) (As := [vI v2]) (k0 := 9) (c_x_Cut_placeOf C.i hg8) mt_Cut_placeOf ml_Cut_47 (Nat.le_of_ble_eq_true rfl) rfl rfl rfl rfl rfl rfl ⟨Nat.le_of_ble_eq_true rfl, Nat.le_of_ble_eq_true rfl⟩ rfl (Nat.le_of_ble_eq_true rfl) d_Cut_fewest_8 rfl ?_
  refine r_istore C (q := 13) (lv' := [(4, vI r8), (3, vI r2), (0, .ref ((xW G).h 9)), (1, vI v1), (2, vI v2)]) d_Cut_fewest_11 (by decide) rfl rfl ?_
  refine r_iconst C (q := 14) d_Cut_fewest_13 rfl ?_
  refine r_istore C (q := 16) (lv' := [(5, vI 0), (4, vI r8), (3, vI r2), (0, .ref ((xW G).h 9)), (1, vI v1), (2, vI v2)]) d_Cut_fewest_14 (by decide) rfl rfl ?_
  have hL : ∀ (u5 : Int) (z : St), itr (x_Cut_fewest_16 N r2 r8) (fun _ _ => none) N u5 z = some o → Rj X (xW G) 6 (qI X (xW G) o) 16 [(0, .ref ((xW G).h 9)), (3, vI r2), (4, vI r8), (5, vI u5)] [] z := itr_ind (x_Cut_fewest_16 N r2 r8) (fun _ _ => none) (fun k => ∀ (u5 : Int) (z : St), k u5 z = some o → Rj X (xW G) 6 (qI X (xW G) o) 16 [(0, .ref ((xW G).h 9)), (3, vI r2), (4, vI r8), (5, vI u5)] [] z) (fun _ _  h => by cases h) (fun k hk u5 z h => s_x_Cut_fewest_16 C hk h) N
  exact r_sub [3, 2, 1, 0] rfl (hL _ _  hf)
def x_cut (N : Nat) (v1 v2 : Int) (s : St) : MM := bd (x_Rows_arePair N v1 v2 s) (fun r6 s6 => if eq32 r6 0 then (some ((-2), s6)) else (bd (x_Rows_areKnown N v1 v2 s6) (fun r21 s21 => if eq32 r21 0 then (some ((-3), s21)) else (bd (x_Bundles_gather N s21) (fun r38 s38 => bd (x_Bundles_numberOf N v1 s38) (fun r46 s46 => bd (x_Bundles_numberOf N v2 s46) (fun r56 s56 => if eq32 r46 r56 then (bd (x_Bundles_sizeOf N r46 s56) (fun r70 s70 => if le32 r70 12 then (bd (x_Cut_enter N r46 s70) (fun r94 s94 => bd (x_Cut_fewest N v1 v2 s94) (fun r103 s103 => some (r103, s103)))) else (some ((-4), s70)))) else (some ((-3), s56)))))))))
abbrev rm_x_cut : Room := { frames := 5, cells := 0, slots := 0, locals := 122 }
theorem c_x_cut {l : Launch} {G : GG} (hi : wo_i (xW G)) {N : Nat} {v1 v2 : Int} {s : St} {o : Int × St} (hf : x_cut N v1 v2 s = some o) : CtI l (xW G) y_O_cut (wo y_O_cut prog_1_method_27_code 4 (some .int)) rm_x_cut [.ref ((xW G).h 0), vI v1, vI v2] s o := by
  refine ct_I (by decide +kernel) hi (Nat.le_of_ble_eq_true rfl) fun X C => ?_
  unfold x_cut at hf
  show Rj X (xW G) 4 (qI X (xW G) o) 0 [(0, .ref ((xW G).h 0)), (1, vI v1), (2, vI v2)] [] s
  refine r_aload_n C (q := 1) 0 d_O_cut_0 rfl rfl rfl ?_
  refine gxx_O_rows C (q := 4) fl_O_27 d_O_cut_1 rfl ?_
  refine r_iload_n C (q := 5) 1 d_O_cut_4 rfl rfl rfl ?_
  refine r_iload_n C (q := 6) 2 d_O_cut_5 rfl rfl rfl ?_
  obtain ⟨r6, s6, hg6, hf⟩ := bd_s hf
  refine r_cVI C (q := 9) (As := [vI v1, vI v2]) (k0 := 3) (c_x_Rows_arePair C.i hg6) mt_Rows_arePair ml_O_190 (Nat.le_of_ble_eq_true rfl) rfl rfl rfl rfl rfl rfl ⟨Nat.le_of_ble_eq_true rfl, Nat.le_of_ble_eq_true rfl⟩ rfl (Nat.le_of_ble_eq_true rfl) d_O_cut_6 rfl ?_
  refine r_if_ne C (t := 15) (q := 12) d_O_cut_9 (by decide) rfl (fun c9 => ?_) (fun c9 => ?_)
  · replace hf := ite_t c9 hf
    refine r_bipush C (q := 14) (x := (-2)) d_O_cut_12 rfl rfl ?_
    exact r_ireturn C hf d_O_cut_14
  · replace hf := ite_f c9 hf
    refine r_aload_n C (q := 16) 0 d_O_cut_15 rfl rfl rfl ?_
    refine gxx_O_rows C (q := 19) fl_O_27 d_O_cut_16 rfl ?_
    refine r_iload_n C (q := 20) 1 d_O_cut_19 rfl rfl rfl ?_
    refine r_iload_n C (q := 21) 2 d_O_cut_20 rfl rfl rfl ?_
    obtain ⟨r21, s21, hg21, hf⟩ := bd_s hf
    refine r_cVI C (q := 24) (As := [vI v1, vI v2]) (k0 := 3) (c_x_Rows_areKnown C.i hg21) mt_Rows_areKnown ml_O_259 (Nat.le_of_ble_eq_true rfl) rfl rfl rfl rfl rfl rfl ⟨Nat.le_of_ble_eq_true rfl, Nat.le_of_ble_eq_true rfl⟩ rfl (Nat.le_of_ble_eq_true rfl) d_O_cut_21 rfl ?_
    refine r_if_ne C (t := 30) (q := 27) d_O_cut_24 (by decide) rfl (fun c24 => ?_) (fun c24 => ?_)
    · replace hf := ite_t c24 hf
      refine r_bipush C (q := 29) (x := (-3)) d_O_cut_27 rfl rfl ?_
      exact r_ireturn C hf d_O_cut_29
    · replace hf := ite_f c24 hf
      refine r_aload_n C (q := 31) 0 d_O_cut_30 rfl rfl rfl ?_
      refine gxx_O_bundles C (q := 34) fl_O_53 d_O_cut_31 rfl ?_
      refine r_aload_n C (q := 35) 0 d_O_cut_34 rfl rfl rfl ?_
      refine gxx_O_pairs C (q := 38) fl_O_19 d_O_cut_35 rfl ?_
      obtain ⟨r38, s38, hg38, hf⟩ := bd_s hf
      refine r_cVV C (q := 41) (As := [.ref ((xW G).h 2)]) (k0 := 8) (c_x_Bundles_gather C.i hg38) mt_Bundles_gather ml_O_241 (Nat.le_of_ble_eq_true rfl) rfl rfl rfl rfl rfl rfl ⟨Nat.le_of_ble_eq_true rfl, Nat.le_of_ble_eq_true rfl⟩ rfl (Nat.le_of_ble_eq_true rfl) d_O_cut_38 rfl ?_
      refine r_aload_n C (q := 42) 0 d_O_cut_41 rfl rfl rfl ?_
      refine gxx_O_bundles C (q := 45) fl_O_53 d_O_cut_42 rfl ?_
      refine r_iload_n C (q := 46) 1 d_O_cut_45 rfl rfl rfl ?_
      obtain ⟨r46, s46, hg46, hf⟩ := bd_s hf
      refine r_cVI C (q := 49) (As := [vI v1]) (k0 := 8) (c_x_Bundles_numberOf C.i hg46) mt_Bundles_numberOf ml_O_245 (Nat.le_of_ble_eq_true rfl) rfl rfl rfl rfl rfl rfl ⟨Nat.le_of_ble_eq_true rfl, Nat.le_of_ble_eq_true rfl⟩ rfl (Nat.le_of_ble_eq_true rfl) d_O_cut_46 rfl ?_
      refine r_istore_n C (q := 50) (lv' := [(3, vI r46), (0, .ref ((xW G).h 0)), (1, vI v1), (2, vI v2)]) d_O_cut_49 rfl (by decide) rfl rfl ?_
      refine r_iload_n C (q := 51) 0 d_O_cut_50 rfl rfl rfl ?_
      refine r_aload_n C (q := 52) 1 d_O_cut_51 rfl rfl rfl ?_
      refine gxx_O_bundles C (q := 55) fl_O_53 d_O_cut_52 rfl ?_
      refine r_iload_n C (q := 56) 3 d_O_cut_55 rfl rfl rfl ?_
      obtain ⟨r56, s56, hg56, hf⟩ := bd_s hf
      refine r_cVI C (q := 59) (As := [vI v2]) (k0 := 8) (c_x_Bundles_numberOf C.i hg56) mt_Bundles_numberOf ml_O_245 (Nat.le_of_ble_eq_true rfl) rfl rfl rfl rfl rfl rfl ⟨Nat.le_of_ble_eq_true rfl, Nat.le_of_ble_eq_true rfl⟩ rfl (Nat.le_of_ble_eq_true rfl) d_O_cut_56 rfl ?_
      refine r_ic_eq C (t := 65) (q := 62) d_O_cut_59 (by decide) rfl (fun c59 => ?_) (fun c59 => ?_)
      · replace hf := ite_t c59 hf
        refine r_aload_n C (q := 66) 1 d_O_cut_65 rfl rfl rfl ?_
        refine gxx_O_bundles C (q := 69) fl_O_53 d_O_cut_66 rfl ?_
        refine r_iload_n C (q := 70) 0 d_O_cut_69 rfl rfl rfl ?_
        obtain ⟨r70, s70, hg70, hf⟩ := bd_s hf
        refine r_cVI C (q := 73) (As := [vI r46]) (k0 := 8) (c_x_Bundles_sizeOf C.i hg70) mt_Bundles_sizeOf ml_O_262 (Nat.le_of_ble_eq_true rfl) rfl rfl rfl rfl rfl rfl ⟨Nat.le_of_ble_eq_true rfl, Nat.le_of_ble_eq_true rfl⟩ rfl (Nat.le_of_ble_eq_true rfl) d_O_cut_70 rfl ?_
        refine r_bipush C (q := 75) (x := 12) d_O_cut_73 rfl rfl ?_
        refine r_ic_le C (t := 81) (q := 78) d_O_cut_75 (by decide) rfl (fun c75 => ?_) (fun c75 => ?_)
        · replace hf := ite_t c75 hf
          refine r_aload_n C (q := 82) 1 d_O_cut_81 rfl rfl rfl ?_
          refine gxx_O_cut C (q := 85) fl_O_60 d_O_cut_82 rfl ?_
          refine r_aload_n C (q := 86) 1 d_O_cut_85 rfl rfl rfl ?_
          refine gxx_O_pairs C (q := 89) fl_O_19 d_O_cut_86 rfl ?_
          refine r_aload_n C (q := 90) 1 d_O_cut_89 rfl rfl rfl ?_
          refine gxx_O_bundles C (q := 93) fl_O_53 d_O_cut_90 rfl ?_
          refine r_iload_n C (q := 94) 0 d_O_cut_93 rfl rfl rfl ?_
          obtain ⟨r94, s94, hg94, hf⟩ := bd_s hf
          refine r_cVV C (q := 97) (As := [.ref ((xW G).h 2), .ref ((xW G).h 8), vI r46]) (k0 := 9) (c_x_Cut_enter C.i hg94) mt_Cut_enter ml_O_265 (Nat.le_of_ble_eq_true rfl) rfl rfl rfl rfl rfl rfl ⟨Nat.le_of_ble_eq_true rfl, Nat.le_of_ble_eq_true rfl⟩ rfl (Nat.le_of_ble_eq_true rfl) d_O_cut_94 rfl ?_
          refine r_aload_n C (q := 98) 1 d_O_cut_97 rfl rfl rfl ?_
          refine gxx_O_cut C (q := 101) fl_O_60 d_O_cut_98 rfl ?_
          refine r_iload_n C (q := 102) 2 d_O_cut_101 rfl rfl rfl ?_
          refine r_iload_n C (q := 103) 3 d_O_cut_102 rfl rfl rfl ?_
          obtain ⟨r103, s103, hg103, hf⟩ := bd_s hf
          refine r_cVI C (q := 106) (As := [vI v1, vI v2]) (k0 := 9) (c_x_Cut_fewest C.i hg103) mt_Cut_fewest ml_O_269 (Nat.le_of_ble_eq_true rfl) rfl rfl rfl rfl rfl rfl ⟨Nat.le_of_ble_eq_true rfl, Nat.le_of_ble_eq_true rfl⟩ rfl (Nat.le_of_ble_eq_true rfl) d_O_cut_103 rfl ?_
          exact r_ireturn C hf d_O_cut_106
        · replace hf := ite_f c75 hf
          refine r_bipush C (q := 80) (x := (-4)) d_O_cut_78 rfl rfl ?_
          exact r_ireturn C hf d_O_cut_80
      · replace hf := ite_f c59 hf
        refine r_bipush C (q := 64) (x := (-3)) d_O_cut_62 rfl rfl ?_
        exact r_ireturn C hf d_O_cut_64
def x_Checks_find_51 (N : Nat) (k16 : Int → St → MM) (v3 v4 v5 : Int) (s : St) : MM := k16 (v5 + 1) s
def x_Checks_find_16 (N : Nat) (v3 v4 : Int) (k16 : Int → St → MM) (v5 : Int) (s : St) : MM := if le32 (s 10 3) v5 then (some (s 10 3, s)) else (gd (inb v5 40) (if eq32 (s 36 v5) v3 then (gd (inb v5 40) (if eq32 (s 37 v5) v4 then (some (v5, s)) else (x_Checks_find_51 N k16 v3 v4 v5  s))) else (x_Checks_find_51 N k16 v3 v4 v5  s)))
def x_Checks_find (N : Nat) (v1 v2 : Int) (s : St) : MM := itr (x_Checks_find_16 N (mn32 v1 v2) (mx32 v1 v2)) (fun _ _ => none) N 0 s
abbrev rm_x_Checks_find : Room := { frames := 1, cells := 0, slots := 0, locals := 23 }
theorem s_x_Checks_find_51 {X : CxT} {l : Launch} {G : GG} (C : Cx X l (xW G) 6 prog_3_method_2_code "OneSelf$Checks" (wo y_Checks_find prog_3_method_2_code 6 (some .int)) (some .int) rm_x_Checks_find) {o : Int × St} {N : Nat} {v3 v4 v5 : Int} {k16 : Int → St → MM} (hk16 : ∀ (u5 : Int) (s : St), k16 u5 s = some o → Rj X (xW G) 6 (qI X (xW G) o) 16 [(0, .ref ((xW G).h 10)), (3, vI v3), (4, vI v4), (5, vI u5)] [] s) {s : St} (hf : x_Checks_find_51 N k16 v3 v4 v5 s = some o) : Rj X (xW G) 6 (qI X (xW G) o) 51 [(0, .ref ((xW G).h 10)), (3, vI v3), (4, vI v4), (5, vI v5)] [] s := by
  unfold x_Checks_find_51 at hf
  refine r_iinc C (q := 54) (lv' := [(5, vI (v5 + 1)), (0, .ref ((xW G).h 10)), (3, vI v3), (4, vI v4)]) 3 d_Checks_find_51 rfl (by decide) rfl rfl ?_
  refine r_goto C (q := 16) d_Checks_find_54 (by decide) ?_
  exact r_sub [1, 2, 3, 0] rfl (hk16 _ _  hf)
theorem s_x_Checks_find_16 {X : CxT} {l : Launch} {G : GG} (C : Cx X l (xW G) 6 prog_3_method_2_code "OneSelf$Checks" (wo y_Checks_find prog_3_method_2_code 6 (some .int)) (some .int) rm_x_Checks_find) {o : Int × St} {N : Nat} {v3 v4 v5 : Int} {k16 : Int → St → MM} (hk16 : ∀ (u5 : Int) (s : St), k16 u5 s = some o → Rj X (xW G) 6 (qI X (xW G) o) 16 [(0, .ref ((xW G).h 10)), (3, vI v3), (4, vI v4), (5, vI u5)] [] s) {s : St} (hf : x_Checks_find_16 N v3 v4 k16 v5 s = some o) : Rj X (xW G) 6 (qI X (xW G) o) 16 [(0, .ref ((xW G).h 10)), (3, vI v3), (4, vI v4), (5, vI v5)] [] s := by
  unfold x_Checks_find_16 at hf
  refine r_iload C (q := 18) 3 d_Checks_find_16 rfl rfl ?_
  refine r_aload_n C (q := 19) 0 d_Checks_find_18 rfl rfl rfl ?_
  refine gxx_Checks_many C (q := 22) fl_Checks_31 d_Checks_find_19 rfl ?_
  refine r_ic_ge C (t := 57) (q := 25) d_Checks_find_22 (by decide) rfl (fun c22 => ?_) (fun c22 => ?_)
  · replace hf := ite_t c22 hf
    refine r_aload_n C (q := 58) 0 d_Checks_find_57 rfl rfl rfl ?_
    refine gxx_Checks_many C (q := 61) fl_Checks_31 d_Checks_find_58 rfl ?_
    exact r_ireturn C hf d_Checks_find_61
  · replace hf := ite_f c22 hf
    refine r_aload_n C (q := 26) 0 d_Checks_find_25 rfl rfl rfl ?_
    refine gxx_Checks_firsts C (q := 29) fl_Checks_9 d_Checks_find_26 rfl ?_
    refine r_iload C (q := 31) 3 d_Checks_find_29 rfl rfl ?_
    obtain ⟨g31, hf⟩ := gd_s hf
    refine r_iald C (q := 32) 36 (Nat.le_of_ble_eq_true rfl) (fun _ => rfl) 0 rfl g31 (by decide) d_Checks_find_31 rfl ?_
    refine r_iload_n C (q := 33) 1 d_Checks_find_32 rfl rfl rfl ?_
    refine r_ic_ne C (t := 51) (q := 36) d_Checks_find_33 (by decide) rfl (fun c33 => ?_) (fun c33 => ?_)
    · replace hf := ite_t c33 hf
      refine r_aload_n C (q := 37) 0 d_Checks_find_36 rfl rfl rfl ?_
      refine gxx_Checks_seconds C (q := 40) fl_Checks_15 d_Checks_find_37 rfl ?_
      refine r_iload C (q := 42) 3 d_Checks_find_40 rfl rfl ?_
      obtain ⟨g42, hf⟩ := gd_s hf
      refine r_iald C (q := 43) 37 (Nat.le_of_ble_eq_true rfl) (fun _ => rfl) 0 rfl g42 (by decide) d_Checks_find_42 rfl ?_
      refine r_iload C (q := 45) 2 d_Checks_find_43 rfl rfl ?_
      refine r_ic_ne C (t := 51) (q := 48) d_Checks_find_45 (by decide) rfl (fun c45 => ?_) (fun c45 => ?_)
      · replace hf := ite_t c45 hf
        refine r_iload C (q := 50) 3 d_Checks_find_48 rfl rfl ?_
        exact r_ireturn C hf d_Checks_find_50
      · replace hf := ite_f c45 hf
        exact r_sub [0, 1, 2, 3] rfl (s_x_Checks_find_51 C hk16 hf)
    · replace hf := ite_f c33 hf
      exact r_sub [0, 1, 2, 3] rfl (s_x_Checks_find_51 C hk16 hf)
theorem c_x_Checks_find {l : Launch} {G : GG} (hi : wo_i (xW G)) {N : Nat} {v1 v2 : Int} {s : St} {o : Int × St} (hf : x_Checks_find N v1 v2 s = some o) : CtI l (xW G) y_Checks_find (wo y_Checks_find prog_3_method_2_code 6 (some .int)) rm_x_Checks_find [.ref ((xW G).h 10), vI v1, vI v2] s o := by
  refine ct_I (by decide +kernel) hi (Nat.le_of_ble_eq_true rfl) fun X C => ?_
  unfold x_Checks_find at hf
  show Rj X (xW G) 6 (qI X (xW G) o) 0 [(0, .ref ((xW G).h 10)), (1, vI v1), (2, vI v2)] [] s
  refine r_iload_n C (q := 1) 1 d_Checks_find_0 rfl rfl rfl ?_
  refine r_iload_n C (q := 2) 2 d_Checks_find_1 rfl rfl rfl ?_
  refine r_mmin C (q := 5) ml_Checks_22 mM_min (Nat.le_of_ble_eq_true rfl) (Nat.le_of_ble_eq_true rfl) (Nat.le_of_ble_eq_true rfl) d_Checks_find_2 rfl ?_
  refine r_istore_n C (q := 6) (lv' := [(3, vI (mn32 v1 v2)), (0, .ref ((xW G).h 10)), (1, vI v1), (2, vI v2)]) d_Checks_find_5 rfl (by decide) rfl rfl ?_
  refine r_iload_n C (q := 7) 2 d_Checks_find_6 rfl rfl rfl ?_
  refine r_iload_n C (q := 8) 3 d_Checks_find_7 rfl rfl rfl ?_
  refine r_mmax C (q := 11) ml_Checks_28 mM_max (Nat.le_of_ble_eq_true rfl) (Nat.le_of_ble_eq_true rfl) (Nat.le_of_ble_eq_true rfl) d_Checks_find_8 rfl ?_
  refine r_istore C (q := 13) (lv' := [(4, vI (mx32 v1 v2)), (3, vI (mn32 v1 v2)), (0, .ref ((xW G).h 10)), (1, vI v1), (2, vI v2)]) d_Checks_find_11 (by decide) rfl rfl ?_
  refine r_iconst C (q := 14) d_Checks_find_13 rfl ?_
  refine r_istore C (q := 16) (lv' := [(5, vI 0), (4, vI (mx32 v1 v2)), (3, vI (mn32 v1 v2)), (0, .ref ((xW G).h 10)), (1, vI v1), (2, vI v2)]) d_Checks_find_14 (by decide) rfl rfl ?_
  have hL : ∀ (u5 : Int) (z : St), itr (x_Checks_find_16 N (mn32 v1 v2) (mx32 v1 v2)) (fun _ _ => none) N u5 z = some o → Rj X (xW G) 6 (qI X (xW G) o) 16 [(0, .ref ((xW G).h 10)), (3, vI (mn32 v1 v2)), (4, vI (mx32 v1 v2)), (5, vI u5)] [] z := itr_ind (x_Checks_find_16 N (mn32 v1 v2) (mx32 v1 v2)) (fun _ _ => none) (fun k => ∀ (u5 : Int) (z : St), k u5 z = some o → Rj X (xW G) 6 (qI X (xW G) o) 16 [(0, .ref ((xW G).h 10)), (3, vI (mn32 v1 v2)), (4, vI (mx32 v1 v2)), (5, vI u5)] [] z) (fun _ _  h => by cases h) (fun k hk u5 z h => s_x_Checks_find_16 C hk h) N
  exact r_sub [3, 2, 1, 0] rfl (hL _ _  hf)
