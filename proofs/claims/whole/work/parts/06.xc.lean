def x_Rows_has (N : Nat) (v1 : Int) (s : St) : MM := bd (x_isBelow N v1 (s 3 2) s) (fun r5 s5 => gd (bit1 r5) (some (r5, s5)))
abbrev rm_x_Rows_has : Room := { frames := 1, cells := 0, slots := 0, locals := 21 }
theorem c_x_Rows_has {l : Launch} {G : GG} (hi : wo_i (xW G)) {N : Nat} {v1 : Int} {s : St} {o : Int × St} (hf : x_Rows_has N v1 s = some o) : CtI l (xW G) y_Rows_has (wo y_Rows_has prog_8_method_2_code 2 (some .boolean)) rm_x_Rows_has [.ref ((xW G).h 3), vI v1] s o := by
  refine ct_I (by decide +kernel) hi (Nat.le_of_ble_eq_true rfl) fun X C => ?_
  unfold x_Rows_has at hf
  show Rj X (xW G) 2 (qI X (xW G) o) 0 [(0, .ref ((xW G).h 3)), (1, vI v1)] [] s
  refine r_iload_n C (q := 1) 1 d_Rows_has_0 rfl rfl rfl ?_
  refine r_aload_n C (q := 2) 0 d_Rows_has_1 rfl rfl rfl ?_
  refine gxx_Rows_many C (q := 5) fl_Rows_22 d_Rows_has_2 rfl ?_
  obtain ⟨r5, s5, hg5, hf⟩ := bd_s hf
  refine r_cTI C (q := 8) (As := [vI v1, vI (s 3 2)]) (c_x_isBelow C.i hg5) mt_O_isBelow mn_Rows_25 rfl rfl rfl ⟨Nat.le_of_ble_eq_true rfl, Nat.le_of_ble_eq_true rfl⟩ rfl (Nat.le_of_ble_eq_true rfl) d_Rows_has_5 rfl ?_
  obtain ⟨g8, hf⟩ := gd_s hf
  exact r_zreturn C g8 hf d_Rows_has_8
def x_Rows_takeAway (N : Nat) (v1 : Int) (s : St) : MM := gd (inb ((v1 * 7) + 6) 252) (some (0, su s 15 ((v1 * 7) + 6) (s 3 3)))
abbrev rm_x_Rows_takeAway : Room := { frames := 0, cells := 0, slots := 0, locals := 0 }
theorem c_x_Rows_takeAway {l : Launch} {G : GG} (hi : wo_i (xW G)) {N : Nat} {v1 : Int} {s : St} {o : Int × St} (hf : x_Rows_takeAway N v1 s = some o) : CtV l (xW G) y_Rows_takeAway (wo y_Rows_takeAway prog_8_method_6_code 2 none) rm_x_Rows_takeAway [.ref ((xW G).h 3), vI v1] s o := by
  refine ct_V (by decide +kernel) hi (Nat.le_of_ble_eq_true rfl) fun X C => ?_
  unfold x_Rows_takeAway at hf
  show Rj X (xW G) 2 (qV X (xW G) o) 0 [(0, .ref ((xW G).h 3)), (1, vI v1)] [] s
  refine r_aload_n C (q := 1) 0 d_Rows_takeAway_0 rfl rfl rfl ?_
  refine gxx_Rows_facts C (q := 4) fl_Rows_9 d_Rows_takeAway_1 rfl ?_
  refine r_iload_n C (q := 5) 1 d_Rows_takeAway_4 rfl rfl rfl ?_
  refine r_bipush C (q := 7) (x := 7) d_Rows_takeAway_5 rfl rfl ?_
  refine r_imul C (q := 8) d_Rows_takeAway_7 rfl ?_
  refine r_bipush C (q := 10) (x := 6) d_Rows_takeAway_8 rfl rfl ?_
  refine r_iadd C (q := 11) d_Rows_takeAway_10 rfl ?_
  refine r_aload_n C (q := 12) 0 d_Rows_takeAway_11 rfl rfl rfl ?_
  refine gxx_Rows_day C (q := 15) fl_Rows_33 d_Rows_takeAway_12 rfl ?_
  obtain ⟨g15, hf⟩ := gd_s hf
  refine r_iast C (q := 16) 15 (Nat.le_of_ble_eq_true rfl) (fun _ => rfl) 0 rfl g15 (by decide) d_Rows_takeAway_15 rfl ?_
  exact r_return C hf d_Rows_takeAway_16
def x_takeBack (N : Nat) (v1 : Int) (s : St) : MM := bd (x_Rows_has N v1 s) (fun r5 s5 => if eq32 r5 0 then (some ((-2), s5)) else (bd (x_Rows_fact N v1 6 s5) (fun r21 s21 => if eq32 r21 ((-1)) then (bd (x_Rows_takeAway N v1 s21) (fun r36 s36 => some (1, s36))) else (some ((-3), s21)))))
abbrev rm_x_takeBack : Room := { frames := 2, cells := 0, slots := 0, locals := 42 }
theorem c_x_takeBack {l : Launch} {G : GG} (hi : wo_i (xW G)) {N : Nat} {v1 : Int} {s : St} {o : Int × St} (hf : x_takeBack N v1 s = some o) : CtI l (xW G) y_O_takeBack (wo y_O_takeBack prog_1_method_4_code 2 (some .int)) rm_x_takeBack [.ref ((xW G).h 0), vI v1] s o := by
  refine ct_I (by decide +kernel) hi (Nat.le_of_ble_eq_true rfl) fun X C => ?_
  unfold x_takeBack at hf
  show Rj X (xW G) 2 (qI X (xW G) o) 0 [(0, .ref ((xW G).h 0)), (1, vI v1)] [] s
  refine r_aload_n C (q := 1) 0 d_O_takeBack_0 rfl rfl rfl ?_
  refine gxx_O_rows C (q := 4) fl_O_27 d_O_takeBack_1 rfl ?_
  refine r_iload_n C (q := 5) 1 d_O_takeBack_4 rfl rfl rfl ?_
  obtain ⟨r5, s5, hg5, hf⟩ := bd_s hf
  refine r_cVI C (q := 8) (As := [vI v1]) (k0 := 3) (c_x_Rows_has C.i hg5) mt_Rows_has ml_O_138 (Nat.le_of_ble_eq_true rfl) rfl rfl rfl rfl rfl rfl ⟨Nat.le_of_ble_eq_true rfl, Nat.le_of_ble_eq_true rfl⟩ rfl (Nat.le_of_ble_eq_true rfl) d_O_takeBack_5 rfl ?_
  refine r_if_ne C (t := 14) (q := 11) d_O_takeBack_8 (by decide) rfl (fun c8 => ?_) (fun c8 => ?_)
  · replace hf := ite_t c8 hf
    refine r_bipush C (q := 13) (x := (-2)) d_O_takeBack_11 rfl rfl ?_
    exact r_ireturn C hf d_O_takeBack_13
  · replace hf := ite_f c8 hf
    refine r_aload_n C (q := 15) 0 d_O_takeBack_14 rfl rfl rfl ?_
    refine gxx_O_rows C (q := 18) fl_O_27 d_O_takeBack_15 rfl ?_
    refine r_iload_n C (q := 19) 1 d_O_takeBack_18 rfl rfl rfl ?_
    refine r_bipush C (q := 21) (x := 6) d_O_takeBack_19 rfl rfl ?_
    obtain ⟨r21, s21, hg21, hf⟩ := bd_s hf
    refine r_cVI C (q := 24) (As := [vI v1, vI 6]) (k0 := 3) (c_x_Rows_fact C.i hg21) mt_Rows_fact ml_O_141 (Nat.le_of_ble_eq_true rfl) rfl rfl rfl rfl rfl rfl ⟨Nat.le_of_ble_eq_true rfl, Nat.le_of_ble_eq_true rfl⟩ rfl (Nat.le_of_ble_eq_true rfl) d_O_takeBack_21 rfl ?_
    refine r_iconst C (q := 25) d_O_takeBack_24 rfl ?_
    refine r_ic_eq C (t := 31) (q := 28) d_O_takeBack_25 (by decide) rfl (fun c25 => ?_) (fun c25 => ?_)
    · replace hf := ite_t c25 hf
      refine r_aload_n C (q := 32) 0 d_O_takeBack_31 rfl rfl rfl ?_
      refine gxx_O_rows C (q := 35) fl_O_27 d_O_takeBack_32 rfl ?_
      refine r_iload_n C (q := 36) 1 d_O_takeBack_35 rfl rfl rfl ?_
      obtain ⟨r36, s36, hg36, hf⟩ := bd_s hf
      refine r_cVV C (q := 39) (As := [vI v1]) (k0 := 3) (c_x_Rows_takeAway C.i hg36) mt_Rows_takeAway ml_O_144 (Nat.le_of_ble_eq_true rfl) rfl rfl rfl rfl rfl rfl ⟨Nat.le_of_ble_eq_true rfl, Nat.le_of_ble_eq_true rfl⟩ rfl (Nat.le_of_ble_eq_true rfl) d_O_takeBack_36 rfl ?_
      refine r_iconst C (q := 40) d_O_takeBack_39 rfl ?_
      exact r_ireturn C hf d_O_takeBack_40
    · replace hf := ite_f c25 hf
      refine r_bipush C (q := 30) (x := (-3)) d_O_takeBack_28 rfl rfl ?_
      exact r_ireturn C hf d_O_takeBack_30
def x_Rows_isKnown_48 (N : Nat) (s : St) : MM := some (1, s)
def x_Rows_isKnown_19 (N : Nat) (v1 t0 : Int) (s : St) : MM := bd (x_Rows_fact N v1 6 s) (fun r24 s24 => bd (x_Rows_fact N v1 5 s24) (fun r31 s31 => if lt32 t0 r31 then (some (0, s31)) else (if eq32 r24 ((-1)) then (x_Rows_isKnown_48 N   s31) else (if le32 r24 t0 then (some (0, s31)) else (x_Rows_isKnown_48 N   s31)))))
def x_Rows_isKnown (N : Nat) (v1 : Int) (s : St) : MM := if eq32 (s 3 4) ((-1)) then (x_Rows_isKnown_19 N v1 (s 3 3) s) else (x_Rows_isKnown_19 N v1 (s 3 4) s)
abbrev rm_x_Rows_isKnown : Room := { frames := 1, cells := 0, slots := 0, locals := 22 }
theorem s_x_Rows_isKnown_48 {X : CxT} {l : Launch} {G : GG} (C : Cx X l (xW G) 4 prog_8_method_10_code "OneSelf$Rows" (wo y_Rows_isKnown prog_8_method_10_code 4 (some .boolean)) (some .boolean) rm_x_Rows_isKnown) {o : Int × St} {N : Nat} {s : St} (hf : x_Rows_isKnown_48 N  s = some o) : Rj X (xW G) 4 (qI X (xW G) o) 48 [] [] s := by
  unfold x_Rows_isKnown_48 at hf
  refine r_iconst C (q := 49) d_Rows_isKnown_48 rfl ?_
  refine r_goto C (q := 53) d_Rows_isKnown_49 (by decide) ?_
  exact r_zreturn C (by decide) hf d_Rows_isKnown_53
theorem s_x_Rows_isKnown_19 {X : CxT} {l : Launch} {G : GG} (C : Cx X l (xW G) 4 prog_8_method_10_code "OneSelf$Rows" (wo y_Rows_isKnown prog_8_method_10_code 4 (some .boolean)) (some .boolean) rm_x_Rows_isKnown) {o : Int × St} {N : Nat} {v1 t0 : Int} {s : St} (hf : x_Rows_isKnown_19 N v1 t0 s = some o) : Rj X (xW G) 4 (qI X (xW G) o) 19 [(0, .ref ((xW G).h 3)), (1, vI v1)] [vI t0] s := by
  unfold x_Rows_isKnown_19 at hf
  refine r_istore_n C (q := 20) (lv' := [(2, vI t0), (0, .ref ((xW G).h 3)), (1, vI v1)]) d_Rows_isKnown_19 rfl (by decide) rfl rfl ?_
  refine r_aload_n C (q := 21) 1 d_Rows_isKnown_20 rfl rfl rfl ?_
  refine r_iload_n C (q := 22) 2 d_Rows_isKnown_21 rfl rfl rfl ?_
  refine r_bipush C (q := 24) (x := 6) d_Rows_isKnown_22 rfl rfl ?_
  obtain ⟨r24, s24, hg24, hf⟩ := bd_s hf
  refine r_cVI C (q := 27) (As := [vI v1, vI 6]) (k0 := 3) (c_x_Rows_fact C.i hg24) mt_Rows_fact ml_Rows_36 (Nat.le_of_ble_eq_true rfl) rfl rfl rfl rfl rfl rfl ⟨Nat.le_of_ble_eq_true rfl, Nat.le_of_ble_eq_true rfl⟩ rfl (Nat.le_of_ble_eq_true rfl) d_Rows_isKnown_24 rfl ?_
  refine r_istore_n C (q := 28) (lv' := [(3, vI r24), (2, vI t0), (0, .ref ((xW G).h 3)), (1, vI v1)]) d_Rows_isKnown_27 rfl (by decide) rfl rfl ?_
  refine r_aload_n C (q := 29) 2 d_Rows_isKnown_28 rfl rfl rfl ?_
  refine r_iload_n C (q := 30) 3 d_Rows_isKnown_29 rfl rfl rfl ?_
  refine r_iconst C (q := 31) d_Rows_isKnown_30 rfl ?_
  obtain ⟨r31, s31, hg31, hf⟩ := bd_s hf
  refine r_cVI C (q := 34) (As := [vI v1, vI 5]) (k0 := 3) (c_x_Rows_fact C.i hg31) mt_Rows_fact ml_Rows_36 (Nat.le_of_ble_eq_true rfl) rfl rfl rfl rfl rfl rfl ⟨Nat.le_of_ble_eq_true rfl, Nat.le_of_ble_eq_true rfl⟩ rfl (Nat.le_of_ble_eq_true rfl) d_Rows_isKnown_31 rfl ?_
  refine r_iload_n C (q := 35) 1 d_Rows_isKnown_34 rfl rfl rfl ?_
  refine r_ic_gt C (t := 52) (q := 38) d_Rows_isKnown_35 (by decide) rfl (fun c35 => ?_) (fun c35 => ?_)
  · replace hf := ite_t c35 hf
    refine r_iconst C (q := 53) d_Rows_isKnown_52 rfl ?_
    exact r_zreturn C (by decide) hf d_Rows_isKnown_53
  · replace hf := ite_f c35 hf
    refine r_iload_n C (q := 39) 0 d_Rows_isKnown_38 rfl rfl rfl ?_
    refine r_iconst C (q := 40) d_Rows_isKnown_39 rfl ?_
    refine r_ic_eq C (t := 48) (q := 43) d_Rows_isKnown_40 (by decide) rfl (fun c40 => ?_) (fun c40 => ?_)
    · replace hf := ite_t c40 hf
      exact r_sub [] rfl (s_x_Rows_isKnown_48 C hf)
    · replace hf := ite_f c40 hf
      refine r_iload_n C (q := 44) 0 d_Rows_isKnown_43 rfl rfl rfl ?_
      refine r_iload_n C (q := 45) 1 d_Rows_isKnown_44 rfl rfl rfl ?_
      refine r_ic_le C (t := 52) (q := 48) d_Rows_isKnown_45 (by decide) rfl (fun c45 => ?_) (fun c45 => ?_)
      · replace hf := ite_t c45 hf
        refine r_iconst C (q := 53) d_Rows_isKnown_52 rfl ?_
        exact r_zreturn C (by decide) hf d_Rows_isKnown_53
      · replace hf := ite_f c45 hf
        exact r_sub [] rfl (s_x_Rows_isKnown_48 C hf)
theorem c_x_Rows_isKnown {l : Launch} {G : GG} (hi : wo_i (xW G)) {N : Nat} {v1 : Int} {s : St} {o : Int × St} (hf : x_Rows_isKnown N v1 s = some o) : CtI l (xW G) y_Rows_isKnown (wo y_Rows_isKnown prog_8_method_10_code 4 (some .boolean)) rm_x_Rows_isKnown [.ref ((xW G).h 3), vI v1] s o := by
  refine ct_I (by decide +kernel) hi (Nat.le_of_ble_eq_true rfl) fun X C => ?_
  unfold x_Rows_isKnown at hf
  show Rj X (xW G) 4 (qI X (xW G) o) 0 [(0, .ref ((xW G).h 3)), (1, vI v1)] [] s
  refine r_aload_n C (q := 1) 0 d_Rows_isKnown_0 rfl rfl rfl ?_
  refine gxx_Rows_asOf C (q := 4) fl_Rows_18 d_Rows_isKnown_1 rfl ?_
  refine r_iconst C (q := 5) d_Rows_isKnown_4 rfl ?_
  refine r_ic_ne C (t := 15) (q := 8) d_Rows_isKnown_5 (by decide) rfl (fun c5 => ?_) (fun c5 => ?_)
  · replace hf := ite_t c5 hf
    refine r_aload_n C (q := 9) 0 d_Rows_isKnown_8 rfl rfl rfl ?_
    refine gxx_Rows_day C (q := 12) fl_Rows_33 d_Rows_isKnown_9 rfl ?_
    refine r_goto C (q := 19) d_Rows_isKnown_12 (by decide) ?_
    exact r_sub [0, 1] rfl (s_x_Rows_isKnown_19 C hf)
  · replace hf := ite_f c5 hf
    refine r_aload_n C (q := 16) 0 d_Rows_isKnown_15 rfl rfl rfl ?_
    refine gxx_Rows_asOf C (q := 19) fl_Rows_18 d_Rows_isKnown_16 rfl ?_
    exact r_sub [0, 1] rfl (s_x_Rows_isKnown_19 C hf)
def x_asInt (N : Nat) (v0 : Int) (s : St) : MM := if eq32 v0 0 then (some (0, s)) else (some (1, s))
abbrev rm_x_asInt : Room := { frames := 0, cells := 0, slots := 0, locals := 0 }
theorem c_x_asInt {l : Launch} {G : GG} (hi : wo_i (xW G)) {N : Nat} {v0 : Int} {s : St} {o : Int × St} (hf : x_asInt N v0 s = some o) : CtI l (xW G) y_O_asInt (wo y_O_asInt prog_1_method_48_code 1 (some .int)) rm_x_asInt [vI v0] s o := by
  refine ct_I (by decide +kernel) hi (Nat.le_of_ble_eq_true rfl) fun X C => ?_
  unfold x_asInt at hf
  show Rj X (xW G) 1 (qI X (xW G) o) 0 [(0, vI v0)] [] s
  refine r_iload_n C (q := 1) 0 d_O_asInt_0 rfl rfl rfl ?_
  refine r_if_eq C (t := 8) (q := 4) d_O_asInt_1 (by decide) rfl (fun c1 => ?_) (fun c1 => ?_)
  · replace hf := ite_t c1 hf
    refine r_iconst C (q := 9) d_O_asInt_8 rfl ?_
    exact r_ireturn C hf d_O_asInt_9
  · replace hf := ite_f c1 hf
    refine r_iconst C (q := 5) d_O_asInt_4 rfl ?_
    refine r_goto C (q := 9) d_O_asInt_5 (by decide) ?_
    exact r_ireturn C hf d_O_asInt_9
def x_about (N : Nat) (v1 v2 : Int) (s : St) : MM := bd (x_Rows_has N v1 s) (fun r5 s5 => if eq32 r5 0 then (some ((-2), s5)) else (bd (x_isWithin N v2 0 7 s5) (fun r15 s15 => if eq32 r15 0 then (some ((-2), s15)) else (if eq32 v2 7 then (bd (x_Rows_isKnown N v1 s15) (fun r35 s35 => bd (x_asInt N r35 s35) (fun r38 s38 => some (r38, s38)))) else (bd (x_Rows_fact N v1 v2 s15) (fun r48 s48 => some (r48, s48)))))))
abbrev rm_x_about : Room := { frames := 2, cells := 0, slots := 0, locals := 45 }
theorem c_x_about {l : Launch} {G : GG} (hi : wo_i (xW G)) {N : Nat} {v1 v2 : Int} {s : St} {o : Int × St} (hf : x_about N v1 v2 s = some o) : CtI l (xW G) y_O_about (wo y_O_about prog_1_method_5_code 3 (some .int)) rm_x_about [.ref ((xW G).h 0), vI v1, vI v2] s o := by
  refine ct_I (by decide +kernel) hi (Nat.le_of_ble_eq_true rfl) fun X C => ?_
  unfold x_about at hf
  show Rj X (xW G) 3 (qI X (xW G) o) 0 [(0, .ref ((xW G).h 0)), (1, vI v1), (2, vI v2)] [] s
  refine r_aload_n C (q := 1) 0 d_O_about_0 rfl rfl rfl ?_
  refine gxx_O_rows C (q := 4) fl_O_27 d_O_about_1 rfl ?_
  refine r_iload_n C (q := 5) 1 d_O_about_4 rfl rfl rfl ?_
  obtain ⟨r5, s5, hg5, hf⟩ := bd_s hf
  refine r_cVI C (q := 8) (As := [vI v1]) (k0 := 3) (c_x_Rows_has C.i hg5) mt_Rows_has ml_O_138 (Nat.le_of_ble_eq_true rfl) rfl rfl rfl rfl rfl rfl ⟨Nat.le_of_ble_eq_true rfl, Nat.le_of_ble_eq_true rfl⟩ rfl (Nat.le_of_ble_eq_true rfl) d_O_about_5 rfl ?_
  refine r_if_eq C (t := 21) (q := 11) d_O_about_8 (by decide) rfl (fun c8 => ?_) (fun c8 => ?_)
  · replace hf := ite_t c8 hf
    refine r_bipush C (q := 23) (x := (-2)) d_O_about_21 rfl rfl ?_
    exact r_ireturn C hf d_O_about_23
  · replace hf := ite_f c8 hf
    refine r_iload_n C (q := 12) 2 d_O_about_11 rfl rfl rfl ?_
    refine r_iconst C (q := 13) d_O_about_12 rfl ?_
    refine r_bipush C (q := 15) (x := 7) d_O_about_13 rfl rfl ?_
    obtain ⟨r15, s15, hg15, hf⟩ := bd_s hf
    refine r_cSI C (q := 18) (As := [vI v2, vI 0, vI 7]) (c_x_isWithin C.i hg15) mt_O_isWithin ml_O_78 rfl rfl rfl ⟨Nat.le_of_ble_eq_true rfl, Nat.le_of_ble_eq_true rfl⟩ rfl (Nat.le_of_ble_eq_true rfl) d_O_about_15 rfl ?_
    refine r_if_ne C (t := 24) (q := 21) d_O_about_18 (by decide) rfl (fun c18 => ?_) (fun c18 => ?_)
    · replace hf := ite_t c18 hf
      refine r_bipush C (q := 23) (x := (-2)) d_O_about_21 rfl rfl ?_
      exact r_ireturn C hf d_O_about_23
    · replace hf := ite_f c18 hf
      refine r_iload_n C (q := 25) 2 d_O_about_24 rfl rfl rfl ?_
      refine r_bipush C (q := 27) (x := 7) d_O_about_25 rfl rfl ?_
      refine r_ic_ne C (t := 42) (q := 30) d_O_about_27 (by decide) rfl (fun c27 => ?_) (fun c27 => ?_)
      · replace hf := ite_t c27 hf
        refine r_aload_n C (q := 31) 0 d_O_about_30 rfl rfl rfl ?_
        refine gxx_O_rows C (q := 34) fl_O_27 d_O_about_31 rfl ?_
        refine r_iload_n C (q := 35) 1 d_O_about_34 rfl rfl rfl ?_
        obtain ⟨r35, s35, hg35, hf⟩ := bd_s hf
        refine r_cVI C (q := 38) (As := [vI v1]) (k0 := 3) (c_x_Rows_isKnown C.i hg35) mt_Rows_isKnown ml_O_148 (Nat.le_of_ble_eq_true rfl) rfl rfl rfl rfl rfl rfl ⟨Nat.le_of_ble_eq_true rfl, Nat.le_of_ble_eq_true rfl⟩ rfl (Nat.le_of_ble_eq_true rfl) d_O_about_35 rfl ?_
        obtain ⟨r38, s38, hg38, hf⟩ := bd_s hf
        refine r_cSI C (q := 41) (As := [vI r35]) (c_x_asInt C.i hg38) mt_O_asInt ml_O_151 rfl rfl rfl ⟨Nat.le_of_ble_eq_true rfl, Nat.le_of_ble_eq_true rfl⟩ rfl (Nat.le_of_ble_eq_true rfl) d_O_about_38 rfl ?_
        exact r_ireturn C hf d_O_about_41
      · replace hf := ite_f c27 hf
        refine r_aload_n C (q := 43) 0 d_O_about_42 rfl rfl rfl ?_
        refine gxx_O_rows C (q := 46) fl_O_27 d_O_about_43 rfl ?_
        refine r_iload_n C (q := 47) 1 d_O_about_46 rfl rfl rfl ?_
        refine r_iload_n C (q := 48) 2 d_O_about_47 rfl rfl rfl ?_
        obtain ⟨r48, s48, hg48, hf⟩ := bd_s hf
        refine r_cVI C (q := 51) (As := [vI v1, vI v2]) (k0 := 3) (c_x_Rows_fact C.i hg48) mt_Rows_fact ml_O_141 (Nat.le_of_ble_eq_true rfl) rfl rfl rfl rfl rfl rfl ⟨Nat.le_of_ble_eq_true rfl, Nat.le_of_ble_eq_true rfl⟩ rfl (Nat.le_of_ble_eq_true rfl) d_O_about_48 rfl ?_
        exact r_ireturn C hf d_O_about_51
def x_letter (N : Nat) (v1 v2 : Int) (s : St) : MM := bd (x_Rows_has N v1 s) (fun r5 s5 => if eq32 r5 0 then (some ((-2), s5)) else (if le32 0 v2 then (bd (x_Rows_fact N v1 4 s5) (fun r25 s25 => if lt32 v2 r25 then (bd (x_Rows_letterAt N v1 v2 s25) (fun r39 s39 => some (r39, s39))) else (some ((-1), s25)))) else (some ((-2), s5))))
abbrev rm_x_letter : Room := { frames := 2, cells := 0, slots := 0, locals := 42 }
theorem c_x_letter {l : Launch} {G : GG} (hi : wo_i (xW G)) {N : Nat} {v1 v2 : Int} {s : St} {o : Int × St} (hf : x_letter N v1 v2 s = some o) : CtI l (xW G) y_O_letter (wo y_O_letter prog_1_method_6_code 3 (some .int)) rm_x_letter [.ref ((xW G).h 0), vI v1, vI v2] s o := by
  refine ct_I (by decide +kernel) hi (Nat.le_of_ble_eq_true rfl) fun X C => ?_
  unfold x_letter at hf
  show Rj X (xW G) 3 (qI X (xW G) o) 0 [(0, .ref ((xW G).h 0)), (1, vI v1), (2, vI v2)] [] s
  refine r_aload_n C (q := 1) 0 d_O_letter_0 rfl rfl rfl ?_
  refine gxx_O_rows C (q := 4) fl_O_27 d_O_letter_1 rfl ?_
  refine r_iload_n C (q := 5) 1 d_O_letter_4 rfl rfl rfl ?_
  obtain ⟨r5, s5, hg5, hf⟩ := bd_s hf
  refine r_cVI C (q := 8) (As := [vI v1]) (k0 := 3) (c_x_Rows_has C.i hg5) mt_Rows_has ml_O_138 (Nat.le_of_ble_eq_true rfl) rfl rfl rfl rfl rfl rfl ⟨Nat.le_of_ble_eq_true rfl, Nat.le_of_ble_eq_true rfl⟩ rfl (Nat.le_of_ble_eq_true rfl) d_O_letter_5 rfl ?_
  refine r_if_eq C (t := 15) (q := 11) d_O_letter_8 (by decide) rfl (fun c8 => ?_) (fun c8 => ?_)
  · replace hf := ite_t c8 hf
    refine r_bipush C (q := 17) (x := (-2)) d_O_letter_15 rfl rfl ?_
    exact r_ireturn C hf d_O_letter_17
  · replace hf := ite_f c8 hf
    refine r_iload_n C (q := 12) 2 d_O_letter_11 rfl rfl rfl ?_
    refine r_if_ge C (t := 18) (q := 15) d_O_letter_12 (by decide) rfl (fun c12 => ?_) (fun c12 => ?_)
    · replace hf := ite_t c12 hf
      refine r_iload_n C (q := 19) 2 d_O_letter_18 rfl rfl rfl ?_
      refine r_aload_n C (q := 20) 0 d_O_letter_19 rfl rfl rfl ?_
      refine gxx_O_rows C (q := 23) fl_O_27 d_O_letter_20 rfl ?_
      refine r_iload_n C (q := 24) 1 d_O_letter_23 rfl rfl rfl ?_
      refine r_iconst C (q := 25) d_O_letter_24 rfl ?_
      obtain ⟨r25, s25, hg25, hf⟩ := bd_s hf
      refine r_cVI C (q := 28) (As := [vI v1, vI 4]) (k0 := 3) (c_x_Rows_fact C.i hg25) mt_Rows_fact ml_O_141 (Nat.le_of_ble_eq_true rfl) rfl rfl rfl rfl rfl rfl ⟨Nat.le_of_ble_eq_true rfl, Nat.le_of_ble_eq_true rfl⟩ rfl (Nat.le_of_ble_eq_true rfl) d_O_letter_25 rfl ?_
      refine r_ic_lt C (t := 33) (q := 31) d_O_letter_28 (by decide) rfl (fun c28 => ?_) (fun c28 => ?_)
      · replace hf := ite_t c28 hf
        refine r_aload_n C (q := 34) 0 d_O_letter_33 rfl rfl rfl ?_
        refine gxx_O_rows C (q := 37) fl_O_27 d_O_letter_34 rfl ?_
        refine r_iload_n C (q := 38) 1 d_O_letter_37 rfl rfl rfl ?_
        refine r_iload_n C (q := 39) 2 d_O_letter_38 rfl rfl rfl ?_
        obtain ⟨r39, s39, hg39, hf⟩ := bd_s hf
        refine r_cVI C (q := 42) (As := [vI v1, vI v2]) (k0 := 3) (c_x_Rows_letterAt C.i hg39) mt_Rows_letterAt ml_O_155 (Nat.le_of_ble_eq_true rfl) rfl rfl rfl rfl rfl rfl ⟨Nat.le_of_ble_eq_true rfl, Nat.le_of_ble_eq_true rfl⟩ rfl (Nat.le_of_ble_eq_true rfl) d_O_letter_39 rfl ?_
        exact r_ireturn C hf d_O_letter_42
      · replace hf := ite_f c28 hf
        refine r_iconst C (q := 32) d_O_letter_31 rfl ?_
        exact r_ireturn C hf d_O_letter_32
    · replace hf := ite_f c12 hf
      refine r_bipush C (q := 17) (x := (-2)) d_O_letter_15 rfl rfl ?_
      exact r_ireturn C hf d_O_letter_17
def x_asOf (N : Nat) (v1 : Int) (s : St) : MM := bd (x_isWithin N v1 ((-1)) (s 3 3) s) (fun r9 s9 => if eq32 r9 0 then (some ((-2), s9)) else (some (s9 3 4, su s9 3 4 v1)))
abbrev rm_x_asOf : Room := { frames := 1, cells := 0, slots := 0, locals := 22 }
theorem c_x_asOf {l : Launch} {G : GG} (hi : wo_i (xW G)) {N : Nat} {v1 : Int} {s : St} {o : Int × St} (hf : x_asOf N v1 s = some o) : CtI l (xW G) y_O_asOf (wo y_O_asOf prog_1_method_7_code 3 (some .int)) rm_x_asOf [.ref ((xW G).h 0), vI v1] s o := by
  refine ct_I (by decide +kernel) hi (Nat.le_of_ble_eq_true rfl) fun X C => ?_
  unfold x_asOf at hf
  show Rj X (xW G) 3 (qI X (xW G) o) 0 [(0, .ref ((xW G).h 0)), (1, vI v1)] [] s
  refine r_iload_n C (q := 1) 1 d_O_asOf_0 rfl rfl rfl ?_
  refine r_iconst C (q := 2) d_O_asOf_1 rfl ?_
  refine r_aload_n C (q := 3) 0 d_O_asOf_2 rfl rfl rfl ?_
  refine gxx_O_rows C (q := 6) fl_O_27 d_O_asOf_3 rfl ?_
  refine gnx_Rows_day C (q := 9) fn_O_82 d_O_asOf_6 rfl ?_
  obtain ⟨r9, s9, hg9, hf⟩ := bd_s hf
  refine r_cSI C (q := 12) (As := [vI v1, vI ((-1)), vI (s 3 3)]) (c_x_isWithin C.i hg9) mt_O_isWithin ml_O_78 rfl rfl rfl ⟨Nat.le_of_ble_eq_true rfl, Nat.le_of_ble_eq_true rfl⟩ rfl (Nat.le_of_ble_eq_true rfl) d_O_asOf_9 rfl ?_
  refine r_if_ne C (t := 18) (q := 15) d_O_asOf_12 (by decide) rfl (fun c12 => ?_) (fun c12 => ?_)
  · replace hf := ite_t c12 hf
    refine r_bipush C (q := 17) (x := (-2)) d_O_asOf_15 rfl rfl ?_
    exact r_ireturn C hf d_O_asOf_17
  · replace hf := ite_f c12 hf
    refine r_aload_n C (q := 19) 0 d_O_asOf_18 rfl rfl rfl ?_
    refine gxx_O_rows C (q := 22) fl_O_27 d_O_asOf_19 rfl ?_
    refine gnx_Rows_asOf C (q := 25) fn_O_158 d_O_asOf_22 rfl ?_
    refine r_istore_n C (q := 26) (lv' := [(2, vI (s9 3 4)), (0, .ref ((xW G).h 0)), (1, vI v1)]) d_O_asOf_25 rfl (by decide) rfl rfl ?_
    refine r_aload_n C (q := 27) 1 d_O_asOf_26 rfl rfl rfl ?_
    refine gxx_O_rows C (q := 30) fl_O_27 d_O_asOf_27 rfl ?_
    refine r_iload_n C (q := 31) 2 d_O_asOf_30 rfl rfl rfl ?_
    refine pnx_Rows_asOf C (q := 34) fn_O_158 d_O_asOf_31 rfl ?_
    refine r_iload_n C (q := 35) 0 d_O_asOf_34 rfl rfl rfl ?_
    exact r_ireturn C hf d_O_asOf_35
def x_Weights_tellWay (N : Nat) (v1 v2 v3 : Int) (s : St) : MM := gd (inb ((v1 * 8) + v2) 64) (gd (inb ((v1 * 8) + v2) 64) (gd (inb ((v2 * 8) + v1) 64) (some (s 23 ((v1 * 8) + v2), su (su s 23 ((v1 * 8) + v2) v3) 23 ((v2 * 8) + v1) v3))))
abbrev rm_x_Weights_tellWay : Room := { frames := 0, cells := 0, slots := 0, locals := 0 }
theorem c_x_Weights_tellWay {l : Launch} {G : GG} (hi : wo_i (xW G)) {N : Nat} {v1 v2 v3 : Int} {s : St} {o : Int × St} (hf : x_Weights_tellWay N v1 v2 v3 s = some o) : CtI l (xW G) y_Weights_tellWay (wo y_Weights_tellWay prog_12_method_2_code 5 (some .int)) rm_x_Weights_tellWay [.ref ((xW G).h 6), vI v1, vI v2, vI v3] s o := by
  refine ct_I (by decide +kernel) hi (Nat.le_of_ble_eq_true rfl) fun X C => ?_
  unfold x_Weights_tellWay at hf
  show Rj X (xW G) 5 (qI X (xW G) o) 0 [(0, .ref ((xW G).h 6)), (1, vI v1), (2, vI v2), (3, vI v3)] [] s
  refine r_aload_n C (q := 1) 0 d_Weights_tellWay_0 rfl rfl rfl ?_
  refine gxx_Weights_ways C (q := 4) fl_Weights_9 d_Weights_tellWay_1 rfl ?_
  refine r_iload_n C (q := 5) 1 d_Weights_tellWay_4 rfl rfl rfl ?_
  refine r_bipush C (q := 7) (x := 8) d_Weights_tellWay_5 rfl rfl ?_
  refine r_imul C (q := 8) d_Weights_tellWay_7 rfl ?_
  refine r_iload_n C (q := 9) 2 d_Weights_tellWay_8 rfl rfl rfl ?_
  refine r_iadd C (q := 10) d_Weights_tellWay_9 rfl ?_
  obtain ⟨g10, hf⟩ := gd_s hf
  refine r_iald C (q := 11) 23 (Nat.le_of_ble_eq_true rfl) (fun _ => rfl) 0 rfl g10 (by decide) d_Weights_tellWay_10 rfl ?_
  refine r_istore C (q := 13) (lv' := [(4, vI (s 23 ((v1 * 8) + v2))), (0, .ref ((xW G).h 6)), (1, vI v1), (2, vI v2), (3, vI v3)]) d_Weights_tellWay_11 (by decide) rfl rfl ?_
  refine r_aload_n C (q := 14) 1 d_Weights_tellWay_13 rfl rfl rfl ?_
  refine gxx_Weights_ways C (q := 17) fl_Weights_9 d_Weights_tellWay_14 rfl ?_
  refine r_iload_n C (q := 18) 2 d_Weights_tellWay_17 rfl rfl rfl ?_
  refine r_bipush C (q := 20) (x := 8) d_Weights_tellWay_18 rfl rfl ?_
  refine r_imul C (q := 21) d_Weights_tellWay_20 rfl ?_
  refine r_iload_n C (q := 22) 3 d_Weights_tellWay_21 rfl rfl rfl ?_
  refine r_iadd C (q := 23) d_Weights_tellWay_22 rfl ?_
  refine r_iload_n C (q := 24) 4 d_Weights_tellWay_23 rfl rfl rfl ?_
  obtain ⟨g24, hf⟩ := gd_s hf
  refine r_iast C (q := 25) 23 (Nat.le_of_ble_eq_true rfl) (fun _ => rfl) 0 rfl g24 (by decide) d_Weights_tellWay_24 rfl ?_
  refine r_aload_n C (q := 26) 1 d_Weights_tellWay_25 rfl rfl rfl ?_
  refine gxx_Weights_ways C (q := 29) fl_Weights_9 d_Weights_tellWay_26 rfl ?_
  refine r_iload_n C (q := 30) 3 d_Weights_tellWay_29 rfl rfl rfl ?_
  refine r_bipush C (q := 32) (x := 8) d_Weights_tellWay_30 rfl rfl ?_
  refine r_imul C (q := 33) d_Weights_tellWay_32 rfl ?_
  refine r_iload_n C (q := 34) 2 d_Weights_tellWay_33 rfl rfl rfl ?_
  refine r_iadd C (q := 35) d_Weights_tellWay_34 rfl ?_
  refine r_iload_n C (q := 36) 4 d_Weights_tellWay_35 rfl rfl rfl ?_
  obtain ⟨g36, hf⟩ := gd_s hf
  refine r_iast C (q := 37) 23 (Nat.le_of_ble_eq_true rfl) (fun _ => rfl) 0 rfl g36 (by decide) d_Weights_tellWay_36 rfl ?_
  refine r_iload C (q := 39) 0 d_Weights_tellWay_37 rfl rfl ?_
  exact r_ireturn C hf d_Weights_tellWay_39
def x_way (N : Nat) (v1 v2 v3 : Int) (s : St) : MM := bd (x_isBelow N v1 8 s) (fun r3 s3 => if eq32 r3 0 then (some ((-2), s3)) else (bd (x_isBelow N v2 8 s3) (fun r12 s12 => if eq32 r12 0 then (some ((-2), s12)) else (if eq32 v1 v2 then (some ((-2), s12)) else (bd (x_isWithin N v3 0 99 s12) (fun r27 s27 => if eq32 r27 0 then (some ((-2), s27)) else (bd (x_Weights_tellWay N v1 v2 v3 s27) (fun r43 s43 => some (r43, s43)))))))))
abbrev rm_x_way : Room := { frames := 1, cells := 0, slots := 0, locals := 24 }
theorem c_x_way {l : Launch} {G : GG} (hi : wo_i (xW G)) {N : Nat} {v1 v2 v3 : Int} {s : St} {o : Int × St} (hf : x_way N v1 v2 v3 s = some o) : CtI l (xW G) y_O_way (wo y_O_way prog_1_method_8_code 4 (some .int)) rm_x_way [.ref ((xW G).h 0), vI v1, vI v2, vI v3] s o := by
  refine ct_I (by decide +kernel) hi (Nat.le_of_ble_eq_true rfl) fun X C => ?_
  unfold x_way at hf
  show Rj X (xW G) 4 (qI X (xW G) o) 0 [(0, .ref ((xW G).h 0)), (1, vI v1), (2, vI v2), (3, vI v3)] [] s
  refine r_iload_n C (q := 1) 1 d_O_way_0 rfl rfl rfl ?_
  refine r_bipush C (q := 3) (x := 8) d_O_way_1 rfl rfl ?_
  obtain ⟨r3, s3, hg3, hf⟩ := bd_s hf
  refine r_cSI C (q := 6) (As := [vI v1, vI 8]) (c_x_isBelow C.i hg3) mt_O_isBelow ml_O_88 rfl rfl rfl ⟨Nat.le_of_ble_eq_true rfl, Nat.le_of_ble_eq_true rfl⟩ rfl (Nat.le_of_ble_eq_true rfl) d_O_way_3 rfl ?_
  refine r_if_eq C (t := 33) (q := 9) d_O_way_6 (by decide) rfl (fun c6 => ?_) (fun c6 => ?_)
  · replace hf := ite_t c6 hf
    refine r_bipush C (q := 35) (x := (-2)) d_O_way_33 rfl rfl ?_
    exact r_ireturn C hf d_O_way_35
  · replace hf := ite_f c6 hf
    refine r_iload_n C (q := 10) 2 d_O_way_9 rfl rfl rfl ?_
    refine r_bipush C (q := 12) (x := 8) d_O_way_10 rfl rfl ?_
    obtain ⟨r12, s12, hg12, hf⟩ := bd_s hf
    refine r_cSI C (q := 15) (As := [vI v2, vI 8]) (c_x_isBelow C.i hg12) mt_O_isBelow ml_O_88 rfl rfl rfl ⟨Nat.le_of_ble_eq_true rfl, Nat.le_of_ble_eq_true rfl⟩ rfl (Nat.le_of_ble_eq_true rfl) d_O_way_12 rfl ?_
    refine r_if_eq C (t := 33) (q := 18) d_O_way_15 (by decide) rfl (fun c15 => ?_) (fun c15 => ?_)
    · replace hf := ite_t c15 hf
      refine r_bipush C (q := 35) (x := (-2)) d_O_way_33 rfl rfl ?_
      exact r_ireturn C hf d_O_way_35
    · replace hf := ite_f c15 hf
      refine r_iload_n C (q := 19) 1 d_O_way_18 rfl rfl rfl ?_
      refine r_iload_n C (q := 20) 2 d_O_way_19 rfl rfl rfl ?_
      refine r_ic_eq C (t := 33) (q := 23) d_O_way_20 (by decide) rfl (fun c20 => ?_) (fun c20 => ?_)
      · replace hf := ite_t c20 hf
        refine r_bipush C (q := 35) (x := (-2)) d_O_way_33 rfl rfl ?_
        exact r_ireturn C hf d_O_way_35
      · replace hf := ite_f c20 hf
        refine r_iload_n C (q := 24) 3 d_O_way_23 rfl rfl rfl ?_
        refine r_iconst C (q := 25) d_O_way_24 rfl ?_
        refine r_bipush C (q := 27) (x := 99) d_O_way_25 rfl rfl ?_
        obtain ⟨r27, s27, hg27, hf⟩ := bd_s hf
        refine r_cSI C (q := 30) (As := [vI v3, vI 0, vI 99]) (c_x_isWithin C.i hg27) mt_O_isWithin ml_O_78 rfl rfl rfl ⟨Nat.le_of_ble_eq_true rfl, Nat.le_of_ble_eq_true rfl⟩ rfl (Nat.le_of_ble_eq_true rfl) d_O_way_27 rfl ?_
        refine r_if_ne C (t := 36) (q := 33) d_O_way_30 (by decide) rfl (fun c30 => ?_) (fun c30 => ?_)
        · replace hf := ite_t c30 hf
          refine r_bipush C (q := 35) (x := (-2)) d_O_way_33 rfl rfl ?_
          exact r_ireturn C hf d_O_way_35
        · replace hf := ite_f c30 hf
          refine r_aload_n C (q := 37) 0 d_O_way_36 rfl rfl rfl ?_
          refine gxx_O_weights C (q := 40) fl_O_42 d_O_way_37 rfl ?_
          refine r_iload_n C (q := 41) 1 d_O_way_40 rfl rfl rfl ?_
          refine r_iload_n C (q := 42) 2 d_O_way_41 rfl rfl rfl ?_
          refine r_iload_n C (q := 43) 3 d_O_way_42 rfl rfl rfl ?_
          obtain ⟨r43, s43, hg43, hf⟩ := bd_s hf
          refine r_cVI C (q := 46) (As := [vI v1, vI v2, vI v3]) (k0 := 6) (c_x_Weights_tellWay C.i hg43) mt_Weights_tellWay ml_O_161 (Nat.le_of_ble_eq_true rfl) rfl rfl rfl rfl rfl rfl ⟨Nat.le_of_ble_eq_true rfl, Nat.le_of_ble_eq_true rfl⟩ rfl (Nat.le_of_ble_eq_true rfl) d_O_way_43 rfl ?_
          exact r_ireturn C hf d_O_way_46
def x_isFigure (N : Nat) (v0 : Int) (s : St) : MM := bd (x_isWithin N v0 48 57 s) (fun r5 s5 => gd (bit1 r5) (some (r5, s5)))
abbrev rm_x_isFigure : Room := { frames := 1, cells := 0, slots := 0, locals := 22 }
theorem c_x_isFigure {l : Launch} {G : GG} (hi : wo_i (xW G)) {N : Nat} {v0 : Int} {s : St} {o : Int × St} (hf : x_isFigure N v0 s = some o) : CtI l (xW G) y_O_isFigure (wo y_O_isFigure prog_1_method_46_code 1 (some .boolean)) rm_x_isFigure [vI v0] s o := by
  refine ct_I (by decide +kernel) hi (Nat.le_of_ble_eq_true rfl) fun X C => ?_
  unfold x_isFigure at hf
  show Rj X (xW G) 1 (qI X (xW G) o) 0 [(0, vI v0)] [] s
  refine r_iload_n C (q := 1) 0 d_O_isFigure_0 rfl rfl rfl ?_
  refine r_bipush C (q := 3) (x := 48) d_O_isFigure_1 rfl rfl ?_
  refine r_bipush C (q := 5) (x := 57) d_O_isFigure_3 rfl rfl ?_
  obtain ⟨r5, s5, hg5, hf⟩ := bd_s hf
  refine r_cSI C (q := 8) (As := [vI v0, vI 48, vI 57]) (c_x_isWithin C.i hg5) mt_O_isWithin ml_O_78 rfl rfl rfl ⟨Nat.le_of_ble_eq_true rfl, Nat.le_of_ble_eq_true rfl⟩ rfl (Nat.le_of_ble_eq_true rfl) d_O_isFigure_5 rfl ?_
  obtain ⟨g8, hf⟩ := gd_s hf
  exact r_zreturn C g8 hf d_O_isFigure_8
def x_Sounds_dueBehind_45 (N : Nat) (v0 v1 : Int) (s : St) : MM := if eq32 v0 3 then (if eq32 v1 59 then (some (0, s)) else (some ((-1), s))) else (some ((-1), s))
def x_Sounds_dueBehind_31 (N : Nat) (v0 v1 : Int) (s : St) : MM := if eq32 v0 2 then (bd (x_isFigure N v1 s) (fun r37 s37 => if eq32 r37 0 then (x_Sounds_dueBehind_45 N v0 v1  s37) else (some (3, s37)))) else (x_Sounds_dueBehind_45 N v0 v1  s)
def x_Sounds_dueBehind_18 (N : Nat) (v0 v1 : Int) (s : St) : MM := if eq32 v0 1 then (if eq32 v1 61 then (some (2, s)) else (x_Sounds_dueBehind_31 N v0 v1  s)) else (x_Sounds_dueBehind_31 N v0 v1  s)
def x_Sounds_dueBehind_9 (N : Nat) (v0 v1 : Int) (s : St) : MM := bd (x_isLetter N v1 s) (fun r10 s10 => if eq32 r10 0 then (x_Sounds_dueBehind_18 N v0 v1  s10) else (some (1, s10)))
def x_Sounds_dueBehind (N : Nat) (v0 v1 : Int) (s : St) : MM := if eq32 v0 0 then (x_Sounds_dueBehind_9 N v0 v1  s) else (if eq32 v0 1 then (x_Sounds_dueBehind_9 N v0 v1  s) else (x_Sounds_dueBehind_18 N v0 v1  s))
abbrev rm_x_Sounds_dueBehind : Room := { frames := 2, cells := 0, slots := 0, locals := 42 }
theorem s_x_Sounds_dueBehind_45 {X : CxT} {l : Launch} {G : GG} (C : Cx X l (xW G) 2 prog_11_method_6_code "OneSelf$Sounds" (wo y_Sounds_dueBehind prog_11_method_6_code 2 (some .int)) (some .int) rm_x_Sounds_dueBehind) {o : Int × St} {N : Nat} {v0 v1 : Int} {s : St} (hf : x_Sounds_dueBehind_45 N v0 v1 s = some o) : Rj X (xW G) 2 (qI X (xW G) o) 45 [(0, vI v0), (1, vI v1)] [] s := by
  unfold x_Sounds_dueBehind_45 at hf
  refine r_iload_n C (q := 46) 0 d_Sounds_dueBehind_45 rfl rfl rfl ?_
  refine r_iconst C (q := 47) d_Sounds_dueBehind_46 rfl ?_
  refine r_ic_ne C (t := 60) (q := 50) d_Sounds_dueBehind_47 (by decide) rfl (fun c47 => ?_) (fun c47 => ?_)
  · replace hf := ite_t c47 hf
    refine r_iload_n C (q := 51) 1 d_Sounds_dueBehind_50 rfl rfl rfl ?_
    refine r_bipush C (q := 53) (x := 59) d_Sounds_dueBehind_51 rfl rfl ?_
    refine r_ic_ne C (t := 60) (q := 56) d_Sounds_dueBehind_53 (by decide) rfl (fun c53 => ?_) (fun c53 => ?_)
    · replace hf := ite_t c53 hf
      refine r_iconst C (q := 57) d_Sounds_dueBehind_56 rfl ?_
      refine r_goto C (q := 61) d_Sounds_dueBehind_57 (by decide) ?_
      exact r_ireturn C hf d_Sounds_dueBehind_61
    · replace hf := ite_f c53 hf
      refine r_iconst C (q := 61) d_Sounds_dueBehind_60 rfl ?_
      exact r_ireturn C hf d_Sounds_dueBehind_61
  · replace hf := ite_f c47 hf
    refine r_iconst C (q := 61) d_Sounds_dueBehind_60 rfl ?_
    exact r_ireturn C hf d_Sounds_dueBehind_61
theorem s_x_Sounds_dueBehind_31 {X : CxT} {l : Launch} {G : GG} (C : Cx X l (xW G) 2 prog_11_method_6_code "OneSelf$Sounds" (wo y_Sounds_dueBehind prog_11_method_6_code 2 (some .int)) (some .int) rm_x_Sounds_dueBehind) {o : Int × St} {N : Nat} {v0 v1 : Int} {s : St} (hf : x_Sounds_dueBehind_31 N v0 v1 s = some o) : Rj X (xW G) 2 (qI X (xW G) o) 31 [(0, vI v0), (1, vI v1)] [] s := by
  unfold x_Sounds_dueBehind_31 at hf
  refine r_iload_n C (q := 32) 0 d_Sounds_dueBehind_31 rfl rfl rfl ?_
  refine r_iconst C (q := 33) d_Sounds_dueBehind_32 rfl ?_
  refine r_ic_ne C (t := 45) (q := 36) d_Sounds_dueBehind_33 (by decide) rfl (fun c33 => ?_) (fun c33 => ?_)
  · replace hf := ite_t c33 hf
    refine r_iload_n C (q := 37) 1 d_Sounds_dueBehind_36 rfl rfl rfl ?_
    obtain ⟨r37, s37, hg37, hf⟩ := bd_s hf
    refine r_cTI C (q := 40) (As := [vI v1]) (c_x_isFigure C.i hg37) mt_O_isFigure mn_Sounds_44 rfl rfl rfl ⟨Nat.le_of_ble_eq_true rfl, Nat.le_of_ble_eq_true rfl⟩ rfl (Nat.le_of_ble_eq_true rfl) d_Sounds_dueBehind_37 rfl ?_
    refine r_if_eq C (t := 45) (q := 43) d_Sounds_dueBehind_40 (by decide) rfl (fun c40 => ?_) (fun c40 => ?_)
    · replace hf := ite_t c40 hf
      exact r_sub [0, 1] rfl (s_x_Sounds_dueBehind_45 C hf)
    · replace hf := ite_f c40 hf
      refine r_iconst C (q := 44) d_Sounds_dueBehind_43 rfl ?_
      exact r_ireturn C hf d_Sounds_dueBehind_44
  · replace hf := ite_f c33 hf
    exact r_sub [0, 1] rfl (s_x_Sounds_dueBehind_45 C hf)
theorem s_x_Sounds_dueBehind_18 {X : CxT} {l : Launch} {G : GG} (C : Cx X l (xW G) 2 prog_11_method_6_code "OneSelf$Sounds" (wo y_Sounds_dueBehind prog_11_method_6_code 2 (some .int)) (some .int) rm_x_Sounds_dueBehind) {o : Int × St} {N : Nat} {v0 v1 : Int} {s : St} (hf : x_Sounds_dueBehind_18 N v0 v1 s = some o) : Rj X (xW G) 2 (qI X (xW G) o) 18 [(0, vI v0), (1, vI v1)] [] s := by
  unfold x_Sounds_dueBehind_18 at hf
  refine r_iload_n C (q := 19) 0 d_Sounds_dueBehind_18 rfl rfl rfl ?_
  refine r_iconst C (q := 20) d_Sounds_dueBehind_19 rfl ?_
  refine r_ic_ne C (t := 31) (q := 23) d_Sounds_dueBehind_20 (by decide) rfl (fun c20 => ?_) (fun c20 => ?_)
  · replace hf := ite_t c20 hf
    refine r_iload_n C (q := 24) 1 d_Sounds_dueBehind_23 rfl rfl rfl ?_
    refine r_bipush C (q := 26) (x := 61) d_Sounds_dueBehind_24 rfl rfl ?_
    refine r_ic_ne C (t := 31) (q := 29) d_Sounds_dueBehind_26 (by decide) rfl (fun c26 => ?_) (fun c26 => ?_)
    · replace hf := ite_t c26 hf
      refine r_iconst C (q := 30) d_Sounds_dueBehind_29 rfl ?_
      exact r_ireturn C hf d_Sounds_dueBehind_30
    · replace hf := ite_f c26 hf
      exact r_sub [0, 1] rfl (s_x_Sounds_dueBehind_31 C hf)
  · replace hf := ite_f c20 hf
    exact r_sub [0, 1] rfl (s_x_Sounds_dueBehind_31 C hf)
theorem s_x_Sounds_dueBehind_9 {X : CxT} {l : Launch} {G : GG} (C : Cx X l (xW G) 2 prog_11_method_6_code "OneSelf$Sounds" (wo y_Sounds_dueBehind prog_11_method_6_code 2 (some .int)) (some .int) rm_x_Sounds_dueBehind) {o : Int × St} {N : Nat} {v0 v1 : Int} {s : St} (hf : x_Sounds_dueBehind_9 N v0 v1 s = some o) : Rj X (xW G) 2 (qI X (xW G) o) 9 [(0, vI v0), (1, vI v1)] [] s := by
  unfold x_Sounds_dueBehind_9 at hf
  refine r_iload_n C (q := 10) 1 d_Sounds_dueBehind_9 rfl rfl rfl ?_
  obtain ⟨r10, s10, hg10, hf⟩ := bd_s hf
  refine r_cTI C (q := 13) (As := [vI v1]) (c_x_isLetter C.i hg10) mt_O_isLetter mn_Sounds_48 rfl rfl rfl ⟨Nat.le_of_ble_eq_true rfl, Nat.le_of_ble_eq_true rfl⟩ rfl (Nat.le_of_ble_eq_true rfl) d_Sounds_dueBehind_10 rfl ?_
  refine r_if_eq C (t := 18) (q := 16) d_Sounds_dueBehind_13 (by decide) rfl (fun c13 => ?_) (fun c13 => ?_)
  · replace hf := ite_t c13 hf
    exact r_sub [0, 1] rfl (s_x_Sounds_dueBehind_18 C hf)
  · replace hf := ite_f c13 hf
    refine r_iconst C (q := 17) d_Sounds_dueBehind_16 rfl ?_
    exact r_ireturn C hf d_Sounds_dueBehind_17
theorem c_x_Sounds_dueBehind {l : Launch} {G : GG} (hi : wo_i (xW G)) {N : Nat} {v0 v1 : Int} {s : St} {o : Int × St} (hf : x_Sounds_dueBehind N v0 v1 s = some o) : CtI l (xW G) y_Sounds_dueBehind (wo y_Sounds_dueBehind prog_11_method_6_code 2 (some .int)) rm_x_Sounds_dueBehind [vI v0, vI v1] s o := by
  refine ct_I (by decide +kernel) hi (Nat.le_of_ble_eq_true rfl) fun X C => ?_
  unfold x_Sounds_dueBehind at hf
  show Rj X (xW G) 2 (qI X (xW G) o) 0 [(0, vI v0), (1, vI v1)] [] s
  refine r_iload_n C (q := 1) 0 d_Sounds_dueBehind_0 rfl rfl rfl ?_
  refine r_if_eq C (t := 9) (q := 4) d_Sounds_dueBehind_1 (by decide) rfl (fun c1 => ?_) (fun c1 => ?_)
  · replace hf := ite_t c1 hf
    exact r_sub [0, 1] rfl (s_x_Sounds_dueBehind_9 C hf)
  · replace hf := ite_f c1 hf
    refine r_iload_n C (q := 5) 0 d_Sounds_dueBehind_4 rfl rfl rfl ?_
    refine r_iconst C (q := 6) d_Sounds_dueBehind_5 rfl ?_
    refine r_ic_ne C (t := 18) (q := 9) d_Sounds_dueBehind_6 (by decide) rfl (fun c6 => ?_) (fun c6 => ?_)
    · replace hf := ite_t c6 hf
      exact r_sub [0, 1] rfl (s_x_Sounds_dueBehind_9 C hf)
    · replace hf := ite_f c6 hf
      exact r_sub [0, 1] rfl (s_x_Sounds_dueBehind_18 C hf)
def x_Sounds_firstFault_67 (N : Nat) (k6 : Int → Int → Int → St → MM) (v1 v2 v3 : Int) (s : St) : MM := k6 v1 v2 (v3 + 1) s
def x_Sounds_firstFault_6 (N : Nat) (k6 : Int → Int → Int → St → MM) (v1 v2 v3 : Int) (s : St) : MM := if le32 (s 5 4) v3 then (if eq32 v1 3 then (some ((-1), s)) else (some (s 5 4, s))) else (gd (inb v3 80) (bd (x_Sounds_dueBehind N v1 (s 19 v3) s) (fun r25 s25 => if eq32 r25 ((-1)) then (some (v3, s25)) else (bd (x_isLetter N (s 19 v3) s25) (fun r38 s38 => if eq32 r38 0 then (x_Sounds_firstFault_67 N k6 r25 v2 v3  s38) else (if eq32 (an32 v2 (sl32 1 ((s 19 v3) - 97))) 0 then (x_Sounds_firstFault_67 N k6 r25 (or32 v2 (sl32 1 ((s 19 v3) - 97))) v3  s38) else (some (v3, s38))))))))
def x_Sounds_firstFault (N : Nat) (s : St) : MM := itr (x_Sounds_firstFault_6 N ) (fun _ _ _ _ => none) N 0 0 0 s
abbrev rm_x_Sounds_firstFault : Room := { frames := 3, cells := 0, slots := 0, locals := 63 }
theorem s_x_Sounds_firstFault_67 {X : CxT} {l : Launch} {G : GG} (C : Cx X l (xW G) 6 prog_11_method_5_code "OneSelf$Sounds" (wo y_Sounds_firstFault prog_11_method_5_code 6 (some .int)) (some .int) rm_x_Sounds_firstFault) {o : Int × St} {N : Nat} {v1 v2 v3 : Int} {k6 : Int → Int → Int → St → MM} (hk6 : ∀ (u1 u2 u3 : Int) (s : St), k6 u1 u2 u3 s = some o → Rj X (xW G) 6 (qI X (xW G) o) 6 [(0, .ref ((xW G).h 5)), (1, vI u1), (2, vI u2), (3, vI u3)] [] s) {s : St} (hf : x_Sounds_firstFault_67 N k6 v1 v2 v3 s = some o) : Rj X (xW G) 6 (qI X (xW G) o) 67 [(0, .ref ((xW G).h 5)), (1, vI v1), (2, vI v2), (3, vI v3)] [] s := by
  unfold x_Sounds_firstFault_67 at hf
  refine r_iinc C (q := 70) (lv' := [(3, vI (v3 + 1)), (0, .ref ((xW G).h 5)), (1, vI v1), (2, vI v2)]) 3 d_Sounds_firstFault_67 rfl (by decide) rfl rfl ?_
  refine r_goto C (q := 6) d_Sounds_firstFault_70 (by decide) ?_
  exact r_sub [1, 2, 3, 0] rfl (hk6 _ _ _ _  hf)
theorem s_x_Sounds_firstFault_6 {X : CxT} {l : Launch} {G : GG} (C : Cx X l (xW G) 6 prog_11_method_5_code "OneSelf$Sounds" (wo y_Sounds_firstFault prog_11_method_5_code 6 (some .int)) (some .int) rm_x_Sounds_firstFault) {o : Int × St} {N : Nat} {v1 v2 v3 : Int} {k6 : Int → Int → Int → St → MM} (hk6 : ∀ (u1 u2 u3 : Int) (s : St), k6 u1 u2 u3 s = some o → Rj X (xW G) 6 (qI X (xW G) o) 6 [(0, .ref ((xW G).h 5)), (1, vI u1), (2, vI u2), (3, vI u3)] [] s) {s : St} (hf : x_Sounds_firstFault_6 N  k6 v1 v2 v3 s = some o) : Rj X (xW G) 6 (qI X (xW G) o) 6 [(0, .ref ((xW G).h 5)), (1, vI v1), (2, vI v2), (3, vI v3)] [] s := by
  unfold x_Sounds_firstFault_6 at hf
  refine r_iload_n C (q := 7) 3 d_Sounds_firstFault_6 rfl rfl rfl ?_
  refine r_aload_n C (q := 8) 0 d_Sounds_firstFault_7 rfl rfl rfl ?_
  refine gxx_Sounds_many C (q := 11) fl_Sounds_30 d_Sounds_firstFault_8 rfl ?_
  refine r_ic_ge C (t := 73) (q := 14) d_Sounds_firstFault_11 (by decide) rfl (fun c11 => ?_) (fun c11 => ?_)
  · replace hf := ite_t c11 hf
    refine r_iload_n C (q := 74) 1 d_Sounds_firstFault_73 rfl rfl rfl ?_
    refine r_iconst C (q := 75) d_Sounds_firstFault_74 rfl ?_
    refine r_ic_ne C (t := 82) (q := 78) d_Sounds_firstFault_75 (by decide) rfl (fun c75 => ?_) (fun c75 => ?_)
    · replace hf := ite_t c75 hf
      refine r_iconst C (q := 79) d_Sounds_firstFault_78 rfl ?_
      refine r_goto C (q := 86) d_Sounds_firstFault_79 (by decide) ?_
      exact r_ireturn C hf d_Sounds_firstFault_86
    · replace hf := ite_f c75 hf
      refine r_aload_n C (q := 83) 0 d_Sounds_firstFault_82 rfl rfl rfl ?_
      refine gxx_Sounds_many C (q := 86) fl_Sounds_30 d_Sounds_firstFault_83 rfl ?_
      exact r_ireturn C hf d_Sounds_firstFault_86
  · replace hf := ite_f c11 hf
    refine r_aload_n C (q := 15) 0 d_Sounds_firstFault_14 rfl rfl rfl ?_
    refine gxx_Sounds_text C (q := 18) fl_Sounds_11 d_Sounds_firstFault_15 rfl ?_
    refine r_iload_n C (q := 19) 3 d_Sounds_firstFault_18 rfl rfl rfl ?_
    obtain ⟨g19, hf⟩ := gd_s hf
    refine r_iald C (q := 20) 19 (Nat.le_of_ble_eq_true rfl) (fun _ => rfl) 0 rfl g19 (by decide) d_Sounds_firstFault_19 rfl ?_
    refine r_istore C (q := 22) (lv' := [(4, vI (s 19 v3)), (0, .ref ((xW G).h 5)), (1, vI v1), (2, vI v2), (3, vI v3)]) d_Sounds_firstFault_20 (by decide) rfl rfl ?_
    refine r_iload_n C (q := 23) 2 d_Sounds_firstFault_22 rfl rfl rfl ?_
    refine r_iload C (q := 25) 0 d_Sounds_firstFault_23 rfl rfl ?_
    obtain ⟨r25, s25, hg25, hf⟩ := bd_s hf
    refine r_cSI C (q := 28) (As := [vI v1, vI (s 19 v3)]) (c_x_Sounds_dueBehind C.i hg25) mt_Sounds_dueBehind ml_Sounds_51 rfl rfl rfl ⟨Nat.le_of_ble_eq_true rfl, Nat.le_of_ble_eq_true rfl⟩ rfl (Nat.le_of_ble_eq_true rfl) d_Sounds_firstFault_25 rfl ?_
    refine r_istore_n C (q := 29) (lv' := [(1, vI r25), (4, vI (s 19 v3)), (0, .ref ((xW G).h 5)), (2, vI v2), (3, vI v3)]) d_Sounds_firstFault_28 rfl (by decide) rfl rfl ?_
    refine r_iload_n C (q := 30) 0 d_Sounds_firstFault_29 rfl rfl rfl ?_
    refine r_iconst C (q := 31) d_Sounds_firstFault_30 rfl ?_
    refine r_ic_ne C (t := 36) (q := 34) d_Sounds_firstFault_31 (by decide) rfl (fun c31 => ?_) (fun c31 => ?_)
    · replace hf := ite_t c31 hf
      refine r_iload_n C (q := 35) 4 d_Sounds_firstFault_34 rfl rfl rfl ?_
      exact r_ireturn C hf d_Sounds_firstFault_35
    · replace hf := ite_f c31 hf
      refine r_iload C (q := 38) 1 d_Sounds_firstFault_36 rfl rfl ?_
      obtain ⟨r38, s38, hg38, hf⟩ := bd_s hf
      refine r_cTI C (q := 41) (As := [vI (s 19 v3)]) (c_x_isLetter C.i hg38) mt_O_isLetter mn_Sounds_48 rfl rfl rfl ⟨Nat.le_of_ble_eq_true rfl, Nat.le_of_ble_eq_true rfl⟩ rfl (Nat.le_of_ble_eq_true rfl) d_Sounds_firstFault_38 rfl ?_
      refine r_if_eq C (t := 67) (q := 44) d_Sounds_firstFault_41 (by decide) rfl (fun c41 => ?_) (fun c41 => ?_)
      · replace hf := ite_t c41 hf
        exact r_sub [2, 0, 3, 4] rfl (s_x_Sounds_firstFault_67 C hk6 hf)
      · replace hf := ite_f c41 hf
        refine r_iconst C (q := 45) d_Sounds_firstFault_44 rfl ?_
        refine r_iload C (q := 47) 1 d_Sounds_firstFault_45 rfl rfl ?_
        refine r_bipush C (q := 49) (x := 97) d_Sounds_firstFault_47 rfl rfl ?_
        refine r_isub C (q := 50) d_Sounds_firstFault_49 rfl ?_
        refine r_ishl C (q := 51) d_Sounds_firstFault_50 rfl ?_
        refine r_istore C (q := 53) (lv' := [(5, vI (sl32 1 ((s 19 v3) - 97))), (1, vI r25), (4, vI (s 19 v3)), (0, .ref ((xW G).h 5)), (2, vI v2), (3, vI v3)]) d_Sounds_firstFault_51 (by decide) rfl rfl ?_
        refine r_iload_n C (q := 54) 4 d_Sounds_firstFault_53 rfl rfl rfl ?_
        refine r_iload C (q := 56) 0 d_Sounds_firstFault_54 rfl rfl ?_
        refine r_iand C (q := 57) d_Sounds_firstFault_56 rfl ?_
        refine r_if_eq C (t := 62) (q := 60) d_Sounds_firstFault_57 (by decide) rfl (fun c57 => ?_) (fun c57 => ?_)
        · replace hf := ite_t c57 hf
          refine r_iload_n C (q := 63) 4 d_Sounds_firstFault_62 rfl rfl rfl ?_
          refine r_iload C (q := 65) 0 d_Sounds_firstFault_63 rfl rfl ?_
          refine r_ior C (q := 66) d_Sounds_firstFault_65 rfl ?_
          refine r_istore_n C (q := 67) (lv' := [(2, vI (or32 v2 (sl32 1 ((s 19 v3) - 97)))), (5, vI (sl32 1 ((s 19 v3) - 97))), (1, vI r25), (4, vI (s 19 v3)), (0, .ref ((xW G).h 5)), (3, vI v3)]) d_Sounds_firstFault_66 rfl (by decide) rfl rfl ?_
          exact r_sub [4, 2, 0, 5] rfl (s_x_Sounds_firstFault_67 C hk6 hf)
        · replace hf := ite_f c57 hf
          refine r_iload_n C (q := 61) 5 d_Sounds_firstFault_60 rfl rfl rfl ?_
          exact r_ireturn C hf d_Sounds_firstFault_61
theorem c_x_Sounds_firstFault {l : Launch} {G : GG} (hi : wo_i (xW G)) {N : Nat} {s : St} {o : Int × St} (hf : x_Sounds_firstFault N s = some o) : CtI l (xW G) y_Sounds_firstFault (wo y_Sounds_firstFault prog_11_method_5_code 6 (some .int)) rm_x_Sounds_firstFault [.ref ((xW G).h 5)] s o := by
  refine ct_I (by decide +kernel) hi (Nat.le_of_ble_eq_true rfl) fun X C => ?_
  unfold x_Sounds_firstFault at hf
  show Rj X (xW G) 6 (qI X (xW G) o) 0 [(0, .ref ((xW G).h 5))] [] s
  refine r_iconst C (q := 1) d_Sounds_firstFault_0 rfl ?_
  refine r_istore_n C (q := 2) (lv' := [(1, vI 0), (0, .ref ((xW G).h 5))]) d_Sounds_firstFault_1 rfl (by decide) rfl rfl ?_
  refine r_iconst C (q := 3) d_Sounds_firstFault_2 rfl ?_
  refine r_istore_n C (q := 4) (lv' := [(2, vI 0), (1, vI 0), (0, .ref ((xW G).h 5))]) d_Sounds_firstFault_3 rfl (by decide) rfl rfl ?_
  refine r_iconst C (q := 5) d_Sounds_firstFault_4 rfl ?_
  refine r_istore_n C (q := 6) (lv' := [(3, vI 0), (2, vI 0), (1, vI 0), (0, .ref ((xW G).h 5))]) d_Sounds_firstFault_5 rfl (by decide) rfl rfl ?_
  have hL : ∀ (u1 u2 u3 : Int) (z : St), itr (x_Sounds_firstFault_6 N ) (fun _ _ _ _ => none) N u1 u2 u3 z = some o → Rj X (xW G) 6 (qI X (xW G) o) 6 [(0, .ref ((xW G).h 5)), (1, vI u1), (2, vI u2), (3, vI u3)] [] z := itr_ind (x_Sounds_firstFault_6 N ) (fun _ _ _ _ => none) (fun k => ∀ (u1 u2 u3 : Int) (z : St), k u1 u2 u3 z = some o → Rj X (xW G) 6 (qI X (xW G) o) 6 [(0, .ref ((xW G).h 5)), (1, vI u1), (2, vI u2), (3, vI u3)] [] z) (fun _ _ _ _  h => by cases h) (fun k hk u1 u2 u3 z h => s_x_Sounds_firstFault_6 C hk h) N
  exact r_sub [3, 2, 1, 0] rfl (hL _ _ _ _  hf)
def j_Arrays_fill_IIV_5 (N : Nat) (k0 : Nat) (n0 : Nat) (v1 v3 : Int) (k5 : Int → St → MM) (v2 : Int) (s : St) : MM := if le32 v3 v2 then (some (0, s)) else (gd (inb v2 (n0 : Int)) (k5 (v2 + 1) (su s k0 v2 v1)))
def j_Arrays_fill_IIV (N : Nat) (k0 : Nat) (n0 : Nat) (v1 : Int) (s : St) : MM := itr (j_Arrays_fill_IIV_5 N k0 n0 v1 ((n0 : Int))) (fun _ _ => none) N 0 s
abbrev rm_j_Arrays_fill_IIV : Room := { frames := 0, cells := 0, slots := 0, locals := 0 }
theorem s_j_Arrays_fill_IIV_5 {X : CxT} {l : Launch} {w : WoT} {k0 n0 : Nat} (hk0 : k0 < w.n) {cA : ClassId} (hc0 : ∀ f, w.c k0 f = .inl (cA, n0, .inl (fun j : Nat => Int32.ofInt (f j)))) (t0 : Nat) (ht0 : w.tys[t0]? = some (cA, .int)) (hn0 : n0 < 2147483648) (C : Cx X l w 4 prog_18_method_103_code "java/util/Arrays" (wo y_Arrays_fill_IIV prog_18_method_103_code 4 none) none rm_j_Arrays_fill_IIV) {o : Int × St} {N : Nat} {v1 v2 v3 : Int} {k5 : Int → St → MM} (hk5 : ∀ (u2 : Int) (s : St), k5 u2 s = some o → Rj X w 4 (qV X w o) 5 [(0, .ref (w.h k0)), (1, vI v1), (2, vI u2), (3, vI v3)] [] s) {s : St} (hf : j_Arrays_fill_IIV_5 N k0 n0 v1 v3 k5 v2 s = some o) : Rj X w 4 (qV X w o) 5 [(0, .ref (w.h k0)), (1, vI v1), (2, vI v2), (3, vI v3)] [] s := by
  unfold j_Arrays_fill_IIV_5 at hf
  refine r_iload_n C (q := 6) 2 d_Arrays_fill_IIV_5 rfl rfl rfl ?_
  refine r_iload_n C (q := 7) 3 d_Arrays_fill_IIV_6 rfl rfl rfl ?_
  refine r_ic_ge C (t := 20) (q := 10) d_Arrays_fill_IIV_7 (by decide) rfl (fun c7 => ?_) (fun c7 => ?_)
  · replace hf := ite_t c7 hf
    exact r_return C hf d_Arrays_fill_IIV_20
  · replace hf := ite_f c7 hf
    refine r_aload_n C (q := 11) 0 d_Arrays_fill_IIV_10 rfl rfl rfl ?_
    refine r_iload_n C (q := 12) 2 d_Arrays_fill_IIV_11 rfl rfl rfl ?_
    refine r_iload_n C (q := 13) 1 d_Arrays_fill_IIV_12 rfl rfl rfl ?_
    obtain ⟨g13, hf⟩ := gd_s hf
    refine r_iast C (q := 14) k0 hk0 hc0 t0 ht0 g13 hn0 d_Arrays_fill_IIV_13 rfl ?_
    refine r_iinc C (q := 17) (lv' := [(2, vI (v2 + 1)), (0, .ref (w.h k0)), (1, vI v1), (3, vI v3)]) 2 d_Arrays_fill_IIV_14 rfl (by decide) rfl rfl ?_
    refine r_goto C (q := 5) d_Arrays_fill_IIV_17 (by decide) ?_
    exact r_sub [1, 2, 0, 3] rfl (hk5 _ _  hf)
theorem c_j_Arrays_fill_IIV {l : Launch} {w : WoT} {k0 n0 : Nat} (hk0 : k0 < w.n) {cA : ClassId} (hc0 : ∀ f, w.c k0 f = .inl (cA, n0, .inl (fun j : Nat => Int32.ofInt (f j)))) (t0 : Nat) (ht0 : w.tys[t0]? = some (cA, .int)) (hn0 : n0 < 2147483648) (hi : wo_i w) {N : Nat} {v1 : Int} {s : St} {o : Int × St} (hf : j_Arrays_fill_IIV N k0 n0 v1 s = some o) : CtV l w y_Arrays_fill_IIV (wo y_Arrays_fill_IIV prog_18_method_103_code 4 none) rm_j_Arrays_fill_IIV [.ref (w.h k0), vI v1] s o := by
  refine ct_V (by decide +kernel) hi (Nat.le_of_ble_eq_true rfl) fun X C => ?_
  unfold j_Arrays_fill_IIV at hf
  show Rj X w 4 (qV X w o) 0 [(0, .ref (w.h k0)), (1, vI v1)] [] s
  refine r_iconst C (q := 1) d_Arrays_fill_IIV_0 rfl ?_
  refine r_istore_n C (q := 2) (lv' := [(2, vI 0), (0, .ref (w.h k0)), (1, vI v1)]) d_Arrays_fill_IIV_1 rfl (by decide) rfl rfl ?_
  refine r_aload_n C (q := 3) 1 d_Arrays_fill_IIV_2 rfl rfl rfl ?_
  refine r_alen C (q := 4) k0 hk0 (hc0 _) t0 ht0 rfl d_Arrays_fill_IIV_3 rfl ?_
  refine r_istore_n C (q := 5) (lv' := [(3, vI ((n0 : Int))), (2, vI 0), (0, .ref (w.h k0)), (1, vI v1)]) d_Arrays_fill_IIV_4 rfl (by decide) rfl rfl ?_
  have hL : ∀ (u2 : Int) (z : St), itr (j_Arrays_fill_IIV_5 N k0 n0 v1 ((n0 : Int))) (fun _ _ => none) N u2 z = some o → Rj X w 4 (qV X w o) 5 [(0, .ref (w.h k0)), (1, vI v1), (2, vI u2), (3, vI ((n0 : Int)))] [] z := itr_ind (j_Arrays_fill_IIV_5 N k0 n0 v1 ((n0 : Int))) (fun _ _ => none) (fun k => ∀ (u2 : Int) (z : St), k u2 z = some o → Rj X w 4 (qV X w o) 5 [(0, .ref (w.h k0)), (1, vI v1), (2, vI u2), (3, vI ((n0 : Int)))] [] z) (fun _ _  h => by cases h) (fun k hk u2 z h => s_j_Arrays_fill_IIV_5 hk0 hc0 t0 ht0 hn0 C hk h) N
  exact r_sub [2, 3, 1, 0] rfl (hL _ _  hf)
def x_Sounds_read_87 (N : Nat) (k34 : Int → Int → St → MM) (v1 v2 : Int) (s : St) : MM := k34 v1 (v2 + (-1)) s
def x_Sounds_read_34 (N : Nat) (k34 : Int → Int → St → MM) (v1 v2 : Int) (s : St) : MM := if lt32 v2 0 then (some (0, s)) else (gd (inb v2 80) (bd (x_isFigure N (s 19 v2) s) (fun r44 s44 => if eq32 r44 0 then (gd (inb v2 80) (bd (x_isLetter N (s44 19 v2) s44) (fun r66 s66 => if eq32 r66 0 then (x_Sounds_read_87 N k34 v1 v2  s66) else (gd (inb v2 80) (gd (inb ((s66 19 v2) - 97) 26) (x_Sounds_read_87 N k34 v1 v2  (su s66 20 ((s66 19 v2) - 97) v1))))))) else (gd (inb v2 80) (x_Sounds_read_87 N k34 (s44 19 v2) v2  s44)))))
def x_Sounds_read (N : Nat) (s : St) : MM := bd (x_Sounds_firstFault N s) (fun r2 s2 => bd (j_Arrays_fill_IIV N 20 26 ((-1)) (su s2 5 5 r2)) (fun r13 s13 => if eq32 (s13 5 5) ((-1)) then (itr (x_Sounds_read_34 N ) (fun _ _ _ => none) N ((-1)) ((s13 5 4) - 1) s13) else (some (0, s13))))
abbrev rm_x_Sounds_read : Room := { frames := 4, cells := 0, slots := 0, locals := 88 }
theorem s_x_Sounds_read_87 {X : CxT} {l : Launch} {G : GG} (C : Cx X l (xW G) 3 prog_11_method_4_code "OneSelf$Sounds" (wo y_Sounds_read prog_11_method_4_code 3 none) none rm_x_Sounds_read) {o : Int × St} {N : Nat} {v1 v2 : Int} {k34 : Int → Int → St → MM} (hk34 : ∀ (u1 u2 : Int) (s : St), k34 u1 u2 s = some o → Rj X (xW G) 3 (qV X (xW G) o) 34 [(0, .ref ((xW G).h 5)), (1, vI u1), (2, vI u2)] [] s) {s : St} (hf : x_Sounds_read_87 N k34 v1 v2 s = some o) : Rj X (xW G) 3 (qV X (xW G) o) 87 [(0, .ref ((xW G).h 5)), (1, vI v1), (2, vI v2)] [] s := by
  unfold x_Sounds_read_87 at hf
  refine r_iinc C (q := 90) (lv' := [(2, vI (v2 + (-1))), (0, .ref ((xW G).h 5)), (1, vI v1)]) 2 d_Sounds_read_87 rfl (by decide) rfl rfl ?_
  refine r_goto C (q := 34) d_Sounds_read_90 (by decide) ?_
  exact r_sub [1, 2, 0] rfl (hk34 _ _ _  hf)
theorem s_x_Sounds_read_34 {X : CxT} {l : Launch} {G : GG} (C : Cx X l (xW G) 3 prog_11_method_4_code "OneSelf$Sounds" (wo y_Sounds_read prog_11_method_4_code 3 none) none rm_x_Sounds_read) {o : Int × St} {N : Nat} {v1 v2 : Int} {k34 : Int → Int → St → MM} (hk34 : ∀ (u1 u2 : Int) (s : St), k34 u1 u2 s = some o → Rj X (xW G) 3 (qV X (xW G) o) 34 [(0, .ref ((xW G).h 5)), (1, vI u1), (2, vI u2)] [] s) {s : St} (hf : x_Sounds_read_34 N  k34 v1 v2 s = some o) : Rj X (xW G) 3 (qV X (xW G) o) 34 [(0, .ref ((xW G).h 5)), (1, vI v1), (2, vI v2)] [] s := by
  unfold x_Sounds_read_34 at hf
  refine r_iload_n C (q := 35) 2 d_Sounds_read_34 rfl rfl rfl ?_
  refine r_if_lt C (t := 93) (q := 38) d_Sounds_read_35 (by decide) rfl (fun c35 => ?_) (fun c35 => ?_)
  · replace hf := ite_t c35 hf
    exact r_return C hf d_Sounds_read_93
  · replace hf := ite_f c35 hf
    refine r_aload_n C (q := 39) 0 d_Sounds_read_38 rfl rfl rfl ?_
    refine gxx_Sounds_text C (q := 42) fl_Sounds_11 d_Sounds_read_39 rfl ?_
    refine r_iload_n C (q := 43) 2 d_Sounds_read_42 rfl rfl rfl ?_
    obtain ⟨g43, hf⟩ := gd_s hf
    refine r_iald C (q := 44) 19 (Nat.le_of_ble_eq_true rfl) (fun _ => rfl) 0 rfl g43 (by decide) d_Sounds_read_43 rfl ?_
    obtain ⟨r44, s44, hg44, hf⟩ := bd_s hf
    refine r_cTI C (q := 47) (As := [vI (s 19 v2)]) (c_x_isFigure C.i hg44) mt_O_isFigure mn_Sounds_44 rfl rfl rfl ⟨Nat.le_of_ble_eq_true rfl, Nat.le_of_ble_eq_true rfl⟩ rfl (Nat.le_of_ble_eq_true rfl) d_Sounds_read_44 rfl ?_
    refine r_if_eq C (t := 60) (q := 50) d_Sounds_read_47 (by decide) rfl (fun c47 => ?_) (fun c47 => ?_)
    · replace hf := ite_t c47 hf
      refine r_aload_n C (q := 61) 0 d_Sounds_read_60 rfl rfl rfl ?_
      refine gxx_Sounds_text C (q := 64) fl_Sounds_11 d_Sounds_read_61 rfl ?_
      refine r_iload_n C (q := 65) 2 d_Sounds_read_64 rfl rfl rfl ?_
      obtain ⟨g65, hf⟩ := gd_s hf
      refine r_iald C (q := 66) 19 (Nat.le_of_ble_eq_true rfl) (fun _ => rfl) 0 rfl g65 (by decide) d_Sounds_read_65 rfl ?_
      obtain ⟨r66, s66, hg66, hf⟩ := bd_s hf
      refine r_cTI C (q := 69) (As := [vI (s44 19 v2)]) (c_x_isLetter C.i hg66) mt_O_isLetter mn_Sounds_48 rfl rfl rfl ⟨Nat.le_of_ble_eq_true rfl, Nat.le_of_ble_eq_true rfl⟩ rfl (Nat.le_of_ble_eq_true rfl) d_Sounds_read_66 rfl ?_
      refine r_if_eq C (t := 87) (q := 72) d_Sounds_read_69 (by decide) rfl (fun c69 => ?_) (fun c69 => ?_)
      · replace hf := ite_t c69 hf
        exact r_sub [0, 1, 2] rfl (s_x_Sounds_read_87 C hk34 hf)
      · replace hf := ite_f c69 hf
        refine r_aload_n C (q := 73) 0 d_Sounds_read_72 rfl rfl rfl ?_
        refine gxx_Sounds_figures C (q := 76) fl_Sounds_15 d_Sounds_read_73 rfl ?_
        refine r_aload_n C (q := 77) 0 d_Sounds_read_76 rfl rfl rfl ?_
        refine gxx_Sounds_text C (q := 80) fl_Sounds_11 d_Sounds_read_77 rfl ?_
        refine r_iload_n C (q := 81) 2 d_Sounds_read_80 rfl rfl rfl ?_
        obtain ⟨g81, hf⟩ := gd_s hf
        refine r_iald C (q := 82) 19 (Nat.le_of_ble_eq_true rfl) (fun _ => rfl) 0 rfl g81 (by decide) d_Sounds_read_81 rfl ?_
        refine r_bipush C (q := 84) (x := 97) d_Sounds_read_82 rfl rfl ?_
        refine r_isub C (q := 85) d_Sounds_read_84 rfl ?_
        refine r_iload_n C (q := 86) 1 d_Sounds_read_85 rfl rfl rfl ?_
        obtain ⟨g86, hf⟩ := gd_s hf
        refine r_iast C (q := 87) 20 (Nat.le_of_ble_eq_true rfl) (fun _ => rfl) 0 rfl g86 (by decide) d_Sounds_read_86 rfl ?_
        exact r_sub [0, 1, 2] rfl (s_x_Sounds_read_87 C hk34 hf)
    · replace hf := ite_f c47 hf
      refine r_aload_n C (q := 51) 0 d_Sounds_read_50 rfl rfl rfl ?_
      refine gxx_Sounds_text C (q := 54) fl_Sounds_11 d_Sounds_read_51 rfl ?_
      refine r_iload_n C (q := 55) 2 d_Sounds_read_54 rfl rfl rfl ?_
      obtain ⟨g55, hf⟩ := gd_s hf
      refine r_iald C (q := 56) 19 (Nat.le_of_ble_eq_true rfl) (fun _ => rfl) 0 rfl g55 (by decide) d_Sounds_read_55 rfl ?_
      refine r_istore_n C (q := 57) (lv' := [(1, vI (s44 19 v2)), (0, .ref ((xW G).h 5)), (2, vI v2)]) d_Sounds_read_56 rfl (by decide) rfl rfl ?_
      refine r_goto C (q := 87) d_Sounds_read_57 (by decide) ?_
      exact r_sub [1, 0, 2] rfl (s_x_Sounds_read_87 C hk34 hf)
theorem c_x_Sounds_read {l : Launch} {G : GG} (hi : wo_i (xW G)) {N : Nat} {s : St} {o : Int × St} (hf : x_Sounds_read N s = some o) : CtV l (xW G) y_Sounds_read (wo y_Sounds_read prog_11_method_4_code 3 none) rm_x_Sounds_read [.ref ((xW G).h 5)] s o := by
  refine ct_V (by decide +kernel) hi (Nat.le_of_ble_eq_true rfl) fun X C => ?_
  unfold x_Sounds_read at hf
  show Rj X (xW G) 3 (qV X (xW G) o) 0 [(0, .ref ((xW G).h 5))] [] s
  refine r_aload_n C (q := 1) 0 d_Sounds_read_0 rfl rfl rfl ?_
  refine r_aload_n C (q := 2) 0 d_Sounds_read_1 rfl rfl rfl ?_
  obtain ⟨r2, s2, hg2, hf⟩ := bd_s hf
  refine r_cVI C (q := 5) (As := []) (k0 := 5) (c_x_Sounds_firstFault C.i hg2) mt_Sounds_firstFault ml_Sounds_37 (Nat.le_of_ble_eq_true rfl) rfl rfl rfl rfl rfl rfl ⟨Nat.le_of_ble_eq_true rfl, Nat.le_of_ble_eq_true rfl⟩ rfl (Nat.le_of_ble_eq_true rfl) d_Sounds_read_2 rfl ?_
  refine pxx_Sounds_fault C (q := 8) fl_Sounds_41 d_Sounds_read_5 rfl ?_
  refine r_aload_n C (q := 9) 0 d_Sounds_read_8 rfl rfl rfl ?_
  refine gxx_Sounds_figures C (q := 12) fl_Sounds_15 d_Sounds_read_9 rfl ?_
  refine r_iconst C (q := 13) d_Sounds_read_12 rfl ?_
  obtain ⟨r13, s13, hg13, hf⟩ := bd_s hf
  refine r_cSV C (q := 16) (As := [.ref ((xW G).h 20), vI ((-1))]) (c_j_Arrays_fill_IIV (Nat.le_of_ble_eq_true rfl) (fun _ => rfl) 0 rfl (by decide) C.i hg13) mt_Arrays_fill_IIV ml_Sounds_24 rfl rfl rfl ⟨Nat.le_of_ble_eq_true rfl, Nat.le_of_ble_eq_true rfl⟩ rfl (Nat.le_of_ble_eq_true rfl) d_Sounds_read_13 rfl ?_
  refine r_aload_n C (q := 17) 0 d_Sounds_read_16 rfl rfl rfl ?_
  refine gxx_Sounds_fault C (q := 20) fl_Sounds_41 d_Sounds_read_17 rfl ?_
  refine r_iconst C (q := 21) d_Sounds_read_20 rfl ?_
  refine r_ic_eq C (t := 25) (q := 24) d_Sounds_read_21 (by decide) rfl (fun c21 => ?_) (fun c21 => ?_)
  · replace hf := ite_t c21 hf
    refine r_iconst C (q := 26) d_Sounds_read_25 rfl ?_
    refine r_istore_n C (q := 27) (lv' := [(1, vI ((-1))), (0, .ref ((xW G).h 5))]) d_Sounds_read_26 rfl (by decide) rfl rfl ?_
    refine r_aload_n C (q := 28) 1 d_Sounds_read_27 rfl rfl rfl ?_
    refine gxx_Sounds_many C (q := 31) fl_Sounds_30 d_Sounds_read_28 rfl ?_
    refine r_iconst C (q := 32) d_Sounds_read_31 rfl ?_
    refine r_isub C (q := 33) d_Sounds_read_32 rfl ?_
    refine r_istore_n C (q := 34) (lv' := [(2, vI ((s13 5 4) - 1)), (1, vI ((-1))), (0, .ref ((xW G).h 5))]) d_Sounds_read_33 rfl (by decide) rfl rfl ?_
    have hL : ∀ (u1 u2 : Int) (z : St), itr (x_Sounds_read_34 N ) (fun _ _ _ => none) N u1 u2 z = some o → Rj X (xW G) 3 (qV X (xW G) o) 34 [(0, .ref ((xW G).h 5)), (1, vI u1), (2, vI u2)] [] z := itr_ind (x_Sounds_read_34 N ) (fun _ _ _ => none) (fun k => ∀ (u1 u2 : Int) (z : St), k u1 u2 z = some o → Rj X (xW G) 3 (qV X (xW G) o) 34 [(0, .ref ((xW G).h 5)), (1, vI u1), (2, vI u2)] [] z) (fun _ _ _  h => by cases h) (fun k hk u1 u2 z h => s_x_Sounds_read_34 C hk h) N
    exact r_sub [2, 1, 0] rfl (hL _ _ _  hf)
  · replace hf := ite_f c21 hf
    exact r_return C hf d_Sounds_read_24
def x_Sounds_addByte (N : Nat) (v1 : Int) (s : St) : MM := if le32 80 (s 5 4) then (some (0, s)) else (gd (inb (s 5 4) 80) (bd (x_Sounds_read N (su (su s 19 (s 5 4) v1) 5 4 (((su s 19 (s 5 4) v1) 5 4) + 1))) (fun r30 s30 => some (0, s30))))
abbrev rm_x_Sounds_addByte : Room := { frames := 5, cells := 0, slots := 0, locals := 110 }
theorem c_x_Sounds_addByte {l : Launch} {G : GG} (hi : wo_i (xW G)) {N : Nat} {v1 : Int} {s : St} {o : Int × St} (hf : x_Sounds_addByte N v1 s = some o) : CtV l (xW G) y_Sounds_addByte (wo y_Sounds_addByte prog_11_method_2_code 2 none) rm_x_Sounds_addByte [.ref ((xW G).h 5), vI v1] s o := by
  refine ct_V (by decide +kernel) hi (Nat.le_of_ble_eq_true rfl) fun X C => ?_
  unfold x_Sounds_addByte at hf
  show Rj X (xW G) 2 (qV X (xW G) o) 0 [(0, .ref ((xW G).h 5)), (1, vI v1)] [] s
  refine r_aload_n C (q := 1) 0 d_Sounds_addByte_0 rfl rfl rfl ?_
  refine gxx_Sounds_many C (q := 4) fl_Sounds_30 d_Sounds_addByte_1 rfl ?_
  refine r_bipush C (q := 6) (x := 80) d_Sounds_addByte_4 rfl rfl ?_
  refine r_ic_ge C (t := 33) (q := 9) d_Sounds_addByte_6 (by decide) rfl (fun c6 => ?_) (fun c6 => ?_)
  · replace hf := ite_t c6 hf
    exact r_return C hf d_Sounds_addByte_33
  · replace hf := ite_f c6 hf
    refine r_aload_n C (q := 10) 0 d_Sounds_addByte_9 rfl rfl rfl ?_
    refine gxx_Sounds_text C (q := 13) fl_Sounds_11 d_Sounds_addByte_10 rfl ?_
    refine r_aload_n C (q := 14) 0 d_Sounds_addByte_13 rfl rfl rfl ?_
    refine gxx_Sounds_many C (q := 17) fl_Sounds_30 d_Sounds_addByte_14 rfl ?_
    refine r_iload_n C (q := 18) 1 d_Sounds_addByte_17 rfl rfl rfl ?_
    obtain ⟨g18, hf⟩ := gd_s hf
    refine r_iast C (q := 19) 19 (Nat.le_of_ble_eq_true rfl) (fun _ => rfl) 0 rfl g18 (by decide) d_Sounds_addByte_18 rfl ?_
    refine r_aload_n C (q := 20) 0 d_Sounds_addByte_19 rfl rfl rfl ?_
    refine r_dup C (q := 21) d_Sounds_addByte_20 rfl rfl ?_
    refine gxx_Sounds_many C (q := 24) fl_Sounds_30 d_Sounds_addByte_21 rfl ?_
    refine r_iconst C (q := 25) d_Sounds_addByte_24 rfl ?_
    refine r_iadd C (q := 26) d_Sounds_addByte_25 rfl ?_
    refine pxx_Sounds_many C (q := 29) fl_Sounds_30 d_Sounds_addByte_26 rfl ?_
    refine r_aload_n C (q := 30) 0 d_Sounds_addByte_29 rfl rfl rfl ?_
    obtain ⟨r30, s30, hg30, hf⟩ := bd_s hf
    refine r_cVV C (q := 33) (As := []) (k0 := 5) (c_x_Sounds_read C.i hg30) mt_Sounds_read ml_Sounds_34 (Nat.le_of_ble_eq_true rfl) rfl rfl rfl rfl rfl rfl ⟨Nat.le_of_ble_eq_true rfl, Nat.le_of_ble_eq_true rfl⟩ rfl (Nat.le_of_ble_eq_true rfl) d_Sounds_addByte_30 rfl ?_
    exact r_return C hf d_Sounds_addByte_33
def x_Sounds_hearAll_2 (N : Nat) (k2 : Int → St → MM) (v2 : Int) (s : St) : MM := if le32 (s 3 2) v2 then (some (0, s)) else (bd (x_Sounds_hear N v2 s) (fun r13 s13 => k2 (v2 + 1) s13))
def x_Sounds_hearAll (N : Nat) (s : St) : MM := itr (x_Sounds_hearAll_2 N ) (fun _ _ => none) N 0 s
abbrev rm_x_Sounds_hearAll : Room := { frames := 2, cells := 0, slots := 0, locals := 50 }
theorem s_x_Sounds_hearAll_2 {X : CxT} {l : Launch} {G : GG} (C : Cx X l (xW G) 3 prog_11_method_7_code "OneSelf$Sounds" (wo y_Sounds_hearAll prog_11_method_7_code 3 none) none rm_x_Sounds_hearAll) {o : Int × St} {N : Nat} {v2 : Int} {k2 : Int → St → MM} (hk2 : ∀ (u2 : Int) (s : St), k2 u2 s = some o → Rj X (xW G) 3 (qV X (xW G) o) 2 [(0, .ref ((xW G).h 5)), (1, .ref ((xW G).h 3)), (2, vI u2)] [] s) {s : St} (hf : x_Sounds_hearAll_2 N  k2 v2 s = some o) : Rj X (xW G) 3 (qV X (xW G) o) 2 [(0, .ref ((xW G).h 5)), (1, .ref ((xW G).h 3)), (2, vI v2)] [] s := by
  unfold x_Sounds_hearAll_2 at hf
  refine r_iload_n C (q := 3) 2 d_Sounds_hearAll_2 rfl rfl rfl ?_
  refine r_aload_n C (q := 4) 1 d_Sounds_hearAll_3 rfl rfl rfl ?_
  refine gnx_Rows_many C (q := 7) fn_Sounds_55 d_Sounds_hearAll_4 rfl ?_
  refine r_ic_ge C (t := 22) (q := 10) d_Sounds_hearAll_7 (by decide) rfl (fun c7 => ?_) (fun c7 => ?_)
  · replace hf := ite_t c7 hf
    exact r_return C hf d_Sounds_hearAll_22
  · replace hf := ite_f c7 hf
    refine r_aload_n C (q := 11) 0 d_Sounds_hearAll_10 rfl rfl rfl ?_
    refine r_aload_n C (q := 12) 1 d_Sounds_hearAll_11 rfl rfl rfl ?_
    refine r_iload_n C (q := 13) 2 d_Sounds_hearAll_12 rfl rfl rfl ?_
    obtain ⟨r13, s13, hg13, hf⟩ := bd_s hf
    refine r_cVV C (q := 16) (As := [.ref ((xW G).h 3), vI v2]) (k0 := 5) (c_x_Sounds_hear C.i hg13) mt_Sounds_hear ml_Sounds_58 (Nat.le_of_ble_eq_true rfl) rfl rfl rfl rfl rfl rfl ⟨Nat.le_of_ble_eq_true rfl, Nat.le_of_ble_eq_true rfl⟩ rfl (Nat.le_of_ble_eq_true rfl) d_Sounds_hearAll_13 rfl ?_
    refine r_iinc C (q := 19) (lv' := [(2, vI (v2 + 1)), (0, .ref ((xW G).h 5)), (1, .ref ((xW G).h 3))]) 2 d_Sounds_hearAll_16 rfl (by decide) rfl rfl ?_
    refine r_goto C (q := 2) d_Sounds_hearAll_19 (by decide) ?_
    exact r_sub [1, 2, 0] rfl (hk2 _ _  hf)
theorem c_x_Sounds_hearAll {l : Launch} {G : GG} (hi : wo_i (xW G)) {N : Nat} {s : St} {o : Int × St} (hf : x_Sounds_hearAll N s = some o) : CtV l (xW G) y_Sounds_hearAll (wo y_Sounds_hearAll prog_11_method_7_code 3 none) rm_x_Sounds_hearAll [.ref ((xW G).h 5), .ref ((xW G).h 3)] s o := by
  refine ct_V (by decide +kernel) hi (Nat.le_of_ble_eq_true rfl) fun X C => ?_
  unfold x_Sounds_hearAll at hf
  show Rj X (xW G) 3 (qV X (xW G) o) 0 [(0, .ref ((xW G).h 5)), (1, .ref ((xW G).h 3))] [] s
  refine r_iconst C (q := 1) d_Sounds_hearAll_0 rfl ?_
  refine r_istore_n C (q := 2) (lv' := [(2, vI 0), (0, .ref ((xW G).h 5)), (1, .ref ((xW G).h 3))]) d_Sounds_hearAll_1 rfl (by decide) rfl rfl ?_
  have hL : ∀ (u2 : Int) (z : St), itr (x_Sounds_hearAll_2 N ) (fun _ _ => none) N u2 z = some o → Rj X (xW G) 3 (qV X (xW G) o) 2 [(0, .ref ((xW G).h 5)), (1, .ref ((xW G).h 3)), (2, vI u2)] [] z := itr_ind (x_Sounds_hearAll_2 N ) (fun _ _ => none) (fun k => ∀ (u2 : Int) (z : St), k u2 z = some o → Rj X (xW G) 3 (qV X (xW G) o) 2 [(0, .ref ((xW G).h 5)), (1, .ref ((xW G).h 3)), (2, vI u2)] [] z) (fun _ _  h => by cases h) (fun k hk u2 z h => s_x_Sounds_hearAll_2 C hk h) N
  exact r_sub [1, 2, 0] rfl (hL _ _  hf)
def x_type (N : Nat) (v1 : Int) (s : St) : MM := bd (x_isWithin N v1 0 255 s) (fun r5 s5 => if eq32 r5 0 then (some ((-2), s5)) else (if lt32 (s5 5 4) 80 then (bd (x_Sounds_addByte N v1 s5) (fun r34 s34 => bd (x_Sounds_hearAll N s34) (fun r45 s45 => some (s45 5 4, s45)))) else (some ((-4), s5))))
abbrev rm_x_type : Room := { frames := 6, cells := 0, slots := 0, locals := 131 }
theorem c_x_type {l : Launch} {G : GG} (hi : wo_i (xW G)) {N : Nat} {v1 : Int} {s : St} {o : Int × St} (hf : x_type N v1 s = some o) : CtI l (xW G) y_O_type (wo y_O_type prog_1_method_9_code 2 (some .int)) rm_x_type [.ref ((xW G).h 0), vI v1] s o := by
  refine ct_I (by decide +kernel) hi (Nat.le_of_ble_eq_true rfl) fun X C => ?_
  unfold x_type at hf
  show Rj X (xW G) 2 (qI X (xW G) o) 0 [(0, .ref ((xW G).h 0)), (1, vI v1)] [] s
  refine r_iload_n C (q := 1) 1 d_O_type_0 rfl rfl rfl ?_
  refine r_iconst C (q := 2) d_O_type_1 rfl ?_
  refine r_sipush C (q := 5) (x := 255) d_O_type_2 rfl rfl ?_
  obtain ⟨r5, s5, hg5, hf⟩ := bd_s hf
  refine r_cSI C (q := 8) (As := [vI v1, vI 0, vI 255]) (c_x_isWithin C.i hg5) mt_O_isWithin ml_O_78 rfl rfl rfl ⟨Nat.le_of_ble_eq_true rfl, Nat.le_of_ble_eq_true rfl⟩ rfl (Nat.le_of_ble_eq_true rfl) d_O_type_5 rfl ?_
  refine r_if_ne C (t := 14) (q := 11) d_O_type_8 (by decide) rfl (fun c8 => ?_) (fun c8 => ?_)
  · replace hf := ite_t c8 hf
    refine r_bipush C (q := 13) (x := (-2)) d_O_type_11 rfl rfl ?_
    exact r_ireturn C hf d_O_type_13
  · replace hf := ite_f c8 hf
    refine r_aload_n C (q := 15) 0 d_O_type_14 rfl rfl rfl ?_
    refine gxx_O_sounds C (q := 18) fl_O_37 d_O_type_15 rfl ?_
    refine gnx_Sounds_many C (q := 21) fn_O_167 d_O_type_18 rfl ?_
    refine r_bipush C (q := 23) (x := 80) d_O_type_21 rfl rfl ?_
    refine r_ic_lt C (t := 29) (q := 26) d_O_type_23 (by decide) rfl (fun c23 => ?_) (fun c23 => ?_)
    · replace hf := ite_t c23 hf
      refine r_aload_n C (q := 30) 0 d_O_type_29 rfl rfl rfl ?_
      refine gxx_O_sounds C (q := 33) fl_O_37 d_O_type_30 rfl ?_
      refine r_iload_n C (q := 34) 1 d_O_type_33 rfl rfl rfl ?_
      obtain ⟨r34, s34, hg34, hf⟩ := bd_s hf
      refine r_cVV C (q := 37) (As := [vI v1]) (k0 := 5) (c_x_Sounds_addByte C.i hg34) mt_Sounds_addByte ml_O_168 (Nat.le_of_ble_eq_true rfl) rfl rfl rfl rfl rfl rfl ⟨Nat.le_of_ble_eq_true rfl, Nat.le_of_ble_eq_true rfl⟩ rfl (Nat.le_of_ble_eq_true rfl) d_O_type_34 rfl ?_
      refine r_aload_n C (q := 38) 0 d_O_type_37 rfl rfl rfl ?_
      refine gxx_O_sounds C (q := 41) fl_O_37 d_O_type_38 rfl ?_
      refine r_aload_n C (q := 42) 0 d_O_type_41 rfl rfl rfl ?_
      refine gxx_O_rows C (q := 45) fl_O_27 d_O_type_42 rfl ?_
      obtain ⟨r45, s45, hg45, hf⟩ := bd_s hf
      refine r_cVV C (q := 48) (As := [.ref ((xW G).h 3)]) (k0 := 5) (c_x_Sounds_hearAll C.i hg45) mt_Sounds_hearAll ml_O_171 (Nat.le_of_ble_eq_true rfl) rfl rfl rfl rfl rfl rfl ⟨Nat.le_of_ble_eq_true rfl, Nat.le_of_ble_eq_true rfl⟩ rfl (Nat.le_of_ble_eq_true rfl) d_O_type_45 rfl ?_
      refine r_aload_n C (q := 49) 0 d_O_type_48 rfl rfl rfl ?_
      refine gxx_O_sounds C (q := 52) fl_O_37 d_O_type_49 rfl ?_
      refine gnx_Sounds_many C (q := 55) fn_O_167 d_O_type_52 rfl ?_
      exact r_ireturn C hf d_O_type_55
    · replace hf := ite_f c23 hf
      refine r_bipush C (q := 28) (x := (-4)) d_O_type_26 rfl rfl ?_
      exact r_ireturn C hf d_O_type_28
def x_Sounds_empty (N : Nat) (s : St) : MM := bd (x_Sounds_read N (su s 5 4 0)) (fun r6 s6 => some (0, s6))
abbrev rm_x_Sounds_empty : Room := { frames := 5, cells := 0, slots := 0, locals := 110 }
theorem c_x_Sounds_empty {l : Launch} {G : GG} (hi : wo_i (xW G)) {N : Nat} {s : St} {o : Int × St} (hf : x_Sounds_empty N s = some o) : CtV l (xW G) y_Sounds_empty (wo y_Sounds_empty prog_11_method_3_code 1 none) rm_x_Sounds_empty [.ref ((xW G).h 5)] s o := by
  refine ct_V (by decide +kernel) hi (Nat.le_of_ble_eq_true rfl) fun X C => ?_
  unfold x_Sounds_empty at hf
  show Rj X (xW G) 1 (qV X (xW G) o) 0 [(0, .ref ((xW G).h 5))] [] s
  refine r_aload_n C (q := 1) 0 d_Sounds_empty_0 rfl rfl rfl ?_
  refine r_iconst C (q := 2) d_Sounds_empty_1 rfl ?_
  refine pxx_Sounds_many C (q := 5) fl_Sounds_30 d_Sounds_empty_2 rfl ?_
  refine r_aload_n C (q := 6) 0 d_Sounds_empty_5 rfl rfl rfl ?_
  obtain ⟨r6, s6, hg6, hf⟩ := bd_s hf
  refine r_cVV C (q := 9) (As := []) (k0 := 5) (c_x_Sounds_read C.i hg6) mt_Sounds_read ml_Sounds_34 (Nat.le_of_ble_eq_true rfl) rfl rfl rfl rfl rfl rfl ⟨Nat.le_of_ble_eq_true rfl, Nat.le_of_ble_eq_true rfl⟩ rfl (Nat.le_of_ble_eq_true rfl) d_Sounds_empty_6 rfl ?_
  exact r_return C hf d_Sounds_empty_9
def x_wipe (N : Nat) (s : St) : MM := bd (x_Sounds_empty N s) (fun r12 s12 => bd (x_Sounds_hearAll N s12) (fun r23 s23 => some (s 5 4, s23)))
abbrev rm_x_wipe : Room := { frames := 6, cells := 0, slots := 0, locals := 130 }
theorem c_x_wipe {l : Launch} {G : GG} (hi : wo_i (xW G)) {N : Nat} {s : St} {o : Int × St} (hf : x_wipe N s = some o) : CtI l (xW G) y_O_wipe (wo y_O_wipe prog_1_method_10_code 2 (some .int)) rm_x_wipe [.ref ((xW G).h 0)] s o := by
  refine ct_I (by decide +kernel) hi (Nat.le_of_ble_eq_true rfl) fun X C => ?_
  unfold x_wipe at hf
  show Rj X (xW G) 2 (qI X (xW G) o) 0 [(0, .ref ((xW G).h 0))] [] s
  refine r_aload_n C (q := 1) 0 d_O_wipe_0 rfl rfl rfl ?_
  refine gxx_O_sounds C (q := 4) fl_O_37 d_O_wipe_1 rfl ?_
  refine gnx_Sounds_many C (q := 7) fn_O_167 d_O_wipe_4 rfl ?_
  refine r_istore_n C (q := 8) (lv' := [(1, vI (s 5 4)), (0, .ref ((xW G).h 0))]) d_O_wipe_7 rfl (by decide) rfl rfl ?_
  refine r_aload_n C (q := 9) 1 d_O_wipe_8 rfl rfl rfl ?_
  refine gxx_O_sounds C (q := 12) fl_O_37 d_O_wipe_9 rfl ?_
  obtain ⟨r12, s12, hg12, hf⟩ := bd_s hf
  refine r_cVV C (q := 15) (As := []) (k0 := 5) (c_x_Sounds_empty C.i hg12) mt_Sounds_empty ml_O_175 (Nat.le_of_ble_eq_true rfl) rfl rfl rfl rfl rfl rfl ⟨Nat.le_of_ble_eq_true rfl, Nat.le_of_ble_eq_true rfl⟩ rfl (Nat.le_of_ble_eq_true rfl) d_O_wipe_12 rfl ?_
  refine r_aload_n C (q := 16) 1 d_O_wipe_15 rfl rfl rfl ?_
  refine gxx_O_sounds C (q := 19) fl_O_37 d_O_wipe_16 rfl ?_
  refine r_aload_n C (q := 20) 1 d_O_wipe_19 rfl rfl rfl ?_
  refine gxx_O_rows C (q := 23) fl_O_27 d_O_wipe_20 rfl ?_
  obtain ⟨r23, s23, hg23, hf⟩ := bd_s hf
  refine r_cVV C (q := 26) (As := [.ref ((xW G).h 3)]) (k0 := 5) (c_x_Sounds_hearAll C.i hg23) mt_Sounds_hearAll ml_O_171 (Nat.le_of_ble_eq_true rfl) rfl rfl rfl rfl rfl rfl ⟨Nat.le_of_ble_eq_true rfl, Nat.le_of_ble_eq_true rfl⟩ rfl (Nat.le_of_ble_eq_true rfl) d_O_wipe_23 rfl ?_
  refine r_iload_n C (q := 27) 0 d_O_wipe_26 rfl rfl rfl ?_
  exact r_ireturn C hf d_O_wipe_27
def x_fault (N : Nat) (s : St) : MM := some (s 5 5, s)
abbrev rm_x_fault : Room := { frames := 0, cells := 0, slots := 0, locals := 0 }
theorem c_x_fault {l : Launch} {G : GG} (hi : wo_i (xW G)) {N : Nat} {s : St} {o : Int × St} (hf : x_fault N s = some o) : CtI l (xW G) y_O_fault (wo y_O_fault prog_1_method_11_code 1 (some .int)) rm_x_fault [.ref ((xW G).h 0)] s o := by
  refine ct_I (by decide +kernel) hi (Nat.le_of_ble_eq_true rfl) fun X C => ?_
  unfold x_fault at hf
  show Rj X (xW G) 1 (qI X (xW G) o) 0 [(0, .ref ((xW G).h 0))] [] s
  refine r_aload_n C (q := 1) 0 d_O_fault_0 rfl rfl rfl ?_
  refine gxx_O_sounds C (q := 4) fl_O_37 d_O_fault_1 rfl ?_
  refine gnx_Sounds_fault C (q := 7) fn_O_178 d_O_fault_4 rfl ?_
  exact r_ireturn C hf d_O_fault_7
def x_Sounds_lengthOf (N : Nat) (v1 : Int) (s : St) : MM := gd (inb v1 36) (some (s 22 v1, s))
abbrev rm_x_Sounds_lengthOf : Room := { frames := 0, cells := 0, slots := 0, locals := 0 }
theorem c_x_Sounds_lengthOf {l : Launch} {G : GG} (hi : wo_i (xW G)) {N : Nat} {v1 : Int} {s : St} {o : Int × St} (hf : x_Sounds_lengthOf N v1 s = some o) : CtI l (xW G) y_Sounds_lengthOf (wo y_Sounds_lengthOf prog_11_method_10_code 2 (some .int)) rm_x_Sounds_lengthOf [.ref ((xW G).h 5), vI v1] s o := by
  refine ct_I (by decide +kernel) hi (Nat.le_of_ble_eq_true rfl) fun X C => ?_
  unfold x_Sounds_lengthOf at hf
  show Rj X (xW G) 2 (qI X (xW G) o) 0 [(0, .ref ((xW G).h 5)), (1, vI v1)] [] s
  refine r_aload_n C (q := 1) 0 d_Sounds_lengthOf_0 rfl rfl rfl ?_
  refine gxx_Sounds_lengths C (q := 4) fl_Sounds_21 d_Sounds_lengthOf_1 rfl ?_
  refine r_iload_n C (q := 5) 1 d_Sounds_lengthOf_4 rfl rfl rfl ?_
  obtain ⟨g5, hf⟩ := gd_s hf
  refine r_iald C (q := 6) 22 (Nat.le_of_ble_eq_true rfl) (fun _ => rfl) 0 rfl g5 (by decide) d_Sounds_lengthOf_5 rfl ?_
  exact r_ireturn C hf d_Sounds_lengthOf_6
def x_Sounds_signAt (N : Nat) (v1 v2 : Int) (s : St) : MM := gd (inb ((v1 * 10) + v2) 360) (some (s 21 ((v1 * 10) + v2), s))
abbrev rm_x_Sounds_signAt : Room := { frames := 0, cells := 0, slots := 0, locals := 0 }
theorem c_x_Sounds_signAt {l : Launch} {G : GG} (hi : wo_i (xW G)) {N : Nat} {v1 v2 : Int} {s : St} {o : Int × St} (hf : x_Sounds_signAt N v1 v2 s = some o) : CtI l (xW G) y_Sounds_signAt (wo y_Sounds_signAt prog_11_method_11_code 3 (some .int)) rm_x_Sounds_signAt [.ref ((xW G).h 5), vI v1, vI v2] s o := by
  refine ct_I (by decide +kernel) hi (Nat.le_of_ble_eq_true rfl) fun X C => ?_
  unfold x_Sounds_signAt at hf
  show Rj X (xW G) 3 (qI X (xW G) o) 0 [(0, .ref ((xW G).h 5)), (1, vI v1), (2, vI v2)] [] s
  refine r_aload_n C (q := 1) 0 d_Sounds_signAt_0 rfl rfl rfl ?_
  refine gxx_Sounds_signs C (q := 4) fl_Sounds_18 d_Sounds_signAt_1 rfl ?_
  refine r_iload_n C (q := 5) 1 d_Sounds_signAt_4 rfl rfl rfl ?_
  refine r_bipush C (q := 7) (x := 10) d_Sounds_signAt_5 rfl rfl ?_
  refine r_imul C (q := 8) d_Sounds_signAt_7 rfl ?_
  refine r_iload_n C (q := 9) 2 d_Sounds_signAt_8 rfl rfl rfl ?_
  refine r_iadd C (q := 10) d_Sounds_signAt_9 rfl ?_
  obtain ⟨g10, hf⟩ := gd_s hf
  refine r_iald C (q := 11) 21 (Nat.le_of_ble_eq_true rfl) (fun _ => rfl) 0 rfl g10 (by decide) d_Sounds_signAt_10 rfl ?_
  exact r_ireturn C hf d_Sounds_signAt_11
def x_sound (N : Nat) (v1 v2 : Int) (s : St) : MM := bd (x_Rows_has N v1 s) (fun r5 s5 => if eq32 r5 0 then (some ((-2), s5)) else (if le32 0 v2 then (bd (x_Sounds_lengthOf N v1 s5) (fun r24 s24 => if lt32 v2 r24 then (bd (x_Sounds_signAt N v1 v2 s24) (fun r38 s38 => some (r38, s38))) else (some ((-1), s24)))) else (some ((-2), s5))))
abbrev rm_x_sound : Room := { frames := 2, cells := 0, slots := 0, locals := 42 }
theorem c_x_sound {l : Launch} {G : GG} (hi : wo_i (xW G)) {N : Nat} {v1 v2 : Int} {s : St} {o : Int × St} (hf : x_sound N v1 v2 s = some o) : CtI l (xW G) y_O_sound (wo y_O_sound prog_1_method_12_code 3 (some .int)) rm_x_sound [.ref ((xW G).h 0), vI v1, vI v2] s o := by
  refine ct_I (by decide +kernel) hi (Nat.le_of_ble_eq_true rfl) fun X C => ?_
  unfold x_sound at hf
  show Rj X (xW G) 3 (qI X (xW G) o) 0 [(0, .ref ((xW G).h 0)), (1, vI v1), (2, vI v2)] [] s
  refine r_aload_n C (q := 1) 0 d_O_sound_0 rfl rfl rfl ?_
  refine gxx_O_rows C (q := 4) fl_O_27 d_O_sound_1 rfl ?_
  refine r_iload_n C (q := 5) 1 d_O_sound_4 rfl rfl rfl ?_
  obtain ⟨r5, s5, hg5, hf⟩ := bd_s hf
  refine r_cVI C (q := 8) (As := [vI v1]) (k0 := 3) (c_x_Rows_has C.i hg5) mt_Rows_has ml_O_138 (Nat.le_of_ble_eq_true rfl) rfl rfl rfl rfl rfl rfl ⟨Nat.le_of_ble_eq_true rfl, Nat.le_of_ble_eq_true rfl⟩ rfl (Nat.le_of_ble_eq_true rfl) d_O_sound_5 rfl ?_
  refine r_if_eq C (t := 15) (q := 11) d_O_sound_8 (by decide) rfl (fun c8 => ?_) (fun c8 => ?_)
  · replace hf := ite_t c8 hf
    refine r_bipush C (q := 17) (x := (-2)) d_O_sound_15 rfl rfl ?_
    exact r_ireturn C hf d_O_sound_17
  · replace hf := ite_f c8 hf
    refine r_iload_n C (q := 12) 2 d_O_sound_11 rfl rfl rfl ?_
    refine r_if_ge C (t := 18) (q := 15) d_O_sound_12 (by decide) rfl (fun c12 => ?_) (fun c12 => ?_)
    · replace hf := ite_t c12 hf
      refine r_iload_n C (q := 19) 2 d_O_sound_18 rfl rfl rfl ?_
      refine r_aload_n C (q := 20) 0 d_O_sound_19 rfl rfl rfl ?_
      refine gxx_O_sounds C (q := 23) fl_O_37 d_O_sound_20 rfl ?_
      refine r_iload_n C (q := 24) 1 d_O_sound_23 rfl rfl rfl ?_
      obtain ⟨r24, s24, hg24, hf⟩ := bd_s hf
      refine r_cVI C (q := 27) (As := [vI v1]) (k0 := 5) (c_x_Sounds_lengthOf C.i hg24) mt_Sounds_lengthOf ml_O_181 (Nat.le_of_ble_eq_true rfl) rfl rfl rfl rfl rfl rfl ⟨Nat.le_of_ble_eq_true rfl, Nat.le_of_ble_eq_true rfl⟩ rfl (Nat.le_of_ble_eq_true rfl) d_O_sound_24 rfl ?_
      refine r_ic_lt C (t := 32) (q := 30) d_O_sound_27 (by decide) rfl (fun c27 => ?_) (fun c27 => ?_)
      · replace hf := ite_t c27 hf
        refine r_aload_n C (q := 33) 0 d_O_sound_32 rfl rfl rfl ?_
        refine gxx_O_sounds C (q := 36) fl_O_37 d_O_sound_33 rfl ?_
        refine r_iload_n C (q := 37) 1 d_O_sound_36 rfl rfl rfl ?_
        refine r_iload_n C (q := 38) 2 d_O_sound_37 rfl rfl rfl ?_
        obtain ⟨r38, s38, hg38, hf⟩ := bd_s hf
        refine r_cVI C (q := 41) (As := [vI v1, vI v2]) (k0 := 5) (c_x_Sounds_signAt C.i hg38) mt_Sounds_signAt ml_O_184 (Nat.le_of_ble_eq_true rfl) rfl rfl rfl rfl rfl rfl ⟨Nat.le_of_ble_eq_true rfl, Nat.le_of_ble_eq_true rfl⟩ rfl (Nat.le_of_ble_eq_true rfl) d_O_sound_38 rfl ?_
        exact r_ireturn C hf d_O_sound_41
      · replace hf := ite_f c27 hf
        refine r_iconst C (q := 31) d_O_sound_30 rfl ?_
        exact r_ireturn C hf d_O_sound_31
    · replace hf := ite_f c12 hf
      refine r_bipush C (q := 17) (x := (-2)) d_O_sound_15 rfl rfl ?_
      exact r_ireturn C hf d_O_sound_17
def x_Slips_between (N : Nat) (v1 v2 : Int) (s : St) : MM := gd (inb ((v1 * 36) + v2) 1296) (some (s 17 ((v1 * 36) + v2), s))
abbrev rm_x_Slips_between : Room := { frames := 0, cells := 0, slots := 0, locals := 0 }
theorem c_x_Slips_between {l : Launch} {G : GG} (hi : wo_i (xW G)) {N : Nat} {v1 v2 : Int} {s : St} {o : Int × St} (hf : x_Slips_between N v1 v2 s = some o) : CtI l (xW G) y_Slips_between (wo y_Slips_between prog_10_method_2_code 3 (some .int)) rm_x_Slips_between [.ref ((xW G).h 4), vI v1, vI v2] s o := by
  refine ct_I (by decide +kernel) hi (Nat.le_of_ble_eq_true rfl) fun X C => ?_
  unfold x_Slips_between at hf
  show Rj X (xW G) 3 (qI X (xW G) o) 0 [(0, .ref ((xW G).h 4)), (1, vI v1), (2, vI v2)] [] s
  refine r_aload_n C (q := 1) 0 d_Slips_between_0 rfl rfl rfl ?_
  refine gxx_Slips_counts C (q := 4) fl_Slips_9 d_Slips_between_1 rfl ?_
  refine r_iload_n C (q := 5) 1 d_Slips_between_4 rfl rfl rfl ?_
  refine r_bipush C (q := 7) (x := 36) d_Slips_between_5 rfl rfl ?_
  refine r_imul C (q := 8) d_Slips_between_7 rfl ?_
  refine r_iload_n C (q := 9) 2 d_Slips_between_8 rfl rfl rfl ?_
  refine r_iadd C (q := 10) d_Slips_between_9 rfl ?_
  obtain ⟨g10, hf⟩ := gd_s hf
  refine r_iald C (q := 11) 17 (Nat.le_of_ble_eq_true rfl) (fun _ => rfl) 0 rfl g10 (by decide) d_Slips_between_10 rfl ?_
  exact r_ireturn C hf d_Slips_between_11
def x_slips (N : Nat) (v1 v2 : Int) (s : St) : MM := bd (x_Rows_has N v1 s) (fun r5 s5 => if eq32 r5 0 then (some ((-2), s5)) else (bd (x_Rows_has N v2 s5) (fun r16 s16 => if eq32 r16 0 then (some ((-2), s16)) else (bd (x_Slips_between N v1 v2 s16) (fun r31 s31 => some (r31, s31))))))
abbrev rm_x_slips : Room := { frames := 2, cells := 0, slots := 0, locals := 42 }
theorem c_x_slips {l : Launch} {G : GG} (hi : wo_i (xW G)) {N : Nat} {v1 v2 : Int} {s : St} {o : Int × St} (hf : x_slips N v1 v2 s = some o) : CtI l (xW G) y_O_slips (wo y_O_slips prog_1_method_13_code 3 (some .int)) rm_x_slips [.ref ((xW G).h 0), vI v1, vI v2] s o := by
  refine ct_I (by decide +kernel) hi (Nat.le_of_ble_eq_true rfl) fun X C => ?_
  unfold x_slips at hf
  show Rj X (xW G) 3 (qI X (xW G) o) 0 [(0, .ref ((xW G).h 0)), (1, vI v1), (2, vI v2)] [] s
  refine r_aload_n C (q := 1) 0 d_O_slips_0 rfl rfl rfl ?_
  refine gxx_O_rows C (q := 4) fl_O_27 d_O_slips_1 rfl ?_
  refine r_iload_n C (q := 5) 1 d_O_slips_4 rfl rfl rfl ?_
  obtain ⟨r5, s5, hg5, hf⟩ := bd_s hf
  refine r_cVI C (q := 8) (As := [vI v1]) (k0 := 3) (c_x_Rows_has C.i hg5) mt_Rows_has ml_O_138 (Nat.le_of_ble_eq_true rfl) rfl rfl rfl rfl rfl rfl ⟨Nat.le_of_ble_eq_true rfl, Nat.le_of_ble_eq_true rfl⟩ rfl (Nat.le_of_ble_eq_true rfl) d_O_slips_5 rfl ?_
  refine r_if_eq C (t := 22) (q := 11) d_O_slips_8 (by decide) rfl (fun c8 => ?_) (fun c8 => ?_)
  · replace hf := ite_t c8 hf
    refine r_bipush C (q := 24) (x := (-2)) d_O_slips_22 rfl rfl ?_
    exact r_ireturn C hf d_O_slips_24
  · replace hf := ite_f c8 hf
    refine r_aload_n C (q := 12) 0 d_O_slips_11 rfl rfl rfl ?_
    refine gxx_O_rows C (q := 15) fl_O_27 d_O_slips_12 rfl ?_
    refine r_iload_n C (q := 16) 2 d_O_slips_15 rfl rfl rfl ?_
    obtain ⟨r16, s16, hg16, hf⟩ := bd_s hf
    refine r_cVI C (q := 19) (As := [vI v2]) (k0 := 3) (c_x_Rows_has C.i hg16) mt_Rows_has ml_O_138 (Nat.le_of_ble_eq_true rfl) rfl rfl rfl rfl rfl rfl ⟨Nat.le_of_ble_eq_true rfl, Nat.le_of_ble_eq_true rfl⟩ rfl (Nat.le_of_ble_eq_true rfl) d_O_slips_16 rfl ?_
    refine r_if_ne C (t := 25) (q := 22) d_O_slips_19 (by decide) rfl (fun c19 => ?_) (fun c19 => ?_)
    · replace hf := ite_t c19 hf
      refine r_bipush C (q := 24) (x := (-2)) d_O_slips_22 rfl rfl ?_
      exact r_ireturn C hf d_O_slips_24
    · replace hf := ite_f c19 hf
      refine r_aload_n C (q := 26) 0 d_O_slips_25 rfl rfl rfl ?_
      refine gxx_O_slips C (q := 29) fl_O_32 d_O_slips_26 rfl ?_
      refine r_iload_n C (q := 30) 1 d_O_slips_29 rfl rfl rfl ?_
      refine r_iload_n C (q := 31) 2 d_O_slips_30 rfl rfl rfl ?_
      obtain ⟨r31, s31, hg31, hf⟩ := bd_s hf
      refine r_cVI C (q := 34) (As := [vI v1, vI v2]) (k0 := 4) (c_x_Slips_between C.i hg31) mt_Slips_between ml_O_187 (Nat.le_of_ble_eq_true rfl) rfl rfl rfl rfl rfl rfl ⟨Nat.le_of_ble_eq_true rfl, Nat.le_of_ble_eq_true rfl⟩ rfl (Nat.le_of_ble_eq_true rfl) d_O_slips_31 rfl ?_
      exact r_ireturn C hf d_O_slips_34
def x_Rows_arePair (N : Nat) (v1 v2 : Int) (s : St) : MM := bd (x_Rows_has N v1 s) (fun r2 s2 => if eq32 r2 0 then (some (0, s2)) else (bd (x_Rows_has N v2 s2) (fun r10 s10 => if eq32 r10 0 then (some (0, s10)) else (if eq32 v1 v2 then (some (0, s10)) else (some (1, s10))))))
abbrev rm_x_Rows_arePair : Room := { frames := 2, cells := 0, slots := 0, locals := 42 }
theorem c_x_Rows_arePair {l : Launch} {G : GG} (hi : wo_i (xW G)) {N : Nat} {v1 v2 : Int} {s : St} {o : Int × St} (hf : x_Rows_arePair N v1 v2 s = some o) : CtI l (xW G) y_Rows_arePair (wo y_Rows_arePair prog_8_method_3_code 3 (some .boolean)) rm_x_Rows_arePair [.ref ((xW G).h 3), vI v1, vI v2] s o := by
  refine ct_I (by decide +kernel) hi (Nat.le_of_ble_eq_true rfl) fun X C => ?_
  unfold x_Rows_arePair at hf
  show Rj X (xW G) 3 (qI X (xW G) o) 0 [(0, .ref ((xW G).h 3)), (1, vI v1), (2, vI v2)] [] s
  refine r_aload_n C (q := 1) 0 d_Rows_arePair_0 rfl rfl rfl ?_
  refine r_iload_n C (q := 2) 1 d_Rows_arePair_1 rfl rfl rfl ?_
  obtain ⟨r2, s2, hg2, hf⟩ := bd_s hf
  refine r_cVI C (q := 5) (As := [vI v1]) (k0 := 3) (c_x_Rows_has C.i hg2) mt_Rows_has ml_Rows_29 (Nat.le_of_ble_eq_true rfl) rfl rfl rfl rfl rfl rfl ⟨Nat.le_of_ble_eq_true rfl, Nat.le_of_ble_eq_true rfl⟩ rfl (Nat.le_of_ble_eq_true rfl) d_Rows_arePair_2 rfl ?_
  refine r_if_eq C (t := 25) (q := 8) d_Rows_arePair_5 (by decide) rfl (fun c5 => ?_) (fun c5 => ?_)
  · replace hf := ite_t c5 hf
    refine r_iconst C (q := 26) d_Rows_arePair_25 rfl ?_
    exact r_zreturn C (by decide) hf d_Rows_arePair_26
  · replace hf := ite_f c5 hf
    refine r_aload_n C (q := 9) 0 d_Rows_arePair_8 rfl rfl rfl ?_
    refine r_iload_n C (q := 10) 2 d_Rows_arePair_9 rfl rfl rfl ?_
    obtain ⟨r10, s10, hg10, hf⟩ := bd_s hf
    refine r_cVI C (q := 13) (As := [vI v2]) (k0 := 3) (c_x_Rows_has C.i hg10) mt_Rows_has ml_Rows_29 (Nat.le_of_ble_eq_true rfl) rfl rfl rfl rfl rfl rfl ⟨Nat.le_of_ble_eq_true rfl, Nat.le_of_ble_eq_true rfl⟩ rfl (Nat.le_of_ble_eq_true rfl) d_Rows_arePair_10 rfl ?_
    refine r_if_eq C (t := 25) (q := 16) d_Rows_arePair_13 (by decide) rfl (fun c13 => ?_) (fun c13 => ?_)
    · replace hf := ite_t c13 hf
      refine r_iconst C (q := 26) d_Rows_arePair_25 rfl ?_
      exact r_zreturn C (by decide) hf d_Rows_arePair_26
    · replace hf := ite_f c13 hf
      refine r_iload_n C (q := 17) 1 d_Rows_arePair_16 rfl rfl rfl ?_
      refine r_iload_n C (q := 18) 2 d_Rows_arePair_17 rfl rfl rfl ?_
      refine r_ic_eq C (t := 25) (q := 21) d_Rows_arePair_18 (by decide) rfl (fun c18 => ?_) (fun c18 => ?_)
      · replace hf := ite_t c18 hf
        refine r_iconst C (q := 26) d_Rows_arePair_25 rfl ?_
        exact r_zreturn C (by decide) hf d_Rows_arePair_26
      · replace hf := ite_f c18 hf
        refine r_iconst C (q := 22) d_Rows_arePair_21 rfl ?_
        refine r_goto C (q := 26) d_Rows_arePair_22 (by decide) ?_
        exact r_zreturn C (by decide) hf d_Rows_arePair_26
