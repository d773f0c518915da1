def x_isWithin (N : Nat) (v0 v1 v2 : Int) (s : St) : MM := if lt32 v0 v1 then (some (0, s)) else (if lt32 v2 v0 then (some (0, s)) else (some (1, s)))
abbrev rm_x_isWithin : Room := { frames := 0, cells := 0, slots := 0, locals := 0 }
theorem c_x_isWithin {l : Launch} {G : GG} (hi : wo_i (xW G)) {N : Nat} {v0 v1 v2 : Int} {s : St} {o : Int × St} (hf : x_isWithin N v0 v1 v2 s = some o) : CtI l (xW G) y_O_isWithin (wo y_O_isWithin prog_1_method_43_code 3 (some .boolean)) rm_x_isWithin [vI v0, vI v1, vI v2] s o := by
  refine ct_I (by decide +kernel) hi (Nat.le_of_ble_eq_true rfl) fun X C => ?_
  unfold x_isWithin at hf
  show Rj X (xW G) 3 (qI X (xW G) o) 0 [(0, vI v0), (1, vI v1), (2, vI v2)] [] s
  refine r_iload_n C (q := 1) 0 d_O_isWithin_0 rfl rfl rfl ?_
  refine r_iload_n C (q := 2) 1 d_O_isWithin_1 rfl rfl rfl ?_
  refine r_ic_lt C (t := 14) (q := 5) d_O_isWithin_2 (by decide) rfl (fun c2 => ?_) (fun c2 => ?_)
  · replace hf := ite_t c2 hf
    refine r_iconst C (q := 15) d_O_isWithin_14 rfl ?_
    exact r_zreturn C (by decide) hf d_O_isWithin_15
  · replace hf := ite_f c2 hf
    refine r_iload_n C (q := 6) 0 d_O_isWithin_5 rfl rfl rfl ?_
    refine r_iload_n C (q := 7) 2 d_O_isWithin_6 rfl rfl rfl ?_
    refine r_ic_gt C (t := 14) (q := 10) d_O_isWithin_7 (by decide) rfl (fun c7 => ?_) (fun c7 => ?_)
    · replace hf := ite_t c7 hf
      refine r_iconst C (q := 15) d_O_isWithin_14 rfl ?_
      exact r_zreturn C (by decide) hf d_O_isWithin_15
    · replace hf := ite_f c7 hf
      refine r_iconst C (q := 11) d_O_isWithin_10 rfl ?_
      refine r_goto C (q := 15) d_O_isWithin_11 (by decide) ?_
      exact r_zreturn C (by decide) hf d_O_isWithin_15
def x_pass (N : Nat) (v1 : Int) (s : St) : MM := bd (x_isWithin N v1 1 100 s) (fun r4 s4 => if eq32 r4 0 then (some ((-2), s4)) else (if le32 ((s4 3 3) + v1) 399 then (some ((su s4 3 3 ((s4 3 3) + v1)) 3 3, su s4 3 3 ((s4 3 3) + v1))) else (some ((-2), s4))))
abbrev rm_x_pass : Room := { frames := 1, cells := 0, slots := 0, locals := 22 }
theorem c_x_pass {l : Launch} {G : GG} (hi : wo_i (xW G)) {N : Nat} {v1 : Int} {s : St} {o : Int × St} (hf : x_pass N v1 s = some o) : CtI l (xW G) y_O_pass (wo y_O_pass prog_1_method_2_code 2 (some .int)) rm_x_pass [.ref ((xW G).h 0), vI v1] s o := by
  refine ct_I (by decide +kernel) hi (Nat.le_of_ble_eq_true rfl) fun X C => ?_
  unfold x_pass at hf
  show Rj X (xW G) 2 (qI X (xW G) o) 0 [(0, .ref ((xW G).h 0)), (1, vI v1)] [] s
  refine r_iload_n C (q := 1) 1 d_O_pass_0 rfl rfl rfl ?_
  refine r_iconst C (q := 2) d_O_pass_1 rfl ?_
  refine r_bipush C (q := 4) (x := 100) d_O_pass_2 rfl rfl ?_
  obtain ⟨r4, s4, hg4, hf⟩ := bd_s hf
  refine r_cSI C (q := 7) (As := [vI v1, vI 1, vI 100]) (c_x_isWithin C.i hg4) mt_O_isWithin ml_O_78 rfl rfl rfl ⟨Nat.le_of_ble_eq_true rfl, Nat.le_of_ble_eq_true rfl⟩ rfl (Nat.le_of_ble_eq_true rfl) d_O_pass_4 rfl ?_
  refine r_if_eq C (t := 25) (q := 10) d_O_pass_7 (by decide) rfl (fun c7 => ?_) (fun c7 => ?_)
  · replace hf := ite_t c7 hf
    refine r_bipush C (q := 27) (x := (-2)) d_O_pass_25 rfl rfl ?_
    exact r_ireturn C hf d_O_pass_27
  · replace hf := ite_f c7 hf
    refine r_aload_n C (q := 11) 0 d_O_pass_10 rfl rfl rfl ?_
    refine gxx_O_rows C (q := 14) fl_O_27 d_O_pass_11 rfl ?_
    refine gnx_Rows_day C (q := 17) fn_O_82 d_O_pass_14 rfl ?_
    refine r_iload_n C (q := 18) 1 d_O_pass_17 rfl rfl rfl ?_
    refine r_iadd C (q := 19) d_O_pass_18 rfl ?_
    refine r_sipush C (q := 22) (x := 399) d_O_pass_19 rfl rfl ?_
    refine r_ic_le C (t := 28) (q := 25) d_O_pass_22 (by decide) rfl (fun c22 => ?_) (fun c22 => ?_)
    · replace hf := ite_t c22 hf
      refine r_aload_n C (q := 29) 0 d_O_pass_28 rfl rfl rfl ?_
      refine gxx_O_rows C (q := 32) fl_O_27 d_O_pass_29 rfl ?_
      refine r_dup C (q := 33) d_O_pass_32 rfl rfl ?_
      refine gnx_Rows_day C (q := 36) fn_O_82 d_O_pass_33 rfl ?_
      refine r_iload_n C (q := 37) 1 d_O_pass_36 rfl rfl rfl ?_
      refine r_iadd C (q := 38) d_O_pass_37 rfl ?_
      refine pnx_Rows_day C (q := 41) fn_O_82 d_O_pass_38 rfl ?_
      refine r_aload_n C (q := 42) 0 d_O_pass_41 rfl rfl rfl ?_
      refine gxx_O_rows C (q := 45) fl_O_27 d_O_pass_42 rfl ?_
      refine gnx_Rows_day C (q := 48) fn_O_82 d_O_pass_45 rfl ?_
      exact r_ireturn C hf d_O_pass_48
    · replace hf := ite_f c22 hf
      refine r_bipush C (q := 27) (x := (-2)) d_O_pass_25 rfl rfl ?_
      exact r_ireturn C hf d_O_pass_27
def x_isBelow (N : Nat) (v0 v1 : Int) (s : St) : MM := if lt32 v0 0 then (some (0, s)) else (if le32 v1 v0 then (some (0, s)) else (some (1, s)))
abbrev rm_x_isBelow : Room := { frames := 0, cells := 0, slots := 0, locals := 0 }
theorem c_x_isBelow {l : Launch} {G : GG} (hi : wo_i (xW G)) {N : Nat} {v0 v1 : Int} {s : St} {o : Int × St} (hf : x_isBelow N v0 v1 s = some o) : CtI l (xW G) y_O_isBelow (wo y_O_isBelow prog_1_method_44_code 2 (some .boolean)) rm_x_isBelow [vI v0, vI v1] s o := by
  refine ct_I (by decide +kernel) hi (Nat.le_of_ble_eq_true rfl) fun X C => ?_
  unfold x_isBelow at hf
  show Rj X (xW G) 2 (qI X (xW G) o) 0 [(0, vI v0), (1, vI v1)] [] s
  refine r_iload_n C (q := 1) 0 d_O_isBelow_0 rfl rfl rfl ?_
  refine r_if_lt C (t := 13) (q := 4) d_O_isBelow_1 (by decide) rfl (fun c1 => ?_) (fun c1 => ?_)
  · replace hf := ite_t c1 hf
    refine r_iconst C (q := 14) d_O_isBelow_13 rfl ?_
    exact r_zreturn C (by decide) hf d_O_isBelow_14
  · replace hf := ite_f c1 hf
    refine r_iload_n C (q := 5) 0 d_O_isBelow_4 rfl rfl rfl ?_
    refine r_iload_n C (q := 6) 1 d_O_isBelow_5 rfl rfl rfl ?_
    refine r_ic_ge C (t := 13) (q := 9) d_O_isBelow_6 (by decide) rfl (fun c6 => ?_) (fun c6 => ?_)
    · replace hf := ite_t c6 hf
      refine r_iconst C (q := 14) d_O_isBelow_13 rfl ?_
      exact r_zreturn C (by decide) hf d_O_isBelow_14
    · replace hf := ite_f c6 hf
      refine r_iconst C (q := 10) d_O_isBelow_9 rfl ?_
      refine r_goto C (q := 14) d_O_isBelow_10 (by decide) ?_
      exact r_zreturn C (by decide) hf d_O_isBelow_14
def x_Sheets_isSheet (N : Nat) (v0 : Int) (s : St) : MM := bd (x_isBelow N v0 4 s) (fun r2 s2 => gd (bit1 r2) (some (r2, s2)))
abbrev rm_x_Sheets_isSheet : Room := { frames := 1, cells := 0, slots := 0, locals := 21 }
theorem c_x_Sheets_isSheet {l : Launch} {G : GG} (hi : wo_i (xW G)) {N : Nat} {v0 : Int} {s : St} {o : Int × St} (hf : x_Sheets_isSheet N v0 s = some o) : CtI l (xW G) y_Sheets_isSheet (wo y_Sheets_isSheet prog_9_method_2_code 1 (some .boolean)) rm_x_Sheets_isSheet [vI v0] s o := by
  refine ct_I (by decide +kernel) hi (Nat.le_of_ble_eq_true rfl) fun X C => ?_
  unfold x_Sheets_isSheet at hf
  show Rj X (xW G) 1 (qI X (xW G) o) 0 [(0, vI v0)] [] s
  refine r_iload_n C (q := 1) 0 d_Sheets_isSheet_0 rfl rfl rfl ?_
  refine r_iconst C (q := 2) d_Sheets_isSheet_1 rfl ?_
  obtain ⟨r2, s2, hg2, hf⟩ := bd_s hf
  refine r_cTI C (q := 5) (As := [vI v0, vI 4]) (c_x_isBelow C.i hg2) mt_O_isBelow mn_Sheets_27 rfl rfl rfl ⟨Nat.le_of_ble_eq_true rfl, Nat.le_of_ble_eq_true rfl⟩ rfl (Nat.le_of_ble_eq_true rfl) d_Sheets_isSheet_2 rfl ?_
  obtain ⟨g5, hf⟩ := gd_s hf
  exact r_zreturn C g5 hf d_Sheets_isSheet_5
def x_areFacts_45 (N : Nat) (s : St) : MM := some (1, s)
def x_areFacts_32 (N : Nat) (v2 : Int) (s : St) : MM := if eq32 v2 ((-1)) then (x_areFacts_45 N   s) else (bd (x_isBelow N v2 2 s) (fun r39 s39 => if eq32 r39 0 then (some (0, s39)) else (x_areFacts_45 N   s39)))
def x_areFacts_18 (N : Nat) (v1 v2 : Int) (s : St) : MM := if eq32 v1 ((-1)) then (x_areFacts_32 N v2  s) else (bd (x_isBelow N v1 8 s) (fun r26 s26 => if eq32 r26 0 then (some (0, s26)) else (x_areFacts_32 N v2  s26)))
def x_areFacts (N : Nat) (v0 v1 v2 : Int) (s : St) : MM := if eq32 v0 ((-1)) then (x_areFacts_18 N v1 v2  s) else (bd (x_isWithin N v0 1500 1999 s) (fun r12 s12 => if eq32 r12 0 then (some (0, s12)) else (x_areFacts_18 N v1 v2  s12)))
abbrev rm_x_areFacts : Room := { frames := 1, cells := 0, slots := 0, locals := 22 }
theorem s_x_areFacts_45 {X : CxT} {l : Launch} {G : GG} (C : Cx X l (xW G) 3 prog_1_method_47_code "OneSelf" (wo y_O_areFacts prog_1_method_47_code 3 (some .boolean)) (some .boolean) rm_x_areFacts) {o : Int × St} {N : Nat} {s : St} (hf : x_areFacts_45 N  s = some o) : Rj X (xW G) 3 (qI X (xW G) o) 45 [] [] s := by
  unfold x_areFacts_45 at hf
  refine r_iconst C (q := 46) d_O_areFacts_45 rfl ?_
  refine r_goto C (q := 50) d_O_areFacts_46 (by decide) ?_
  exact r_zreturn C (by decide) hf d_O_areFacts_50
theorem s_x_areFacts_32 {X : CxT} {l : Launch} {G : GG} (C : Cx X l (xW G) 3 prog_1_method_47_code "OneSelf" (wo y_O_areFacts prog_1_method_47_code 3 (some .boolean)) (some .boolean) rm_x_areFacts) {o : Int × St} {N : Nat} {v2 : Int} {s : St} (hf : x_areFacts_32 N v2 s = some o) : Rj X (xW G) 3 (qI X (xW G) o) 32 [(2, vI v2)] [] s := by
  unfold x_areFacts_32 at hf
  refine r_iload_n C (q := 33) 0 d_O_areFacts_32 rfl rfl rfl ?_
  refine r_iconst C (q := 34) d_O_areFacts_33 rfl ?_
  refine r_ic_eq C (t := 45) (q := 37) d_O_areFacts_34 (by decide) rfl (fun c34 => ?_) (fun c34 => ?_)
  · replace hf := ite_t c34 hf
    exact r_sub [] rfl (s_x_areFacts_45 C hf)
  · replace hf := ite_f c34 hf
    refine r_iload_n C (q := 38) 0 d_O_areFacts_37 rfl rfl rfl ?_
    refine r_iconst C (q := 39) d_O_areFacts_38 rfl ?_
    obtain ⟨r39, s39, hg39, hf⟩ := bd_s hf
    refine r_cSI C (q := 42) (As := [vI v2, vI 2]) (c_x_isBelow C.i hg39) mt_O_isBelow ml_O_88 rfl rfl rfl ⟨Nat.le_of_ble_eq_true rfl, Nat.le_of_ble_eq_true rfl⟩ rfl (Nat.le_of_ble_eq_true rfl) d_O_areFacts_39 rfl ?_
    refine r_if_eq C (t := 49) (q := 45) d_O_areFacts_42 (by decide) rfl (fun c42 => ?_) (fun c42 => ?_)
    · replace hf := ite_t c42 hf
      refine r_iconst C (q := 50) d_O_areFacts_49 rfl ?_
      exact r_zreturn C (by decide) hf d_O_areFacts_50
    · replace hf := ite_f c42 hf
      exact r_sub [] rfl (s_x_areFacts_45 C hf)
theorem s_x_areFacts_18 {X : CxT} {l : Launch} {G : GG} (C : Cx X l (xW G) 3 prog_1_method_47_code "OneSelf" (wo y_O_areFacts prog_1_method_47_code 3 (some .boolean)) (some .boolean) rm_x_areFacts) {o : Int × St} {N : Nat} {v1 v2 : Int} {s : St} (hf : x_areFacts_18 N v1 v2 s = some o) : Rj X (xW G) 3 (qI X (xW G) o) 18 [(1, vI v1), (2, vI v2)] [] s := by
  unfold x_areFacts_18 at hf
  refine r_iload_n C (q := 19) 0 d_O_areFacts_18 rfl rfl rfl ?_
  refine r_iconst C (q := 20) d_O_areFacts_19 rfl ?_
  refine r_ic_eq C (t := 32) (q := 23) d_O_areFacts_20 (by decide) rfl (fun c20 => ?_) (fun c20 => ?_)
  · replace hf := ite_t c20 hf
    exact r_sub [1] rfl (s_x_areFacts_32 C hf)
  · replace hf := ite_f c20 hf
    refine r_iload_n C (q := 24) 0 d_O_areFacts_23 rfl rfl rfl ?_
    refine r_bipush C (q := 26) (x := 8) d_O_areFacts_24 rfl rfl ?_
    obtain ⟨r26, s26, hg26, hf⟩ := bd_s hf
    refine r_cSI C (q := 29) (As := [vI v1, vI 8]) (c_x_isBelow C.i hg26) mt_O_isBelow ml_O_88 rfl rfl rfl ⟨Nat.le_of_ble_eq_true rfl, Nat.le_of_ble_eq_true rfl⟩ rfl (Nat.le_of_ble_eq_true rfl) d_O_areFacts_26 rfl ?_
    refine r_if_eq C (t := 49) (q := 32) d_O_areFacts_29 (by decide) rfl (fun c29 => ?_) (fun c29 => ?_)
    · replace hf := ite_t c29 hf
      refine r_iconst C (q := 50) d_O_areFacts_49 rfl ?_
      exact r_zreturn C (by decide) hf d_O_areFacts_50
    · replace hf := ite_f c29 hf
      exact r_sub [1] rfl (s_x_areFacts_32 C hf)
theorem c_x_areFacts {l : Launch} {G : GG} (hi : wo_i (xW G)) {N : Nat} {v0 v1 v2 : Int} {s : St} {o : Int × St} (hf : x_areFacts N v0 v1 v2 s = some o) : CtI l (xW G) y_O_areFacts (wo y_O_areFacts prog_1_method_47_code 3 (some .boolean)) rm_x_areFacts [vI v0, vI v1, vI v2] s o := by
  refine ct_I (by decide +kernel) hi (Nat.le_of_ble_eq_true rfl) fun X C => ?_
  unfold x_areFacts at hf
  show Rj X (xW G) 3 (qI X (xW G) o) 0 [(0, vI v0), (1, vI v1), (2, vI v2)] [] s
  refine r_iload_n C (q := 1) 0 d_O_areFacts_0 rfl rfl rfl ?_
  refine r_iconst C (q := 2) d_O_areFacts_1 rfl ?_
  refine r_ic_eq C (t := 18) (q := 5) d_O_areFacts_2 (by decide) rfl (fun c2 => ?_) (fun c2 => ?_)
  · replace hf := ite_t c2 hf
    exact r_sub [1, 2] rfl (s_x_areFacts_18 C hf)
  · replace hf := ite_f c2 hf
    refine r_iload_n C (q := 6) 0 d_O_areFacts_5 rfl rfl rfl ?_
    refine r_sipush C (q := 9) (x := 1500) d_O_areFacts_6 rfl rfl ?_
    refine r_sipush C (q := 12) (x := 1999) d_O_areFacts_9 rfl rfl ?_
    obtain ⟨r12, s12, hg12, hf⟩ := bd_s hf
    refine r_cSI C (q := 15) (As := [vI v0, vI 1500, vI 1999]) (c_x_isWithin C.i hg12) mt_O_isWithin ml_O_78 rfl rfl rfl ⟨Nat.le_of_ble_eq_true rfl, Nat.le_of_ble_eq_true rfl⟩ rfl (Nat.le_of_ble_eq_true rfl) d_O_areFacts_12 rfl ?_
    refine r_if_eq C (t := 49) (q := 18) d_O_areFacts_15 (by decide) rfl (fun c15 => ?_) (fun c15 => ?_)
    · replace hf := ite_t c15 hf
      refine r_iconst C (q := 50) d_O_areFacts_49 rfl ?_
      exact r_zreturn C (by decide) hf d_O_areFacts_50
    · replace hf := ite_f c15 hf
      exact r_sub [1, 2] rfl (s_x_areFacts_18 C hf)
def x_Sheets_isLost (N : Nat) (v1 : Int) (s : St) : MM := gd (inb v1 4) (if eq32 (s 12 v1) ((-1)) then (some (1, s)) else (some (0, s)))
abbrev rm_x_Sheets_isLost : Room := { frames := 0, cells := 0, slots := 0, locals := 0 }
theorem c_x_Sheets_isLost {l : Launch} {G : GG} (hi : wo_i (xW G)) {N : Nat} {v1 : Int} {s : St} {o : Int × St} (hf : x_Sheets_isLost N v1 s = some o) : CtI l (xW G) y_Sheets_isLost (wo y_Sheets_isLost prog_9_method_4_code 2 (some .boolean)) rm_x_Sheets_isLost [.ref ((xW G).h 1), vI v1] s o := by
  refine ct_I (by decide +kernel) hi (Nat.le_of_ble_eq_true rfl) fun X C => ?_
  unfold x_Sheets_isLost at hf
  show Rj X (xW G) 2 (qI X (xW G) o) 0 [(0, .ref ((xW G).h 1)), (1, vI v1)] [] s
  refine r_aload_n C (q := 1) 0 d_Sheets_isLost_0 rfl rfl rfl ?_
  refine gxx_Sheets_types C (q := 4) fl_Sheets_11 d_Sheets_isLost_1 rfl ?_
  refine r_iload_n C (q := 5) 1 d_Sheets_isLost_4 rfl rfl rfl ?_
  obtain ⟨g5, hf⟩ := gd_s hf
  refine r_iald C (q := 6) 12 (Nat.le_of_ble_eq_true rfl) (fun _ => rfl) 0 rfl g5 (by decide) d_Sheets_isLost_5 rfl ?_
  refine r_iconst C (q := 7) d_Sheets_isLost_6 rfl ?_
  refine r_ic_ne C (t := 14) (q := 10) d_Sheets_isLost_7 (by decide) rfl (fun c7 => ?_) (fun c7 => ?_)
  · replace hf := ite_t c7 hf
    refine r_iconst C (q := 11) d_Sheets_isLost_10 rfl ?_
    refine r_goto C (q := 15) d_Sheets_isLost_11 (by decide) ?_
    exact r_zreturn C (by decide) hf d_Sheets_isLost_15
  · replace hf := ite_f c7 hf
    refine r_iconst C (q := 15) d_Sheets_isLost_14 rfl ?_
    exact r_zreturn C (by decide) hf d_Sheets_isLost_15
def x_Sheets_hasItems (N : Nat) (v1 v2 v3 : Int) (s : St) : MM := if lt32 v2 0 then (some (0, s)) else (if lt32 v3 0 then (some (0, s)) else (gd (inb v1 4) (if lt32 ((s 13 v1) - v3) v2 then (some (0, s)) else (some (1, s)))))
abbrev rm_x_Sheets_hasItems : Room := { frames := 0, cells := 0, slots := 0, locals := 0 }
theorem c_x_Sheets_hasItems {l : Launch} {G : GG} (hi : wo_i (xW G)) {N : Nat} {v1 v2 v3 : Int} {s : St} {o : Int × St} (hf : x_Sheets_hasItems N v1 v2 v3 s = some o) : CtI l (xW G) y_Sheets_hasItems (wo y_Sheets_hasItems prog_9_method_7_code 4 (some .boolean)) rm_x_Sheets_hasItems [.ref ((xW G).h 1), vI v1, vI v2, vI v3] s o := by
  refine ct_I (by decide +kernel) hi (Nat.le_of_ble_eq_true rfl) fun X C => ?_
  unfold x_Sheets_hasItems at hf
  show Rj X (xW G) 4 (qI X (xW G) o) 0 [(0, .ref ((xW G).h 1)), (1, vI v1), (2, vI v2), (3, vI v3)] [] s
  refine r_iload_n C (q := 1) 2 d_Sheets_hasItems_0 rfl rfl rfl ?_
  refine r_if_lt C (t := 24) (q := 4) d_Sheets_hasItems_1 (by decide) rfl (fun c1 => ?_) (fun c1 => ?_)
  · replace hf := ite_t c1 hf
    refine r_iconst C (q := 25) d_Sheets_hasItems_24 rfl ?_
    exact r_zreturn C (by decide) hf d_Sheets_hasItems_25
  · replace hf := ite_f c1 hf
    refine r_iload_n C (q := 5) 3 d_Sheets_hasItems_4 rfl rfl rfl ?_
    refine r_if_lt C (t := 24) (q := 8) d_Sheets_hasItems_5 (by decide) rfl (fun c5 => ?_) (fun c5 => ?_)
    · replace hf := ite_t c5 hf
      refine r_iconst C (q := 25) d_Sheets_hasItems_24 rfl ?_
      exact r_zreturn C (by decide) hf d_Sheets_hasItems_25
    · replace hf := ite_f c5 hf
      refine r_iload_n C (q := 9) 2 d_Sheets_hasItems_8 rfl rfl rfl ?_
      refine r_aload_n C (q := 10) 0 d_Sheets_hasItems_9 rfl rfl rfl ?_
      refine gxx_Sheets_sizes C (q := 13) fl_Sheets_15 d_Sheets_hasItems_10 rfl ?_
      refine r_iload_n C (q := 14) 1 d_Sheets_hasItems_13 rfl rfl rfl ?_
      obtain ⟨g14, hf⟩ := gd_s hf
      refine r_iald C (q := 15) 13 (Nat.le_of_ble_eq_true rfl) (fun _ => rfl) 0 rfl g14 (by decide) d_Sheets_hasItems_14 rfl ?_
      refine r_iload_n C (q := 16) 3 d_Sheets_hasItems_15 rfl rfl rfl ?_
      refine r_isub C (q := 17) d_Sheets_hasItems_16 rfl ?_
      refine r_ic_gt C (t := 24) (q := 20) d_Sheets_hasItems_17 (by decide) rfl (fun c17 => ?_) (fun c17 => ?_)
      · replace hf := ite_t c17 hf
        refine r_iconst C (q := 25) d_Sheets_hasItems_24 rfl ?_
        exact r_zreturn C (by decide) hf d_Sheets_hasItems_25
      · replace hf := ite_f c17 hf
        refine r_iconst C (q := 21) d_Sheets_hasItems_20 rfl ?_
        refine r_goto C (q := 25) d_Sheets_hasItems_21 (by decide) ?_
        exact r_zreturn C (by decide) hf d_Sheets_hasItems_25
def x_Sheets_noteFinding (N : Nat) (v1 : Int) (s : St) : MM := some (((-10)) - v1, su s 1 3 v1)
abbrev rm_x_Sheets_noteFinding : Room := { frames := 0, cells := 0, slots := 0, locals := 0 }
theorem c_x_Sheets_noteFinding {l : Launch} {G : GG} (hi : wo_i (xW G)) {N : Nat} {v1 : Int} {s : St} {o : Int × St} (hf : x_Sheets_noteFinding N v1 s = some o) : CtI l (xW G) y_Sheets_noteFinding (wo y_Sheets_noteFinding prog_9_method_10_code 2 (some .int)) rm_x_Sheets_noteFinding [.ref ((xW G).h 1), vI v1] s o := by
  refine ct_I (by decide +kernel) hi (Nat.le_of_ble_eq_true rfl) fun X C => ?_
  unfold x_Sheets_noteFinding at hf
  show Rj X (xW G) 2 (qI X (xW G) o) 0 [(0, .ref ((xW G).h 1)), (1, vI v1)] [] s
  refine r_aload_n C (q := 1) 0 d_Sheets_noteFinding_0 rfl rfl rfl ?_
  refine r_iload_n C (q := 2) 1 d_Sheets_noteFinding_1 rfl rfl rfl ?_
  refine pxx_Sheets_latest C (q := 5) fl_Sheets_42 d_Sheets_noteFinding_2 rfl ?_
  refine r_bipush C (q := 7) (x := (-10)) d_Sheets_noteFinding_5 rfl rfl ?_
  refine r_iload_n C (q := 8) 1 d_Sheets_noteFinding_7 rfl rfl rfl ?_
  refine r_isub C (q := 9) d_Sheets_noteFinding_8 rfl ?_
  exact r_ireturn C hf d_Sheets_noteFinding_9
def x_Sheets_itemAt (N : Nat) (v1 v2 : Int) (s : St) : MM := gd (inb ((v1 * 40) + v2) 160) (some (s 14 ((v1 * 40) + v2), s))
abbrev rm_x_Sheets_itemAt : Room := { frames := 0, cells := 0, slots := 0, locals := 0 }
theorem c_x_Sheets_itemAt {l : Launch} {G : GG} (hi : wo_i (xW G)) {N : Nat} {v1 v2 : Int} {s : St} {o : Int × St} (hf : x_Sheets_itemAt N v1 v2 s = some o) : CtI l (xW G) y_Sheets_itemAt (wo y_Sheets_itemAt prog_9_method_11_code 3 (some .int)) rm_x_Sheets_itemAt [.ref ((xW G).h 1), vI v1, vI v2] s o := by
  refine ct_I (by decide +kernel) hi (Nat.le_of_ble_eq_true rfl) fun X C => ?_
  unfold x_Sheets_itemAt at hf
  show Rj X (xW G) 3 (qI X (xW G) o) 0 [(0, .ref ((xW G).h 1)), (1, vI v1), (2, vI v2)] [] s
  refine r_aload_n C (q := 1) 0 d_Sheets_itemAt_0 rfl rfl rfl ?_
  refine gxx_Sheets_items C (q := 4) fl_Sheets_18 d_Sheets_itemAt_1 rfl ?_
  refine r_iload_n C (q := 5) 1 d_Sheets_itemAt_4 rfl rfl rfl ?_
  refine r_bipush C (q := 7) (x := 40) d_Sheets_itemAt_5 rfl rfl ?_
  refine r_imul C (q := 8) d_Sheets_itemAt_7 rfl ?_
  refine r_iload_n C (q := 9) 2 d_Sheets_itemAt_8 rfl rfl rfl ?_
  refine r_iadd C (q := 10) d_Sheets_itemAt_9 rfl ?_
  obtain ⟨g10, hf⟩ := gd_s hf
  refine r_iald C (q := 11) 14 (Nat.le_of_ble_eq_true rfl) (fun _ => rfl) 0 rfl g10 (by decide) d_Sheets_itemAt_10 rfl ?_
  exact r_ireturn C hf d_Sheets_itemAt_11
def x_isLetter (N : Nat) (v0 : Int) (s : St) : MM := bd (x_isWithin N v0 97 122 s) (fun r5 s5 => gd (bit1 r5) (some (r5, s5)))
abbrev rm_x_isLetter : Room := { frames := 1, cells := 0, slots := 0, locals := 22 }
theorem c_x_isLetter {l : Launch} {G : GG} (hi : wo_i (xW G)) {N : Nat} {v0 : Int} {s : St} {o : Int × St} (hf : x_isLetter N v0 s = some o) : CtI l (xW G) y_O_isLetter (wo y_O_isLetter prog_1_method_45_code 1 (some .boolean)) rm_x_isLetter [vI v0] s o := by
  refine ct_I (by decide +kernel) hi (Nat.le_of_ble_eq_true rfl) fun X C => ?_
  unfold x_isLetter at hf
  show Rj X (xW G) 1 (qI X (xW G) o) 0 [(0, vI v0)] [] s
  refine r_iload_n C (q := 1) 0 d_O_isLetter_0 rfl rfl rfl ?_
  refine r_bipush C (q := 3) (x := 97) d_O_isLetter_1 rfl rfl ?_
  refine r_bipush C (q := 5) (x := 122) d_O_isLetter_3 rfl rfl ?_
  obtain ⟨r5, s5, hg5, hf⟩ := bd_s hf
  refine r_cSI C (q := 8) (As := [vI v0, vI 97, vI 122]) (c_x_isWithin C.i hg5) mt_O_isWithin ml_O_78 rfl rfl rfl ⟨Nat.le_of_ble_eq_true rfl, Nat.le_of_ble_eq_true rfl⟩ rfl (Nat.le_of_ble_eq_true rfl) d_O_isLetter_5 rfl ?_
  obtain ⟨g8, hf⟩ := gd_s hf
  exact r_zreturn C g8 hf d_O_isLetter_8
def x_Sheets_areLetters_3 (N : Nat) (v1 v2 v3 : Int) (k3 : Int → St → MM) (v4 : Int) (s : St) : MM := if le32 v3 v4 then (some (1, s)) else (bd (x_Sheets_itemAt N v1 (v2 + v4) s) (fun r15 s15 => bd (x_isLetter N r15 s15) (fun r18 s18 => if eq32 r18 0 then (some (0, s18)) else (k3 (v4 + 1) s18))))
def x_Sheets_areLetters (N : Nat) (v1 v2 v3 : Int) (s : St) : MM := itr (x_Sheets_areLetters_3 N v1 v2 v3) (fun _ _ => none) N 0 s
abbrev rm_x_Sheets_areLetters : Room := { frames := 2, cells := 0, slots := 0, locals := 42 }
theorem s_x_Sheets_areLetters_3 {X : CxT} {l : Launch} {G : GG} (C : Cx X l (xW G) 5 prog_9_method_8_code "OneSelf$Sheets" (wo y_Sheets_areLetters prog_9_method_8_code 5 (some .boolean)) (some .boolean) rm_x_Sheets_areLetters) {o : Int × St} {N : Nat} {v1 v2 v3 v4 : Int} {k3 : Int → St → MM} (hk3 : ∀ (u4 : Int) (s : St), k3 u4 s = some o → Rj X (xW G) 5 (qI X (xW G) o) 3 [(0, .ref ((xW G).h 1)), (1, vI v1), (2, vI v2), (3, vI v3), (4, vI u4)] [] s) {s : St} (hf : x_Sheets_areLetters_3 N v1 v2 v3 k3 v4 s = some o) : Rj X (xW G) 5 (qI X (xW G) o) 3 [(0, .ref ((xW G).h 1)), (1, vI v1), (2, vI v2), (3, vI v3), (4, vI v4)] [] s := by
  unfold x_Sheets_areLetters_3 at hf
  refine r_iload C (q := 5) 4 d_Sheets_areLetters_3 rfl rfl ?_
  refine r_iload_n C (q := 6) 3 d_Sheets_areLetters_5 rfl rfl rfl ?_
  refine r_ic_ge C (t := 32) (q := 9) d_Sheets_areLetters_6 (by decide) rfl (fun c6 => ?_) (fun c6 => ?_)
  · replace hf := ite_t c6 hf
    refine r_iconst C (q := 33) d_Sheets_areLetters_32 rfl ?_
    exact r_zreturn C (by decide) hf d_Sheets_areLetters_33
  · replace hf := ite_f c6 hf
    refine r_aload_n C (q := 10) 0 d_Sheets_areLetters_9 rfl rfl rfl ?_
    refine r_iload_n C (q := 11) 1 d_Sheets_areLetters_10 rfl rfl rfl ?_
    refine r_iload_n C (q := 12) 2 d_Sheets_areLetters_11 rfl rfl rfl ?_
    refine r_iload C (q := 14) 4 d_Sheets_areLetters_12 rfl rfl ?_
    refine r_iadd C (q := 15) d_Sheets_areLetters_14 rfl ?_
    obtain ⟨r15, s15, hg15, hf⟩ := bd_s hf
    refine r_cVI C (q := 18) (As := [vI v1, vI (v2 + v4)]) (k0 := 1) (c_x_Sheets_itemAt C.i hg15) mt_Sheets_itemAt ml_Sheets_31 (Nat.le_of_ble_eq_true rfl) rfl rfl rfl rfl rfl rfl ⟨Nat.le_of_ble_eq_true rfl, Nat.le_of_ble_eq_true rfl⟩ rfl (Nat.le_of_ble_eq_true rfl) d_Sheets_areLetters_15 rfl ?_
    obtain ⟨r18, s18, hg18, hf⟩ := bd_s hf
    refine r_cTI C (q := 21) (As := [vI r15]) (c_x_isLetter C.i hg18) mt_O_isLetter mn_Sheets_35 rfl rfl rfl ⟨Nat.le_of_ble_eq_true rfl, Nat.le_of_ble_eq_true rfl⟩ rfl (Nat.le_of_ble_eq_true rfl) d_Sheets_areLetters_18 rfl ?_
    refine r_if_ne C (t := 26) (q := 24) d_Sheets_areLetters_21 (by decide) rfl (fun c21 => ?_) (fun c21 => ?_)
    · replace hf := ite_t c21 hf
      refine r_iconst C (q := 25) d_Sheets_areLetters_24 rfl ?_
      exact r_zreturn C (by decide) hf d_Sheets_areLetters_25
    · replace hf := ite_f c21 hf
      refine r_iinc C (q := 29) (lv' := [(4, vI (v4 + 1)), (0, .ref ((xW G).h 1)), (1, vI v1), (2, vI v2), (3, vI v3)]) 4 d_Sheets_areLetters_26 rfl (by decide) rfl rfl ?_
      refine r_goto C (q := 3) d_Sheets_areLetters_29 (by decide) ?_
      exact r_sub [1, 2, 3, 4, 0] rfl (hk3 _ _  hf)
theorem c_x_Sheets_areLetters {l : Launch} {G : GG} (hi : wo_i (xW G)) {N : Nat} {v1 v2 v3 : Int} {s : St} {o : Int × St} (hf : x_Sheets_areLetters N v1 v2 v3 s = some o) : CtI l (xW G) y_Sheets_areLetters (wo y_Sheets_areLetters prog_9_method_8_code 5 (some .boolean)) rm_x_Sheets_areLetters [.ref ((xW G).h 1), vI v1, vI v2, vI v3] s o := by
  refine ct_I (by decide +kernel) hi (Nat.le_of_ble_eq_true rfl) fun X C => ?_
  unfold x_Sheets_areLetters at hf
  show Rj X (xW G) 5 (qI X (xW G) o) 0 [(0, .ref ((xW G).h 1)), (1, vI v1), (2, vI v2), (3, vI v3)] [] s
  refine r_iconst C (q := 1) d_Sheets_areLetters_0 rfl ?_
  refine r_istore C (q := 3) (lv' := [(4, vI 0), (0, .ref ((xW G).h 1)), (1, vI v1), (2, vI v2), (3, vI v3)]) d_Sheets_areLetters_1 (by decide) rfl rfl ?_
  have hL : ∀ (u4 : Int) (z : St), itr (x_Sheets_areLetters_3 N v1 v2 v3) (fun _ _ => none) N u4 z = some o → Rj X (xW G) 5 (qI X (xW G) o) 3 [(0, .ref ((xW G).h 1)), (1, vI v1), (2, vI v2), (3, vI v3), (4, vI u4)] [] z := itr_ind (x_Sheets_areLetters_3 N v1 v2 v3) (fun _ _ => none) (fun k => ∀ (u4 : Int) (z : St), k u4 z = some o → Rj X (xW G) 5 (qI X (xW G) o) 3 [(0, .ref ((xW G).h 1)), (1, vI v1), (2, vI v2), (3, vI v3), (4, vI u4)] [] z) (fun _ _  h => by cases h) (fun k hk u4 z h => s_x_Sheets_areLetters_3 C hk h) N
  exact r_sub [1, 2, 3, 4, 0] rfl (hL _ _  hf)
def x_Rows_add (N : Nat) (v1 v2 v3 v4 : Int) (s : St) : MM := gd (inb (((s 3 2) * 7) + 0) 252) (gd (inb (((s 3 2) * 7) + 1) 252) (gd (inb (((s 3 2) * 7) + 2) 252) (gd (inb (((s 3 2) * 7) + 3) 252) (gd (inb (((s 3 2) * 7) + 4) 252) (gd (inb (((s 3 2) * 7) + 5) 252) (gd (inb (((s 3 2) * 7) + 6) 252) (some (0, su (su (su (su (su (su (su (su s 15 (((s 3 2) * 7) + 0) v1) 15 (((s 3 2) * 7) + 1) v2) 15 (((s 3 2) * 7) + 2) v3) 15 (((s 3 2) * 7) + 3) v4) 15 (((s 3 2) * 7) + 4) 0) 15 (((s 3 2) * 7) + 5) ((su (su (su (su (su s 15 (((s 3 2) * 7) + 0) v1) 15 (((s 3 2) * 7) + 1) v2) 15 (((s 3 2) * 7) + 2) v3) 15 (((s 3 2) * 7) + 3) v4) 15 (((s 3 2) * 7) + 4) 0) 3 3)) 15 (((s 3 2) * 7) + 6) ((-1))) 3 2 (((su (su (su (su (su (su (su s 15 (((s 3 2) * 7) + 0) v1) 15 (((s 3 2) * 7) + 1) v2) 15 (((s 3 2) * 7) + 2) v3) 15 (((s 3 2) * 7) + 3) v4) 15 (((s 3 2) * 7) + 4) 0) 15 (((s 3 2) * 7) + 5) ((su (su (su (su (su s 15 (((s 3 2) * 7) + 0) v1) 15 (((s 3 2) * 7) + 1) v2) 15 (((s 3 2) * 7) + 2) v3) 15 (((s 3 2) * 7) + 3) v4) 15 (((s 3 2) * 7) + 4) 0) 3 3)) 15 (((s 3 2) * 7) + 6) ((-1))) 3 2) + 1)))))))))
abbrev rm_x_Rows_add : Room := { frames := 0, cells := 0, slots := 0, locals := 0 }
theorem c_x_Rows_add {l : Launch} {G : GG} (hi : wo_i (xW G)) {N : Nat} {v1 v2 v3 v4 : Int} {s : St} {o : Int × St} (hf : x_Rows_add N v1 v2 v3 v4 s = some o) : CtV l (xW G) y_Rows_add (wo y_Rows_add prog_8_method_4_code 6 none) rm_x_Rows_add [.ref ((xW G).h 3), vI v1, vI v2, vI v3, vI v4] s o := by
  refine ct_V (by decide +kernel) hi (Nat.le_of_ble_eq_true rfl) fun X C => ?_
  unfold x_Rows_add at hf
  show Rj X (xW G) 6 (qV X (xW G) o) 0 [(0, .ref ((xW G).h 3)), (1, vI v1), (2, vI v2), (3, vI v3), (4, vI v4)] [] s
  refine r_aload_n C (q := 1) 0 d_Rows_add_0 rfl rfl rfl ?_
  refine gxx_Rows_many C (q := 4) fl_Rows_22 d_Rows_add_1 rfl ?_
  refine r_bipush C (q := 6) (x := 7) d_Rows_add_4 rfl rfl ?_
  refine r_imul C (q := 7) d_Rows_add_6 rfl ?_
  refine r_istore C (q := 9) (lv' := [(5, vI ((s 3 2) * 7)), (0, .ref ((xW G).h 3)), (1, vI v1), (2, vI v2), (3, vI v3), (4, vI v4)]) d_Rows_add_7 (by decide) rfl rfl ?_
  refine r_aload_n C (q := 10) 1 d_Rows_add_9 rfl rfl rfl ?_
  refine gxx_Rows_facts C (q := 13) fl_Rows_9 d_Rows_add_10 rfl ?_
  refine r_iload C (q := 15) 0 d_Rows_add_13 rfl rfl ?_
  refine r_iconst C (q := 16) d_Rows_add_15 rfl ?_
  refine r_iadd C (q := 17) d_Rows_add_16 rfl ?_
  refine r_iload_n C (q := 18) 2 d_Rows_add_17 rfl rfl rfl ?_
  obtain ⟨g18, hf⟩ := gd_s hf
  refine r_iast C (q := 19) 15 (Nat.le_of_ble_eq_true rfl) (fun _ => rfl) 0 rfl g18 (by decide) d_Rows_add_18 rfl ?_
  refine r_aload_n C (q := 20) 1 d_Rows_add_19 rfl rfl rfl ?_
  refine gxx_Rows_facts C (q := 23) fl_Rows_9 d_Rows_add_20 rfl ?_
  refine r_iload C (q := 25) 0 d_Rows_add_23 rfl rfl ?_
  refine r_iconst C (q := 26) d_Rows_add_25 rfl ?_
  refine r_iadd C (q := 27) d_Rows_add_26 rfl ?_
  refine r_iload_n C (q := 28) 3 d_Rows_add_27 rfl rfl rfl ?_
  obtain ⟨g28, hf⟩ := gd_s hf
  refine r_iast C (q := 29) 15 (Nat.le_of_ble_eq_true rfl) (fun _ => rfl) 0 rfl g28 (by decide) d_Rows_add_28 rfl ?_
  refine r_aload_n C (q := 30) 1 d_Rows_add_29 rfl rfl rfl ?_
  refine gxx_Rows_facts C (q := 33) fl_Rows_9 d_Rows_add_30 rfl ?_
  refine r_iload C (q := 35) 0 d_Rows_add_33 rfl rfl ?_
  refine r_iconst C (q := 36) d_Rows_add_35 rfl ?_
  refine r_iadd C (q := 37) d_Rows_add_36 rfl ?_
  refine r_iload_n C (q := 38) 4 d_Rows_add_37 rfl rfl rfl ?_
  obtain ⟨g38, hf⟩ := gd_s hf
  refine r_iast C (q := 39) 15 (Nat.le_of_ble_eq_true rfl) (fun _ => rfl) 0 rfl g38 (by decide) d_Rows_add_38 rfl ?_
  refine r_aload_n C (q := 40) 1 d_Rows_add_39 rfl rfl rfl ?_
  refine gxx_Rows_facts C (q := 43) fl_Rows_9 d_Rows_add_40 rfl ?_
  refine r_iload C (q := 45) 0 d_Rows_add_43 rfl rfl ?_
  refine r_iconst C (q := 46) d_Rows_add_45 rfl ?_
  refine r_iadd C (q := 47) d_Rows_add_46 rfl ?_
  refine r_iload C (q := 49) 5 d_Rows_add_47 rfl rfl ?_
  obtain ⟨g49, hf⟩ := gd_s hf
  refine r_iast C (q := 50) 15 (Nat.le_of_ble_eq_true rfl) (fun _ => rfl) 0 rfl g49 (by decide) d_Rows_add_49 rfl ?_
  refine r_aload_n C (q := 51) 1 d_Rows_add_50 rfl rfl rfl ?_
  refine gxx_Rows_facts C (q := 54) fl_Rows_9 d_Rows_add_51 rfl ?_
  refine r_iload C (q := 56) 0 d_Rows_add_54 rfl rfl ?_
  refine r_iconst C (q := 57) d_Rows_add_56 rfl ?_
  refine r_iadd C (q := 58) d_Rows_add_57 rfl ?_
  refine r_iconst C (q := 59) d_Rows_add_58 rfl ?_
  obtain ⟨g59, hf⟩ := gd_s hf
  refine r_iast C (q := 60) 15 (Nat.le_of_ble_eq_true rfl) (fun _ => rfl) 0 rfl g59 (by decide) d_Rows_add_59 rfl ?_
  refine r_aload_n C (q := 61) 1 d_Rows_add_60 rfl rfl rfl ?_
  refine gxx_Rows_facts C (q := 64) fl_Rows_9 d_Rows_add_61 rfl ?_
  refine r_iload C (q := 66) 0 d_Rows_add_64 rfl rfl ?_
  refine r_iconst C (q := 67) d_Rows_add_66 rfl ?_
  refine r_iadd C (q := 68) d_Rows_add_67 rfl ?_
  refine r_aload_n C (q := 69) 1 d_Rows_add_68 rfl rfl rfl ?_
  refine gxx_Rows_day C (q := 72) fl_Rows_33 d_Rows_add_69 rfl ?_
  obtain ⟨g72, hf⟩ := gd_s hf
  refine r_iast C (q := 73) 15 (Nat.le_of_ble_eq_true rfl) (fun _ => rfl) 0 rfl g72 (by decide) d_Rows_add_72 rfl ?_
  refine r_aload_n C (q := 74) 1 d_Rows_add_73 rfl rfl rfl ?_
  refine gxx_Rows_facts C (q := 77) fl_Rows_9 d_Rows_add_74 rfl ?_
  refine r_iload C (q := 79) 0 d_Rows_add_77 rfl rfl ?_
  refine r_bipush C (q := 81) (x := 6) d_Rows_add_79 rfl rfl ?_
  refine r_iadd C (q := 82) d_Rows_add_81 rfl ?_
  refine r_iconst C (q := 83) d_Rows_add_82 rfl ?_
  obtain ⟨g83, hf⟩ := gd_s hf
  refine r_iast C (q := 84) 15 (Nat.le_of_ble_eq_true rfl) (fun _ => rfl) 0 rfl g83 (by decide) d_Rows_add_83 rfl ?_
  refine r_aload_n C (q := 85) 1 d_Rows_add_84 rfl rfl rfl ?_
  refine r_dup C (q := 86) d_Rows_add_85 rfl rfl ?_
  refine gxx_Rows_many C (q := 89) fl_Rows_22 d_Rows_add_86 rfl ?_
  refine r_iconst C (q := 90) d_Rows_add_89 rfl ?_
  refine r_iadd C (q := 91) d_Rows_add_90 rfl ?_
  refine pxx_Rows_many C (q := 94) fl_Rows_22 d_Rows_add_91 rfl ?_
  exact r_return C hf d_Rows_add_94
def x_Rows_fact (N : Nat) (v1 v2 : Int) (s : St) : MM := gd (inb ((v1 * 7) + v2) 252) (some (s 15 ((v1 * 7) + v2), s))
abbrev rm_x_Rows_fact : Room := { frames := 0, cells := 0, slots := 0, locals := 0 }
theorem c_x_Rows_fact {l : Launch} {G : GG} (hi : wo_i (xW G)) {N : Nat} {v1 v2 : Int} {s : St} {o : Int × St} (hf : x_Rows_fact N v1 v2 s = some o) : CtI l (xW G) y_Rows_fact (wo y_Rows_fact prog_8_method_7_code 3 (some .int)) rm_x_Rows_fact [.ref ((xW G).h 3), vI v1, vI v2] s o := by
  refine ct_I (by decide +kernel) hi (Nat.le_of_ble_eq_true rfl) fun X C => ?_
  unfold x_Rows_fact at hf
  show Rj X (xW G) 3 (qI X (xW G) o) 0 [(0, .ref ((xW G).h 3)), (1, vI v1), (2, vI v2)] [] s
  refine r_aload_n C (q := 1) 0 d_Rows_fact_0 rfl rfl rfl ?_
  refine gxx_Rows_facts C (q := 4) fl_Rows_9 d_Rows_fact_1 rfl ?_
  refine r_iload_n C (q := 5) 1 d_Rows_fact_4 rfl rfl rfl ?_
  refine r_bipush C (q := 7) (x := 7) d_Rows_fact_5 rfl rfl ?_
  refine r_imul C (q := 8) d_Rows_fact_7 rfl ?_
  refine r_iload_n C (q := 9) 2 d_Rows_fact_8 rfl rfl rfl ?_
  refine r_iadd C (q := 10) d_Rows_fact_9 rfl ?_
  obtain ⟨g10, hf⟩ := gd_s hf
  refine r_iald C (q := 11) 15 (Nat.le_of_ble_eq_true rfl) (fun _ => rfl) 0 rfl g10 (by decide) d_Rows_fact_10 rfl ?_
  exact r_ireturn C hf d_Rows_fact_11
def x_Rows_letterAt (N : Nat) (v1 v2 : Int) (s : St) : MM := gd (inb ((v1 * 10) + v2) 360) (some (s 16 ((v1 * 10) + v2), s))
abbrev rm_x_Rows_letterAt : Room := { frames := 0, cells := 0, slots := 0, locals := 0 }
theorem c_x_Rows_letterAt {l : Launch} {G : GG} (hi : wo_i (xW G)) {N : Nat} {v1 v2 : Int} {s : St} {o : Int × St} (hf : x_Rows_letterAt N v1 v2 s = some o) : CtI l (xW G) y_Rows_letterAt (wo y_Rows_letterAt prog_8_method_8_code 3 (some .int)) rm_x_Rows_letterAt [.ref ((xW G).h 3), vI v1, vI v2] s o := by
  refine ct_I (by decide +kernel) hi (Nat.le_of_ble_eq_true rfl) fun X C => ?_
  unfold x_Rows_letterAt at hf
  show Rj X (xW G) 3 (qI X (xW G) o) 0 [(0, .ref ((xW G).h 3)), (1, vI v1), (2, vI v2)] [] s
  refine r_aload_n C (q := 1) 0 d_Rows_letterAt_0 rfl rfl rfl ?_
  refine gxx_Rows_letters C (q := 4) fl_Rows_15 d_Rows_letterAt_1 rfl ?_
  refine r_iload_n C (q := 5) 1 d_Rows_letterAt_4 rfl rfl rfl ?_
  refine r_bipush C (q := 7) (x := 10) d_Rows_letterAt_5 rfl rfl ?_
  refine r_imul C (q := 8) d_Rows_letterAt_7 rfl ?_
  refine r_iload_n C (q := 9) 2 d_Rows_letterAt_8 rfl rfl rfl ?_
  refine r_iadd C (q := 10) d_Rows_letterAt_9 rfl ?_
  obtain ⟨g10, hf⟩ := gd_s hf
  refine r_iald C (q := 11) 16 (Nat.le_of_ble_eq_true rfl) (fun _ => rfl) 0 rfl g10 (by decide) d_Rows_letterAt_10 rfl ?_
  exact r_ireturn C hf d_Rows_letterAt_11
def x_Slips_fewestSteps_83 (N : Nat) (v2 v3 v4 v5 v6 v7 v8 t0 t1 t2 : Int) (s : St) : MM := if le32 v3 1 then (some (mn32 t2 (t1 + t0), s)) else (if le32 v5 1 then (some (mn32 t2 (t1 + t0), s)) else (bd (x_Rows_letterAt N v4 (v5 - 2) s) (fun r109 s109 => if eq32 v6 r109 then (bd (x_Rows_letterAt N v2 (v3 - 2) s109) (fun r122 s122 => if eq32 v7 r122 then (gd (inb ((v8 - 22) - 2) 121) (some (mn32 (mn32 t2 (t1 + t0)) ((s122 18 ((v8 - 22) - 2)) + 1), s122))) else (some (mn32 t2 (t1 + t0), s122)))) else (some (mn32 t2 (t1 + t0), s109)))))
def x_Slips_fewestSteps (N : Nat) (v2 v3 v4 v5 : Int) (s : St) : MM := bd (x_Rows_letterAt N v2 (v3 - 1) s) (fun r5 s5 => bd (x_Rows_letterAt N v4 (v5 - 1) s5) (fun r17 s17 => gd (inb (((v3 * 11) + v5) - 11) 121) (gd (inb (((v3 * 11) + v5) - 1) 121) (gd (inb ((((v3 * 11) + v5) - 11) - 1) 121) (if eq32 r5 r17 then (x_Slips_fewestSteps_83 N v2 v3 v4 v5 r5 r17 ((v3 * 11) + v5) 0 (s17 18 ((((v3 * 11) + v5) - 11) - 1)) ((mn32 (s17 18 (((v3 * 11) + v5) - 11)) (s17 18 (((v3 * 11) + v5) - 1))) + 1) s17) else (x_Slips_fewestSteps_83 N v2 v3 v4 v5 r5 r17 ((v3 * 11) + v5) 1 (s17 18 ((((v3 * 11) + v5) - 11) - 1)) ((mn32 (s17 18 (((v3 * 11) + v5) - 11)) (s17 18 (((v3 * 11) + v5) - 1))) + 1) s17))))))
abbrev rm_x_Slips_fewestSteps : Room := { frames := 1, cells := 0, slots := 0, locals := 23 }
theorem s_x_Slips_fewestSteps_83 {X : CxT} {l : Launch} {G : GG} (C : Cx X l (xW G) 10 prog_10_method_5_code "OneSelf$Slips" (wo y_Slips_fewestSteps prog_10_method_5_code 10 (some .int)) (some .int) rm_x_Slips_fewestSteps) {o : Int × St} {N : Nat} {v2 v3 v4 v5 v6 v7 v8 t0 t1 t2 : Int} {s : St} (hf : x_Slips_fewestSteps_83 N v2 v3 v4 v5 v6 v7 v8 t0 t1 t2 s = some o) : Rj X (xW G) 10 (qI X (xW G) o) 83 [(0, .ref ((xW G).h 4)), (1, .ref ((xW G).h 3)), (2, vI v2), (3, vI v3), (4, vI v4), (5, vI v5), (6, vI v6), (7, vI v7), (8, vI v8)] [vI t0, vI t1, vI t2] s := by
  unfold x_Slips_fewestSteps_83 at hf
  refine r_iadd C (q := 84) d_Slips_fewestSteps_83 rfl ?_
  refine r_mmin C (q := 87) ml_Slips_35 mM_min (Nat.le_of_ble_eq_true rfl) (Nat.le_of_ble_eq_true rfl) (Nat.le_of_ble_eq_true rfl) d_Slips_fewestSteps_84 rfl ?_
  refine r_istore C (q := 89) (lv' := [(9, vI (mn32 t2 (t1 + t0))), (0, .ref ((xW G).h 4)), (1, .ref ((xW G).h 3)), (2, vI v2), (3, vI v3), (4, vI v4), (5, vI v5), (6, vI v6), (7, vI v7), (8, vI v8)]) d_Slips_fewestSteps_87 (by decide) rfl rfl ?_
  refine r_iload_n C (q := 90) 4 d_Slips_fewestSteps_89 rfl rfl rfl ?_
  refine r_iconst C (q := 91) d_Slips_fewestSteps_90 rfl ?_
  refine r_ic_le C (t := 149) (q := 94) d_Slips_fewestSteps_91 (by decide) rfl (fun c91 => ?_) (fun c91 => ?_)
  · replace hf := ite_t c91 hf
    refine r_iload C (q := 151) 0 d_Slips_fewestSteps_149 rfl rfl ?_
    exact r_ireturn C hf d_Slips_fewestSteps_151
  · replace hf := ite_f c91 hf
    refine r_iload C (q := 96) 6 d_Slips_fewestSteps_94 rfl rfl ?_
    refine r_iconst C (q := 97) d_Slips_fewestSteps_96 rfl ?_
    refine r_ic_le C (t := 149) (q := 100) d_Slips_fewestSteps_97 (by decide) rfl (fun c97 => ?_) (fun c97 => ?_)
    · replace hf := ite_t c97 hf
      refine r_iload C (q := 151) 0 d_Slips_fewestSteps_149 rfl rfl ?_
      exact r_ireturn C hf d_Slips_fewestSteps_151
    · replace hf := ite_f c97 hf
      refine r_iload C (q := 102) 7 d_Slips_fewestSteps_100 rfl rfl ?_
      refine r_aload_n C (q := 103) 2 d_Slips_fewestSteps_102 rfl rfl rfl ?_
      refine r_iload C (q := 105) 5 d_Slips_fewestSteps_103 rfl rfl ?_
      refine r_iload C (q := 107) 6 d_Slips_fewestSteps_105 rfl rfl ?_
      refine r_iconst C (q := 108) d_Slips_fewestSteps_107 rfl ?_
      refine r_isub C (q := 109) d_Slips_fewestSteps_108 rfl ?_
      obtain ⟨r109, s109, hg109, hf⟩ := bd_s hf
      refine r_cVI C (q := 112) (As := [vI v4, vI (v5 - 2)]) (k0 := 3) (c_x_Rows_letterAt C.i hg109) mt_Rows_letterAt ml_Slips_32 (Nat.le_of_ble_eq_true rfl) rfl rfl rfl rfl rfl rfl ⟨Nat.le_of_ble_eq_true rfl, Nat.le_of_ble_eq_true rfl⟩ rfl (Nat.le_of_ble_eq_true rfl) d_Slips_fewestSteps_109 rfl ?_
      refine r_ic_ne C (t := 149) (q := 115) d_Slips_fewestSteps_112 (by decide) rfl (fun c112 => ?_) (fun c112 => ?_)
      · replace hf := ite_t c112 hf
        refine r_iload C (q := 117) 8 d_Slips_fewestSteps_115 rfl rfl ?_
        refine r_aload_n C (q := 118) 2 d_Slips_fewestSteps_117 rfl rfl rfl ?_
        refine r_iload_n C (q := 119) 3 d_Slips_fewestSteps_118 rfl rfl rfl ?_
        refine r_iload_n C (q := 120) 4 d_Slips_fewestSteps_119 rfl rfl rfl ?_
        refine r_iconst C (q := 121) d_Slips_fewestSteps_120 rfl ?_
        refine r_isub C (q := 122) d_Slips_fewestSteps_121 rfl ?_
        obtain ⟨r122, s122, hg122, hf⟩ := bd_s hf
        refine r_cVI C (q := 125) (As := [vI v2, vI (v3 - 2)]) (k0 := 3) (c_x_Rows_letterAt C.i hg122) mt_Rows_letterAt ml_Slips_32 (Nat.le_of_ble_eq_true rfl) rfl rfl rfl rfl rfl rfl ⟨Nat.le_of_ble_eq_true rfl, Nat.le_of_ble_eq_true rfl⟩ rfl (Nat.le_of_ble_eq_true rfl) d_Slips_fewestSteps_122 rfl ?_
        refine r_ic_ne C (t := 149) (q := 128) d_Slips_fewestSteps_125 (by decide) rfl (fun c125 => ?_) (fun c125 => ?_)
        · replace hf := ite_t c125 hf
          refine r_iload C (q := 130) 0 d_Slips_fewestSteps_128 rfl rfl ?_
          refine r_aload_n C (q := 131) 1 d_Slips_fewestSteps_130 rfl rfl rfl ?_
          refine gxx_Slips_steps C (q := 134) fl_Slips_15 d_Slips_fewestSteps_131 rfl ?_
          refine r_iload C (q := 136) 9 d_Slips_fewestSteps_134 rfl rfl ?_
          refine r_bipush C (q := 138) (x := 22) d_Slips_fewestSteps_136 rfl rfl ?_
          refine r_isub C (q := 139) d_Slips_fewestSteps_138 rfl ?_
          refine r_iconst C (q := 140) d_Slips_fewestSteps_139 rfl ?_
          refine r_isub C (q := 141) d_Slips_fewestSteps_140 rfl ?_
          obtain ⟨g141, hf⟩ := gd_s hf
          refine r_iald C (q := 142) 18 (Nat.le_of_ble_eq_true rfl) (fun _ => rfl) 0 rfl g141 (by decide) d_Slips_fewestSteps_141 rfl ?_
          refine r_iconst C (q := 143) d_Slips_fewestSteps_142 rfl ?_
          refine r_iadd C (q := 144) d_Slips_fewestSteps_143 rfl ?_
          refine r_mmin C (q := 147) ml_Slips_35 mM_min (Nat.le_of_ble_eq_true rfl) (Nat.le_of_ble_eq_true rfl) (Nat.le_of_ble_eq_true rfl) d_Slips_fewestSteps_144 rfl ?_
          refine r_istore C (q := 149) (lv' := [(9, vI (mn32 (mn32 t2 (t1 + t0)) ((s122 18 ((v8 - 22) - 2)) + 1))), (0, .ref ((xW G).h 4)), (1, .ref ((xW G).h 3)), (2, vI v2), (3, vI v3), (4, vI v4), (5, vI v5), (6, vI v6), (7, vI v7), (8, vI v8)]) d_Slips_fewestSteps_147 (by decide) rfl rfl ?_
          refine r_iload C (q := 151) 0 d_Slips_fewestSteps_149 rfl rfl ?_
          exact r_ireturn C hf d_Slips_fewestSteps_151
        · replace hf := ite_f c125 hf
          refine r_iload C (q := 151) 0 d_Slips_fewestSteps_149 rfl rfl ?_
          exact r_ireturn C hf d_Slips_fewestSteps_151
      · replace hf := ite_f c112 hf
        refine r_iload C (q := 151) 0 d_Slips_fewestSteps_149 rfl rfl ?_
        exact r_ireturn C hf d_Slips_fewestSteps_151
theorem c_x_Slips_fewestSteps {l : Launch} {G : GG} (hi : wo_i (xW G)) {N : Nat} {v2 v3 v4 v5 : Int} {s : St} {o : Int × St} (hf : x_Slips_fewestSteps N v2 v3 v4 v5 s = some o) : CtI l (xW G) y_Slips_fewestSteps (wo y_Slips_fewestSteps prog_10_method_5_code 10 (some .int)) rm_x_Slips_fewestSteps [.ref ((xW G).h 4), .ref ((xW G).h 3), vI v2, vI v3, vI v4, vI v5] s o := by
  refine ct_I (by decide +kernel) hi (Nat.le_of_ble_eq_true rfl) fun X C => ?_
  unfold x_Slips_fewestSteps at hf
  show Rj X (xW G) 10 (qI X (xW G) o) 0 [(0, .ref ((xW G).h 4)), (1, .ref ((xW G).h 3)), (2, vI v2), (3, vI v3), (4, vI v4), (5, vI v5)] [] s
  refine r_aload_n C (q := 1) 1 d_Slips_fewestSteps_0 rfl rfl rfl ?_
  refine r_iload_n C (q := 2) 2 d_Slips_fewestSteps_1 rfl rfl rfl ?_
  refine r_iload_n C (q := 3) 3 d_Slips_fewestSteps_2 rfl rfl rfl ?_
  refine r_iconst C (q := 4) d_Slips_fewestSteps_3 rfl ?_
  refine r_isub C (q := 5) d_Slips_fewestSteps_4 rfl ?_
  obtain ⟨r5, s5, hg5, hf⟩ := bd_s hf
  refine r_cVI C (q := 8) (As := [vI v2, vI (v3 - 1)]) (k0 := 3) (c_x_Rows_letterAt C.i hg5) mt_Rows_letterAt ml_Slips_32 (Nat.le_of_ble_eq_true rfl) rfl rfl rfl rfl rfl rfl ⟨Nat.le_of_ble_eq_true rfl, Nat.le_of_ble_eq_true rfl⟩ rfl (Nat.le_of_ble_eq_true rfl) d_Slips_fewestSteps_5 rfl ?_
  refine r_istore C (q := 10) (lv' := [(6, vI r5), (0, .ref ((xW G).h 4)), (1, .ref ((xW G).h 3)), (2, vI v2), (3, vI v3), (4, vI v4), (5, vI v5)]) d_Slips_fewestSteps_8 (by decide) rfl rfl ?_
  refine r_aload_n C (q := 11) 2 d_Slips_fewestSteps_10 rfl rfl rfl ?_
  refine r_iload C (q := 13) 5 d_Slips_fewestSteps_11 rfl rfl ?_
  refine r_iload C (q := 15) 6 d_Slips_fewestSteps_13 rfl rfl ?_
  refine r_iconst C (q := 16) d_Slips_fewestSteps_15 rfl ?_
  refine r_isub C (q := 17) d_Slips_fewestSteps_16 rfl ?_
  obtain ⟨r17, s17, hg17, hf⟩ := bd_s hf
  refine r_cVI C (q := 20) (As := [vI v4, vI (v5 - 1)]) (k0 := 3) (c_x_Rows_letterAt C.i hg17) mt_Rows_letterAt ml_Slips_32 (Nat.le_of_ble_eq_true rfl) rfl rfl rfl rfl rfl rfl ⟨Nat.le_of_ble_eq_true rfl, Nat.le_of_ble_eq_true rfl⟩ rfl (Nat.le_of_ble_eq_true rfl) d_Slips_fewestSteps_17 rfl ?_
  refine r_istore C (q := 22) (lv' := [(7, vI r17), (6, vI r5), (0, .ref ((xW G).h 4)), (1, .ref ((xW G).h 3)), (2, vI v2), (3, vI v3), (4, vI v4), (5, vI v5)]) d_Slips_fewestSteps_20 (by decide) rfl rfl ?_
  refine r_iload_n C (q := 23) 5 d_Slips_fewestSteps_22 rfl rfl rfl ?_
  refine r_bipush C (q := 25) (x := 11) d_Slips_fewestSteps_23 rfl rfl ?_
  refine r_imul C (q := 26) d_Slips_fewestSteps_25 rfl ?_
  refine r_iload C (q := 28) 7 d_Slips_fewestSteps_26 rfl rfl ?_
  refine r_iadd C (q := 29) d_Slips_fewestSteps_28 rfl ?_
  refine r_istore C (q := 31) (lv' := [(8, vI ((v3 * 11) + v5)), (7, vI r17), (6, vI r5), (0, .ref ((xW G).h 4)), (1, .ref ((xW G).h 3)), (2, vI v2), (3, vI v3), (4, vI v4), (5, vI v5)]) d_Slips_fewestSteps_29 (by decide) rfl rfl ?_
  refine r_aload_n C (q := 32) 3 d_Slips_fewestSteps_31 rfl rfl rfl ?_
  refine gxx_Slips_steps C (q := 35) fl_Slips_15 d_Slips_fewestSteps_32 rfl ?_
  refine r_iload C (q := 37) 0 d_Slips_fewestSteps_35 rfl rfl ?_
  refine r_bipush C (q := 39) (x := 11) d_Slips_fewestSteps_37 rfl rfl ?_
  refine r_isub C (q := 40) d_Slips_fewestSteps_39 rfl ?_
  obtain ⟨g40, hf⟩ := gd_s hf
  refine r_iald C (q := 41) 18 (Nat.le_of_ble_eq_true rfl) (fun _ => rfl) 0 rfl g40 (by decide) d_Slips_fewestSteps_40 rfl ?_
  refine r_aload_n C (q := 42) 3 d_Slips_fewestSteps_41 rfl rfl rfl ?_
  refine gxx_Slips_steps C (q := 45) fl_Slips_15 d_Slips_fewestSteps_42 rfl ?_
  refine r_iload C (q := 47) 0 d_Slips_fewestSteps_45 rfl rfl ?_
  refine r_iconst C (q := 48) d_Slips_fewestSteps_47 rfl ?_
  refine r_isub C (q := 49) d_Slips_fewestSteps_48 rfl ?_
  obtain ⟨g49, hf⟩ := gd_s hf
  refine r_iald C (q := 50) 18 (Nat.le_of_ble_eq_true rfl) (fun _ => rfl) 0 rfl g49 (by decide) d_Slips_fewestSteps_49 rfl ?_
  refine r_mmin C (q := 53) ml_Slips_35 mM_min (Nat.le_of_ble_eq_true rfl) (Nat.le_of_ble_eq_true rfl) (Nat.le_of_ble_eq_true rfl) d_Slips_fewestSteps_50 rfl ?_
  refine r_iconst C (q := 54) d_Slips_fewestSteps_53 rfl ?_
  refine r_iadd C (q := 55) d_Slips_fewestSteps_54 rfl ?_
  refine r_istore C (q := 57) (lv' := [(9, vI ((mn32 (s17 18 (((v3 * 11) + v5) - 11)) (s17 18 (((v3 * 11) + v5) - 1))) + 1)), (8, vI ((v3 * 11) + v5)), (7, vI r17), (6, vI r5), (0, .ref ((xW G).h 4)), (1, .ref ((xW G).h 3)), (2, vI v2), (3, vI v3), (4, vI v4), (5, vI v5)]) d_Slips_fewestSteps_55 (by decide) rfl rfl ?_
  refine r_iload C (q := 59) 0 d_Slips_fewestSteps_57 rfl rfl ?_
  refine r_aload_n C (q := 60) 4 d_Slips_fewestSteps_59 rfl rfl rfl ?_
  refine gxx_Slips_steps C (q := 63) fl_Slips_15 d_Slips_fewestSteps_60 rfl ?_
  refine r_iload C (q := 65) 1 d_Slips_fewestSteps_63 rfl rfl ?_
  refine r_bipush C (q := 67) (x := 11) d_Slips_fewestSteps_65 rfl rfl ?_
  refine r_isub C (q := 68) d_Slips_fewestSteps_67 rfl ?_
  refine r_iconst C (q := 69) d_Slips_fewestSteps_68 rfl ?_
  refine r_isub C (q := 70) d_Slips_fewestSteps_69 rfl ?_
  obtain ⟨g70, hf⟩ := gd_s hf
  refine r_iald C (q := 71) 18 (Nat.le_of_ble_eq_true rfl) (fun _ => rfl) 0 rfl g70 (by decide) d_Slips_fewestSteps_70 rfl ?_
  refine r_iload C (q := 73) 3 d_Slips_fewestSteps_71 rfl rfl ?_
  refine r_iload C (q := 75) 2 d_Slips_fewestSteps_73 rfl rfl ?_
  refine r_ic_ne C (t := 82) (q := 78) d_Slips_fewestSteps_75 (by decide) rfl (fun c75 => ?_) (fun c75 => ?_)
  · replace hf := ite_t c75 hf
    refine r_iconst C (q := 79) d_Slips_fewestSteps_78 rfl ?_
    refine r_goto C (q := 83) d_Slips_fewestSteps_79 (by decide) ?_
    exact r_sub [4, 5, 6, 7, 8, 9, 3, 2, 1] rfl (s_x_Slips_fewestSteps_83 C hf)
  · replace hf := ite_f c75 hf
    refine r_iconst C (q := 83) d_Slips_fewestSteps_82 rfl ?_
    exact r_sub [4, 5, 6, 7, 8, 9, 3, 2, 1] rfl (s_x_Slips_fewestSteps_83 C hf)
def x_Slips_measure_82 (N : Nat) (k72 : Int → St → MM) (v2 v3 v4 v5 v6 : Int) (k82 : Int → St → MM) (v7 : Int) (s : St) : MM := if lt32 v5 v7 then (k72 (v6 + 1) s) else (bd (x_Slips_fewestSteps N v2 v6 v3 v7 s) (fun r109 s109 => gd (inb ((v6 * 11) + v7) 121) (k82 (v7 + 1) (su s109 18 ((v6 * 11) + v7) r109))))
def x_Slips_measure_72 (N : Nat) (v2 v3 v4 v5 : Int) (k72 : Int → St → MM) (v6 : Int) (s : St) : MM := if lt32 v4 v6 then (gd (inb ((v4 * 11) + v5) 121) (some (s 18 ((v4 * 11) + v5), s))) else (itr (x_Slips_measure_82 N k72 v2 v3 v4 v5 v6) (fun _ _ => none) N 1 s)
def x_Slips_measure_47 (N : Nat) (v2 v3 v4 v5 : Int) (k47 : Int → St → MM) (v6 : Int) (s : St) : MM := if lt32 v5 v6 then (itr (x_Slips_measure_72 N v2 v3 v4 v5) (fun _ _ => none) N 1 s) else (gd (inb v6 121) (k47 (v6 + 1) (su s 18 v6 v6)))
def x_Slips_measure_19 (N : Nat) (v2 v3 v4 v5 : Int) (k19 : Int → St → MM) (v6 : Int) (s : St) : MM := if lt32 v4 v6 then (itr (x_Slips_measure_47 N v2 v3 v4 v5) (fun _ _ => none) N 0 s) else (gd (inb (v6 * 11) 121) (k19 (v6 + 1) (su s 18 (v6 * 11) v6)))
def x_Slips_measure (N : Nat) (v2 v3 : Int) (s : St) : MM := bd (x_Rows_fact N v2 4 s) (fun r3 s3 => bd (x_Rows_fact N v3 4 s3) (fun r11 s11 => itr (x_Slips_measure_19 N v2 v3 r3 r11) (fun _ _ => none) N 0 s11))
abbrev rm_x_Slips_measure : Room := { frames := 2, cells := 0, slots := 0, locals := 52 }
theorem s_x_Slips_measure_82 {X : CxT} {l : Launch} {G : GG} (C : Cx X l (xW G) 8 prog_10_method_4_code "OneSelf$Slips" (wo y_Slips_measure prog_10_method_4_code 8 (some .int)) (some .int) rm_x_Slips_measure) {o : Int × St} {N : Nat} {v2 v3 v4 v5 v6 v7 : Int} {k72 : Int → St → MM} (hk72 : ∀ (u6 : Int) (s : St), k72 u6 s = some o → Rj X (xW G) 8 (qI X (xW G) o) 72 [(0, .ref ((xW G).h 4)), (1, .ref ((xW G).h 3)), (2, vI v2), (3, vI v3), (4, vI v4), (5, vI v5), (6, vI u6)] [] s) {k82 : Int → St → MM} (hk82 : ∀ (u7 : Int) (s : St), k82 u7 s = some o → Rj X (xW G) 8 (qI X (xW G) o) 82 [(0, .ref ((xW G).h 4)), (1, .ref ((xW G).h 3)), (2, vI v2), (3, vI v3), (4, vI v4), (5, vI v5), (6, vI v6), (7, vI u7)] [] s) {s : St} (hf : x_Slips_measure_82 N k72 v2 v3 v4 v5 v6 k82 v7 s = some o) : Rj X (xW G) 8 (qI X (xW G) o) 82 [(0, .ref ((xW G).h 4)), (1, .ref ((xW G).h 3)), (2, vI v2), (3, vI v3), (4, vI v4), (5, vI v5), (6, vI v6), (7, vI v7)] [] s := by
  unfold x_Slips_measure_82 at hf
  refine r_iload C (q := 84) 7 d_Slips_measure_82 rfl rfl ?_
  refine r_iload C (q := 86) 5 d_Slips_measure_84 rfl rfl ?_
  refine r_ic_gt C (t := 119) (q := 89) d_Slips_measure_86 (by decide) rfl (fun c86 => ?_) (fun c86 => ?_)
  · replace hf := ite_t c86 hf
    refine r_iinc C (q := 122) (lv' := [(6, vI (v6 + 1)), (0, .ref ((xW G).h 4)), (1, .ref ((xW G).h 3)), (2, vI v2), (3, vI v3), (4, vI v4), (5, vI v5), (7, vI v7)]) 6 d_Slips_measure_119 rfl (by decide) rfl rfl ?_
    refine r_goto C (q := 72) d_Slips_measure_122 (by decide) ?_
    exact r_sub [1, 2, 3, 4, 5, 6, 0] rfl (hk72 _ _  hf)
  · replace hf := ite_f c86 hf
    refine r_aload_n C (q := 90) 0 d_Slips_measure_89 rfl rfl rfl ?_
    refine gxx_Slips_steps C (q := 93) fl_Slips_15 d_Slips_measure_90 rfl ?_
    refine r_iload C (q := 95) 6 d_Slips_measure_93 rfl rfl ?_
    refine r_bipush C (q := 97) (x := 11) d_Slips_measure_95 rfl rfl ?_
    refine r_imul C (q := 98) d_Slips_measure_97 rfl ?_
    refine r_iload C (q := 100) 7 d_Slips_measure_98 rfl rfl ?_
    refine r_iadd C (q := 101) d_Slips_measure_100 rfl ?_
    refine r_aload_n C (q := 102) 0 d_Slips_measure_101 rfl rfl rfl ?_
    refine r_aload_n C (q := 103) 1 d_Slips_measure_102 rfl rfl rfl ?_
    refine r_iload_n C (q := 104) 2 d_Slips_measure_103 rfl rfl rfl ?_
    refine r_iload C (q := 106) 6 d_Slips_measure_104 rfl rfl ?_
    refine r_iload_n C (q := 107) 3 d_Slips_measure_106 rfl rfl rfl ?_
    refine r_iload C (q := 109) 7 d_Slips_measure_107 rfl rfl ?_
    obtain ⟨r109, s109, hg109, hf⟩ := bd_s hf
    refine r_cVI C (q := 112) (As := [.ref ((xW G).h 3), vI v2, vI v6, vI v3, vI v7]) (k0 := 4) (c_x_Slips_fewestSteps C.i hg109) mt_Slips_fewestSteps ml_Slips_28 (Nat.le_of_ble_eq_true rfl) rfl rfl rfl rfl rfl rfl ⟨Nat.le_of_ble_eq_true rfl, Nat.le_of_ble_eq_true rfl⟩ rfl (Nat.le_of_ble_eq_true rfl) d_Slips_measure_109 rfl ?_
    obtain ⟨g112, hf⟩ := gd_s hf
    refine r_iast C (q := 113) 18 (Nat.le_of_ble_eq_true rfl) (fun _ => rfl) 0 rfl g112 (by decide) d_Slips_measure_112 rfl ?_
    refine r_iinc C (q := 116) (lv' := [(7, vI (v7 + 1)), (0, .ref ((xW G).h 4)), (1, .ref ((xW G).h 3)), (2, vI v2), (3, vI v3), (4, vI v4), (5, vI v5), (6, vI v6)]) 7 d_Slips_measure_113 rfl (by decide) rfl rfl ?_
    refine r_goto C (q := 82) d_Slips_measure_116 (by decide) ?_
    exact r_sub [1, 2, 3, 4, 5, 6, 7, 0] rfl (hk82 _ _  hf)
theorem s_x_Slips_measure_72 {X : CxT} {l : Launch} {G : GG} (C : Cx X l (xW G) 8 prog_10_method_4_code "OneSelf$Slips" (wo y_Slips_measure prog_10_method_4_code 8 (some .int)) (some .int) rm_x_Slips_measure) {o : Int × St} {N : Nat} {v2 v3 v4 v5 v6 : Int} {k72 : Int → St → MM} (hk72 : ∀ (u6 : Int) (s : St), k72 u6 s = some o → Rj X (xW G) 8 (qI X (xW G) o) 72 [(0, .ref ((xW G).h 4)), (1, .ref ((xW G).h 3)), (2, vI v2), (3, vI v3), (4, vI v4), (5, vI v5), (6, vI u6)] [] s) {s : St} (hf : x_Slips_measure_72 N v2 v3 v4 v5 k72 v6 s = some o) : Rj X (xW G) 8 (qI X (xW G) o) 72 [(0, .ref ((xW G).h 4)), (1, .ref ((xW G).h 3)), (2, vI v2), (3, vI v3), (4, vI v4), (5, vI v5), (6, vI v6)] [] s := by
  unfold x_Slips_measure_72 at hf
  refine r_iload C (q := 74) 6 d_Slips_measure_72 rfl rfl ?_
  refine r_iload C (q := 76) 4 d_Slips_measure_74 rfl rfl ?_
  refine r_ic_gt C (t := 125) (q := 79) d_Slips_measure_76 (by decide) rfl (fun c76 => ?_) (fun c76 => ?_)
  · replace hf := ite_t c76 hf
    refine r_aload_n C (q := 126) 0 d_Slips_measure_125 rfl rfl rfl ?_
    refine gxx_Slips_steps C (q := 129) fl_Slips_15 d_Slips_measure_126 rfl ?_
    refine r_iload C (q := 131) 4 d_Slips_measure_129 rfl rfl ?_
    refine r_bipush C (q := 133) (x := 11) d_Slips_measure_131 rfl rfl ?_
    refine r_imul C (q := 134) d_Slips_measure_133 rfl ?_
    refine r_iload C (q := 136) 5 d_Slips_measure_134 rfl rfl ?_
    refine r_iadd C (q := 137) d_Slips_measure_136 rfl ?_
    obtain ⟨g137, hf⟩ := gd_s hf
    refine r_iald C (q := 138) 18 (Nat.le_of_ble_eq_true rfl) (fun _ => rfl) 0 rfl g137 (by decide) d_Slips_measure_137 rfl ?_
    exact r_ireturn C hf d_Slips_measure_138
  · replace hf := ite_f c76 hf
    refine r_iconst C (q := 80) d_Slips_measure_79 rfl ?_
    refine r_istore C (q := 82) (lv' := [(7, vI 1), (0, .ref ((xW G).h 4)), (1, .ref ((xW G).h 3)), (2, vI v2), (3, vI v3), (4, vI v4), (5, vI v5), (6, vI v6)]) d_Slips_measure_80 (by decide) rfl rfl ?_
    have hL : ∀ (u7 : Int) (z : St), itr (x_Slips_measure_82 N k72 v2 v3 v4 v5 v6) (fun _ _ => none) N u7 z = some o → Rj X (xW G) 8 (qI X (xW G) o) 82 [(0, .ref ((xW G).h 4)), (1, .ref ((xW G).h 3)), (2, vI v2), (3, vI v3), (4, vI v4), (5, vI v5), (6, vI v6), (7, vI u7)] [] z := itr_ind (x_Slips_measure_82 N k72 v2 v3 v4 v5 v6) (fun _ _ => none) (fun k => ∀ (u7 : Int) (z : St), k u7 z = some o → Rj X (xW G) 8 (qI X (xW G) o) 82 [(0, .ref ((xW G).h 4)), (1, .ref ((xW G).h 3)), (2, vI v2), (3, vI v3), (4, vI v4), (5, vI v5), (6, vI v6), (7, vI u7)] [] z) (fun _ _  h => by cases h) (fun k hk u7 z h => s_x_Slips_measure_82 C hk72 hk h) N
    exact r_sub [1, 2, 3, 4, 5, 6, 7, 0] rfl (hL _ _  hf)
theorem s_x_Slips_measure_47 {X : CxT} {l : Launch} {G : GG} (C : Cx X l (xW G) 8 prog_10_method_4_code "OneSelf$Slips" (wo y_Slips_measure prog_10_method_4_code 8 (some .int)) (some .int) rm_x_Slips_measure) {o : Int × St} {N : Nat} {v2 v3 v4 v5 v6 : Int} {k47 : Int → St → MM} (hk47 : ∀ (u6 : Int) (s : St), k47 u6 s = some o → Rj X (xW G) 8 (qI X (xW G) o) 47 [(0, .ref ((xW G).h 4)), (1, .ref ((xW G).h 3)), (2, vI v2), (3, vI v3), (4, vI v4), (5, vI v5), (6, vI u6)] [] s) {s : St} (hf : x_Slips_measure_47 N v2 v3 v4 v5 k47 v6 s = some o) : Rj X (xW G) 8 (qI X (xW G) o) 47 [(0, .ref ((xW G).h 4)), (1, .ref ((xW G).h 3)), (2, vI v2), (3, vI v3), (4, vI v4), (5, vI v5), (6, vI v6)] [] s := by
  unfold x_Slips_measure_47 at hf
  refine r_iload C (q := 49) 6 d_Slips_measure_47 rfl rfl ?_
  refine r_iload C (q := 51) 5 d_Slips_measure_49 rfl rfl ?_
  refine r_ic_gt C (t := 69) (q := 54) d_Slips_measure_51 (by decide) rfl (fun c51 => ?_) (fun c51 => ?_)
  · replace hf := ite_t c51 hf
    refine r_iconst C (q := 70) d_Slips_measure_69 rfl ?_
    refine r_istore C (q := 72) (lv' := [(6, vI 1), (0, .ref ((xW G).h 4)), (1, .ref ((xW G).h 3)), (2, vI v2), (3, vI v3), (4, vI v4), (5, vI v5)]) d_Slips_measure_70 (by decide) rfl rfl ?_
    have hL : ∀ (u6 : Int) (z : St), itr (x_Slips_measure_72 N v2 v3 v4 v5) (fun _ _ => none) N u6 z = some o → Rj X (xW G) 8 (qI X (xW G) o) 72 [(0, .ref ((xW G).h 4)), (1, .ref ((xW G).h 3)), (2, vI v2), (3, vI v3), (4, vI v4), (5, vI v5), (6, vI u6)] [] z := itr_ind (x_Slips_measure_72 N v2 v3 v4 v5) (fun _ _ => none) (fun k => ∀ (u6 : Int) (z : St), k u6 z = some o → Rj X (xW G) 8 (qI X (xW G) o) 72 [(0, .ref ((xW G).h 4)), (1, .ref ((xW G).h 3)), (2, vI v2), (3, vI v3), (4, vI v4), (5, vI v5), (6, vI u6)] [] z) (fun _ _  h => by cases h) (fun k hk u6 z h => s_x_Slips_measure_72 C hk h) N
    exact r_sub [1, 2, 3, 4, 5, 6, 0] rfl (hL _ _  hf)
  · replace hf := ite_f c51 hf
    refine r_aload_n C (q := 55) 0 d_Slips_measure_54 rfl rfl rfl ?_
    refine gxx_Slips_steps C (q := 58) fl_Slips_15 d_Slips_measure_55 rfl ?_
    refine r_iload C (q := 60) 6 d_Slips_measure_58 rfl rfl ?_
    refine r_iload C (q := 62) 6 d_Slips_measure_60 rfl rfl ?_
    obtain ⟨g62, hf⟩ := gd_s hf
    refine r_iast C (q := 63) 18 (Nat.le_of_ble_eq_true rfl) (fun _ => rfl) 0 rfl g62 (by decide) d_Slips_measure_62 rfl ?_
    refine r_iinc C (q := 66) (lv' := [(6, vI (v6 + 1)), (0, .ref ((xW G).h 4)), (1, .ref ((xW G).h 3)), (2, vI v2), (3, vI v3), (4, vI v4), (5, vI v5)]) 6 d_Slips_measure_63 rfl (by decide) rfl rfl ?_
    refine r_goto C (q := 47) d_Slips_measure_66 (by decide) ?_
    exact r_sub [1, 2, 3, 4, 5, 6, 0] rfl (hk47 _ _  hf)
theorem s_x_Slips_measure_19 {X : CxT} {l : Launch} {G : GG} (C : Cx X l (xW G) 8 prog_10_method_4_code "OneSelf$Slips" (wo y_Slips_measure prog_10_method_4_code 8 (some .int)) (some .int) rm_x_Slips_measure) {o : Int × St} {N : Nat} {v2 v3 v4 v5 v6 : Int} {k19 : Int → St → MM} (hk19 : ∀ (u6 : Int) (s : St), k19 u6 s = some o → Rj X (xW G) 8 (qI X (xW G) o) 19 [(0, .ref ((xW G).h 4)), (1, .ref ((xW G).h 3)), (2, vI v2), (3, vI v3), (4, vI v4), (5, vI v5), (6, vI u6)] [] s) {s : St} (hf : x_Slips_measure_19 N v2 v3 v4 v5 k19 v6 s = some o) : Rj X (xW G) 8 (qI X (xW G) o) 19 [(0, .ref ((xW G).h 4)), (1, .ref ((xW G).h 3)), (2, vI v2), (3, vI v3), (4, vI v4), (5, vI v5), (6, vI v6)] [] s := by
  unfold x_Slips_measure_19 at hf
  refine r_iload C (q := 21) 6 d_Slips_measure_19 rfl rfl ?_
  refine r_iload C (q := 23) 4 d_Slips_measure_21 rfl rfl ?_
  refine r_ic_gt C (t := 44) (q := 26) d_Slips_measure_23 (by decide) rfl (fun c23 => ?_) (fun c23 => ?_)
  · replace hf := ite_t c23 hf
    refine r_iconst C (q := 45) d_Slips_measure_44 rfl ?_
    refine r_istore C (q := 47) (lv' := [(6, vI 0), (0, .ref ((xW G).h 4)), (1, .ref ((xW G).h 3)), (2, vI v2), (3, vI v3), (4, vI v4), (5, vI v5)]) d_Slips_measure_45 (by decide) rfl rfl ?_
    have hL : ∀ (u6 : Int) (z : St), itr (x_Slips_measure_47 N v2 v3 v4 v5) (fun _ _ => none) N u6 z = some o → Rj X (xW G) 8 (qI X (xW G) o) 47 [(0, .ref ((xW G).h 4)), (1, .ref ((xW G).h 3)), (2, vI v2), (3, vI v3), (4, vI v4), (5, vI v5), (6, vI u6)] [] z := itr_ind (x_Slips_measure_47 N v2 v3 v4 v5) (fun _ _ => none) (fun k => ∀ (u6 : Int) (z : St), k u6 z = some o → Rj X (xW G) 8 (qI X (xW G) o) 47 [(0, .ref ((xW G).h 4)), (1, .ref ((xW G).h 3)), (2, vI v2), (3, vI v3), (4, vI v4), (5, vI v5), (6, vI u6)] [] z) (fun _ _  h => by cases h) (fun k hk u6 z h => s_x_Slips_measure_47 C hk h) N
    exact r_sub [1, 2, 3, 4, 5, 6, 0] rfl (hL _ _  hf)
  · replace hf := ite_f c23 hf
    refine r_aload_n C (q := 27) 0 d_Slips_measure_26 rfl rfl rfl ?_
    refine gxx_Slips_steps C (q := 30) fl_Slips_15 d_Slips_measure_27 rfl ?_
    refine r_iload C (q := 32) 6 d_Slips_measure_30 rfl rfl ?_
    refine r_bipush C (q := 34) (x := 11) d_Slips_measure_32 rfl rfl ?_
    refine r_imul C (q := 35) d_Slips_measure_34 rfl ?_
    refine r_iload C (q := 37) 6 d_Slips_measure_35 rfl rfl ?_
    obtain ⟨g37, hf⟩ := gd_s hf
    refine r_iast C (q := 38) 18 (Nat.le_of_ble_eq_true rfl) (fun _ => rfl) 0 rfl g37 (by decide) d_Slips_measure_37 rfl ?_
    refine r_iinc C (q := 41) (lv' := [(6, vI (v6 + 1)), (0, .ref ((xW G).h 4)), (1, .ref ((xW G).h 3)), (2, vI v2), (3, vI v3), (4, vI v4), (5, vI v5)]) 6 d_Slips_measure_38 rfl (by decide) rfl rfl ?_
    refine r_goto C (q := 19) d_Slips_measure_41 (by decide) ?_
    exact r_sub [1, 2, 3, 4, 5, 6, 0] rfl (hk19 _ _  hf)
theorem c_x_Slips_measure {l : Launch} {G : GG} (hi : wo_i (xW G)) {N : Nat} {v2 v3 : Int} {s : St} {o : Int × St} (hf : x_Slips_measure N v2 v3 s = some o) : CtI l (xW G) y_Slips_measure (wo y_Slips_measure prog_10_method_4_code 8 (some .int)) rm_x_Slips_measure [.ref ((xW G).h 4), .ref ((xW G).h 3), vI v2, vI v3] s o := by
  refine ct_I (by decide +kernel) hi (Nat.le_of_ble_eq_true rfl) fun X C => ?_
  unfold x_Slips_measure at hf
  show Rj X (xW G) 8 (qI X (xW G) o) 0 [(0, .ref ((xW G).h 4)), (1, .ref ((xW G).h 3)), (2, vI v2), (3, vI v3)] [] s
  refine r_aload_n C (q := 1) 1 d_Slips_measure_0 rfl rfl rfl ?_
  refine r_iload_n C (q := 2) 2 d_Slips_measure_1 rfl rfl rfl ?_
  refine r_iconst C (q := 3) d_Slips_measure_2 rfl ?_
  obtain ⟨r3, s3, hg3, hf⟩ := bd_s hf
  refine r_cVI C (q := 6) (As := [vI v2, vI 4]) (k0 := 3) (c_x_Rows_fact C.i hg3) mt_Rows_fact ml_Slips_22 (Nat.le_of_ble_eq_true rfl) rfl rfl rfl rfl rfl rfl ⟨Nat.le_of_ble_eq_true rfl, Nat.le_of_ble_eq_true rfl⟩ rfl (Nat.le_of_ble_eq_true rfl) d_Slips_measure_3 rfl ?_
  refine r_istore C (q := 8) (lv' := [(4, vI r3), (0, .ref ((xW G).h 4)), (1, .ref ((xW G).h 3)), (2, vI v2), (3, vI v3)]) d_Slips_measure_6 (by decide) rfl rfl ?_
  refine r_aload_n C (q := 9) 2 d_Slips_measure_8 rfl rfl rfl ?_
  refine r_iload_n C (q := 10) 4 d_Slips_measure_9 rfl rfl rfl ?_
  refine r_iconst C (q := 11) d_Slips_measure_10 rfl ?_
  obtain ⟨r11, s11, hg11, hf⟩ := bd_s hf
  refine r_cVI C (q := 14) (As := [vI v3, vI 4]) (k0 := 3) (c_x_Rows_fact C.i hg11) mt_Rows_fact ml_Slips_22 (Nat.le_of_ble_eq_true rfl) rfl rfl rfl rfl rfl rfl ⟨Nat.le_of_ble_eq_true rfl, Nat.le_of_ble_eq_true rfl⟩ rfl (Nat.le_of_ble_eq_true rfl) d_Slips_measure_11 rfl ?_
  refine r_istore C (q := 16) (lv' := [(5, vI r11), (4, vI r3), (0, .ref ((xW G).h 4)), (1, .ref ((xW G).h 3)), (2, vI v2), (3, vI v3)]) d_Slips_measure_14 (by decide) rfl rfl ?_
  refine r_iconst C (q := 17) d_Slips_measure_16 rfl ?_
  refine r_istore C (q := 19) (lv' := [(6, vI 0), (5, vI r11), (4, vI r3), (0, .ref ((xW G).h 4)), (1, .ref ((xW G).h 3)), (2, vI v2), (3, vI v3)]) d_Slips_measure_17 (by decide) rfl rfl ?_
  have hL : ∀ (u6 : Int) (z : St), itr (x_Slips_measure_19 N v2 v3 r3 r11) (fun _ _ => none) N u6 z = some o → Rj X (xW G) 8 (qI X (xW G) o) 19 [(0, .ref ((xW G).h 4)), (1, .ref ((xW G).h 3)), (2, vI v2), (3, vI v3), (4, vI r3), (5, vI r11), (6, vI u6)] [] z := itr_ind (x_Slips_measure_19 N v2 v3 r3 r11) (fun _ _ => none) (fun k => ∀ (u6 : Int) (z : St), k u6 z = some o → Rj X (xW G) 8 (qI X (xW G) o) 19 [(0, .ref ((xW G).h 4)), (1, .ref ((xW G).h 3)), (2, vI v2), (3, vI v3), (4, vI r3), (5, vI r11), (6, vI u6)] [] z) (fun _ _  h => by cases h) (fun k hk u6 z h => s_x_Slips_measure_19 C hk h) N
  exact r_sub [3, 4, 5, 6, 2, 1, 0] rfl (hL _ _  hf)
def x_Slips_learn_2 (N : Nat) (v2 : Int) (k2 : Int → St → MM) (v3 : Int) (s : St) : MM := if le32 v2 v3 then (some (0, s)) else (bd (x_Slips_measure N v3 v2 s) (fun r11 s11 => gd (inb ((v3 * 36) + v2) 1296) (gd (inb ((v2 * 36) + v3) 1296) (k2 (v3 + 1) (su (su s11 17 ((v3 * 36) + v2) r11) 17 ((v2 * 36) + v3) r11)))))
def x_Slips_learn (N : Nat) (v2 : Int) (s : St) : MM := itr (x_Slips_learn_2 N v2) (fun _ _ => none) N 0 s
abbrev rm_x_Slips_learn : Room := { frames := 3, cells := 0, slots := 0, locals := 79 }
theorem s_x_Slips_learn_2 {X : CxT} {l : Launch} {G : GG} (C : Cx X l (xW G) 5 prog_10_method_3_code "OneSelf$Slips" (wo y_Slips_learn prog_10_method_3_code 5 none) none rm_x_Slips_learn) {o : Int × St} {N : Nat} {v2 v3 : Int} {k2 : Int → St → MM} (hk2 : ∀ (u3 : Int) (s : St), k2 u3 s = some o → Rj X (xW G) 5 (qV X (xW G) o) 2 [(0, .ref ((xW G).h 4)), (1, .ref ((xW G).h 3)), (2, vI v2), (3, vI u3)] [] s) {s : St} (hf : x_Slips_learn_2 N v2 k2 v3 s = some o) : Rj X (xW G) 5 (qV X (xW G) o) 2 [(0, .ref ((xW G).h 4)), (1, .ref ((xW G).h 3)), (2, vI v2), (3, vI v3)] [] s := by
  unfold x_Slips_learn_2 at hf
  refine r_iload_n C (q := 3) 3 d_Slips_learn_2 rfl rfl rfl ?_
  refine r_iload_n C (q := 4) 2 d_Slips_learn_3 rfl rfl rfl ?_
  refine r_ic_ge C (t := 48) (q := 7) d_Slips_learn_4 (by decide) rfl (fun c4 => ?_) (fun c4 => ?_)
  · replace hf := ite_t c4 hf
    exact r_return C hf d_Slips_learn_48
  · replace hf := ite_f c4 hf
    refine r_aload_n C (q := 8) 0 d_Slips_learn_7 rfl rfl rfl ?_
    refine r_aload_n C (q := 9) 1 d_Slips_learn_8 rfl rfl rfl ?_
    refine r_iload_n C (q := 10) 3 d_Slips_learn_9 rfl rfl rfl ?_
    refine r_iload_n C (q := 11) 2 d_Slips_learn_10 rfl rfl rfl ?_
    obtain ⟨r11, s11, hg11, hf⟩ := bd_s hf
    refine r_cVI C (q := 14) (As := [.ref ((xW G).h 3), vI v3, vI v2]) (k0 := 4) (c_x_Slips_measure C.i hg11) mt_Slips_measure ml_Slips_18 (Nat.le_of_ble_eq_true rfl) rfl rfl rfl rfl rfl rfl ⟨Nat.le_of_ble_eq_true rfl, Nat.le_of_ble_eq_true rfl⟩ rfl (Nat.le_of_ble_eq_true rfl) d_Slips_learn_11 rfl ?_
    refine r_istore C (q := 16) (lv' := [(4, vI r11), (0, .ref ((xW G).h 4)), (1, .ref ((xW G).h 3)), (2, vI v2), (3, vI v3)]) d_Slips_learn_14 (by decide) rfl rfl ?_
    refine r_aload_n C (q := 17) 1 d_Slips_learn_16 rfl rfl rfl ?_
    refine gxx_Slips_counts C (q := 20) fl_Slips_9 d_Slips_learn_17 rfl ?_
    refine r_iload_n C (q := 21) 4 d_Slips_learn_20 rfl rfl rfl ?_
    refine r_bipush C (q := 23) (x := 36) d_Slips_learn_21 rfl rfl ?_
    refine r_imul C (q := 24) d_Slips_learn_23 rfl ?_
    refine r_iload_n C (q := 25) 3 d_Slips_learn_24 rfl rfl rfl ?_
    refine r_iadd C (q := 26) d_Slips_learn_25 rfl ?_
    refine r_iload C (q := 28) 0 d_Slips_learn_26 rfl rfl ?_
    obtain ⟨g28, hf⟩ := gd_s hf
    refine r_iast C (q := 29) 17 (Nat.le_of_ble_eq_true rfl) (fun _ => rfl) 0 rfl g28 (by decide) d_Slips_learn_28 rfl ?_
    refine r_aload_n C (q := 30) 1 d_Slips_learn_29 rfl rfl rfl ?_
    refine gxx_Slips_counts C (q := 33) fl_Slips_9 d_Slips_learn_30 rfl ?_
    refine r_iload_n C (q := 34) 3 d_Slips_learn_33 rfl rfl rfl ?_
    refine r_bipush C (q := 36) (x := 36) d_Slips_learn_34 rfl rfl ?_
    refine r_imul C (q := 37) d_Slips_learn_36 rfl ?_
    refine r_iload_n C (q := 38) 4 d_Slips_learn_37 rfl rfl rfl ?_
    refine r_iadd C (q := 39) d_Slips_learn_38 rfl ?_
    refine r_iload C (q := 41) 0 d_Slips_learn_39 rfl rfl ?_
    obtain ⟨g41, hf⟩ := gd_s hf
    refine r_iast C (q := 42) 17 (Nat.le_of_ble_eq_true rfl) (fun _ => rfl) 0 rfl g41 (by decide) d_Slips_learn_41 rfl ?_
    refine r_iinc C (q := 45) (lv' := [(3, vI (v3 + 1)), (4, vI r11), (0, .ref ((xW G).h 4)), (1, .ref ((xW G).h 3)), (2, vI v2)]) 4 d_Slips_learn_42 rfl (by decide) rfl rfl ?_
    refine r_goto C (q := 2) d_Slips_learn_45 (by decide) ?_
    exact r_sub [2, 3, 4, 0] rfl (hk2 _ _  hf)
theorem c_x_Slips_learn {l : Launch} {G : GG} (hi : wo_i (xW G)) {N : Nat} {v2 : Int} {s : St} {o : Int × St} (hf : x_Slips_learn N v2 s = some o) : CtV l (xW G) y_Slips_learn (wo y_Slips_learn prog_10_method_3_code 5 none) rm_x_Slips_learn [.ref ((xW G).h 4), .ref ((xW G).h 3), vI v2] s o := by
  refine ct_V (by decide +kernel) hi (Nat.le_of_ble_eq_true rfl) fun X C => ?_
  unfold x_Slips_learn at hf
  show Rj X (xW G) 5 (qV X (xW G) o) 0 [(0, .ref ((xW G).h 4)), (1, .ref ((xW G).h 3)), (2, vI v2)] [] s
  refine r_iconst C (q := 1) d_Slips_learn_0 rfl ?_
  refine r_istore_n C (q := 2) (lv' := [(3, vI 0), (0, .ref ((xW G).h 4)), (1, .ref ((xW G).h 3)), (2, vI v2)]) d_Slips_learn_1 rfl (by decide) rfl rfl ?_
  have hL : ∀ (u3 : Int) (z : St), itr (x_Slips_learn_2 N v2) (fun _ _ => none) N u3 z = some o → Rj X (xW G) 5 (qV X (xW G) o) 2 [(0, .ref ((xW G).h 4)), (1, .ref ((xW G).h 3)), (2, vI v2), (3, vI u3)] [] z := itr_ind (x_Slips_learn_2 N v2) (fun _ _ => none) (fun k => ∀ (u3 : Int) (z : St), k u3 z = some o → Rj X (xW G) 5 (qV X (xW G) o) 2 [(0, .ref ((xW G).h 4)), (1, .ref ((xW G).h 3)), (2, vI v2), (3, vI u3)] [] z) (fun _ _  h => by cases h) (fun k hk u3 z h => s_x_Slips_learn_2 C hk h) N
  exact r_sub [1, 2, 3, 0] rfl (hL _ _  hf)
def x_Sounds_signFor (N : Nat) (v1 : Int) (s : St) : MM := gd (inb (v1 - 97) 26) (if eq32 (s 20 (v1 - 97)) ((-1)) then (some (v1, s)) else (some (s 20 (v1 - 97), s)))
abbrev rm_x_Sounds_signFor : Room := { frames := 0, cells := 0, slots := 0, locals := 0 }
theorem c_x_Sounds_signFor {l : Launch} {G : GG} (hi : wo_i (xW G)) {N : Nat} {v1 : Int} {s : St} {o : Int × St} (hf : x_Sounds_signFor N v1 s = some o) : CtI l (xW G) y_Sounds_signFor (wo y_Sounds_signFor prog_11_method_9_code 3 (some .int)) rm_x_Sounds_signFor [.ref ((xW G).h 5), vI v1] s o := by
  refine ct_I (by decide +kernel) hi (Nat.le_of_ble_eq_true rfl) fun X C => ?_
  unfold x_Sounds_signFor at hf
  show Rj X (xW G) 3 (qI X (xW G) o) 0 [(0, .ref ((xW G).h 5)), (1, vI v1)] [] s
  refine r_aload_n C (q := 1) 0 d_Sounds_signFor_0 rfl rfl rfl ?_
  refine gxx_Sounds_figures C (q := 4) fl_Sounds_15 d_Sounds_signFor_1 rfl ?_
  refine r_iload_n C (q := 5) 1 d_Sounds_signFor_4 rfl rfl rfl ?_
  refine r_bipush C (q := 7) (x := 97) d_Sounds_signFor_5 rfl rfl ?_
  refine r_isub C (q := 8) d_Sounds_signFor_7 rfl ?_
  obtain ⟨g8, hf⟩ := gd_s hf
  refine r_iald C (q := 9) 20 (Nat.le_of_ble_eq_true rfl) (fun _ => rfl) 0 rfl g8 (by decide) d_Sounds_signFor_8 rfl ?_
  refine r_istore_n C (q := 10) (lv' := [(2, vI (s 20 (v1 - 97))), (0, .ref ((xW G).h 5)), (1, vI v1)]) d_Sounds_signFor_9 rfl (by decide) rfl rfl ?_
  refine r_iload_n C (q := 11) 0 d_Sounds_signFor_10 rfl rfl rfl ?_
  refine r_iconst C (q := 12) d_Sounds_signFor_11 rfl ?_
  refine r_ic_ne C (t := 19) (q := 15) d_Sounds_signFor_12 (by decide) rfl (fun c12 => ?_) (fun c12 => ?_)
  · replace hf := ite_t c12 hf
    refine r_iload_n C (q := 16) 2 d_Sounds_signFor_15 rfl rfl rfl ?_
    refine r_goto C (q := 20) d_Sounds_signFor_16 (by decide) ?_
    exact r_ireturn C hf d_Sounds_signFor_20
  · replace hf := ite_f c12 hf
    refine r_iload_n C (q := 20) 0 d_Sounds_signFor_19 rfl rfl rfl ?_
    exact r_ireturn C hf d_Sounds_signFor_20
def x_Sounds_hear_95 (N : Nat) (k19 : Int → Int → St → MM) (v2 v3 v4 v5 v6 : Int) (s : St) : MM := k19 v4 (v6 + 1) s
def x_Sounds_hear_81 (N : Nat) (k19 : Int → Int → St → MM) (v2 v3 v4 v5 v6 v8 : Int) (s : St) : MM := gd (inb (v3 + v4) 360) (x_Sounds_hear_95 N k19 v2 v3 (v4 + 1) v5 v6  (su s 21 (v3 + v4) v8))
def x_Sounds_hear_51 (N : Nat) (k19 : Int → Int → St → MM) (v2 v3 v4 v5 v6 t0 : Int) (s : St) : MM := if eq32 t0 48 then (x_Sounds_hear_95 N k19 v2 v3 v4 v5 v6  s) else (if eq32 v4 0 then (x_Sounds_hear_81 N k19 v2 v3 v4 v5 v6 t0  s) else (gd (inb ((v3 + v4) - 1) 360) (if eq32 (s 21 ((v3 + v4) - 1)) t0 then (x_Sounds_hear_95 N k19 v2 v3 v4 v5 v6  s) else (x_Sounds_hear_81 N k19 v2 v3 v4 v5 v6 t0  s))))
def x_Sounds_hear_19 (N : Nat) (v2 v3 v5 : Int) (k19 : Int → Int → St → MM) (v4 v6 : Int) (s : St) : MM := if le32 v5 v6 then (gd (inb v2 36) (some (0, su s 22 v2 v4))) else (bd (x_Rows_letterAt N v2 v6 s) (fun r30 s30 => if eq32 v6 0 then (x_Sounds_hear_51 N k19 v2 v3 v4 v5 v6 r30 s30) else (bd (x_Sounds_signFor N r30 s30) (fun r48 s48 => x_Sounds_hear_51 N k19 v2 v3 v4 v5 v6 r48 s48))))
def x_Sounds_hear (N : Nat) (v2 : Int) (s : St) : MM := bd (x_Rows_fact N v2 4 s) (fun r11 s11 => itr (x_Sounds_hear_19 N v2 (v2 * 10) r11) (fun _ _ _ => none) N 0 0 s11)
abbrev rm_x_Sounds_hear : Room := { frames := 1, cells := 0, slots := 0, locals := 22 }
theorem s_x_Sounds_hear_95 {X : CxT} {l : Launch} {G : GG} (C : Cx X l (xW G) 9 prog_11_method_8_code "OneSelf$Sounds" (wo y_Sounds_hear prog_11_method_8_code 9 none) none rm_x_Sounds_hear) {o : Int × St} {N : Nat} {v2 v3 v4 v5 v6 : Int} {k19 : Int → Int → St → MM} (hk19 : ∀ (u4 u6 : Int) (s : St), k19 u4 u6 s = some o → Rj X (xW G) 9 (qV X (xW G) o) 19 [(0, .ref ((xW G).h 5)), (1, .ref ((xW G).h 3)), (2, vI v2), (3, vI v3), (4, vI u4), (5, vI v5), (6, vI u6)] [] s) {s : St} (hf : x_Sounds_hear_95 N k19 v2 v3 v4 v5 v6 s = some o) : Rj X (xW G) 9 (qV X (xW G) o) 95 [(0, .ref ((xW G).h 5)), (1, .ref ((xW G).h 3)), (2, vI v2), (3, vI v3), (4, vI v4), (5, vI v5), (6, vI v6)] [] s := by
  unfold x_Sounds_hear_95 at hf
  refine r_iinc C (q := 98) (lv' := [(6, vI (v6 + 1)), (0, .ref ((xW G).h 5)), (1, .ref ((xW G).h 3)), (2, vI v2), (3, vI v3), (4, vI v4), (5, vI v5)]) 6 d_Sounds_hear_95 rfl (by decide) rfl rfl ?_
  refine r_goto C (q := 19) d_Sounds_hear_98 (by decide) ?_
  exact r_sub [1, 2, 3, 4, 5, 6, 0] rfl (hk19 _ _ _  hf)
theorem s_x_Sounds_hear_81 {X : CxT} {l : Launch} {G : GG} (C : Cx X l (xW G) 9 prog_11_method_8_code "OneSelf$Sounds" (wo y_Sounds_hear prog_11_method_8_code 9 none) none rm_x_Sounds_hear) {o : Int × St} {N : Nat} {v2 v3 v4 v5 v6 v8 : Int} {k19 : Int → Int → St → MM} (hk19 : ∀ (u4 u6 : Int) (s : St), k19 u4 u6 s = some o → Rj X (xW G) 9 (qV X (xW G) o) 19 [(0, .ref ((xW G).h 5)), (1, .ref ((xW G).h 3)), (2, vI v2), (3, vI v3), (4, vI u4), (5, vI v5), (6, vI u6)] [] s) {s : St} (hf : x_Sounds_hear_81 N k19 v2 v3 v4 v5 v6 v8 s = some o) : Rj X (xW G) 9 (qV X (xW G) o) 81 [(0, .ref ((xW G).h 5)), (1, .ref ((xW G).h 3)), (2, vI v2), (3, vI v3), (4, vI v4), (5, vI v5), (6, vI v6), (8, vI v8)] [] s := by
  unfold x_Sounds_hear_81 at hf
  refine r_aload_n C (q := 82) 0 d_Sounds_hear_81 rfl rfl rfl ?_
  refine gxx_Sounds_signs C (q := 85) fl_Sounds_18 d_Sounds_hear_82 rfl ?_
  refine r_iload_n C (q := 86) 3 d_Sounds_hear_85 rfl rfl rfl ?_
  refine r_iload C (q := 88) 4 d_Sounds_hear_86 rfl rfl ?_
  refine r_iadd C (q := 89) d_Sounds_hear_88 rfl ?_
  refine r_iload C (q := 91) 7 d_Sounds_hear_89 rfl rfl ?_
  obtain ⟨g91, hf⟩ := gd_s hf
  refine r_iast C (q := 92) 21 (Nat.le_of_ble_eq_true rfl) (fun _ => rfl) 0 rfl g91 (by decide) d_Sounds_hear_91 rfl ?_
  refine r_iinc C (q := 95) (lv' := [(4, vI (v4 + 1)), (0, .ref ((xW G).h 5)), (1, .ref ((xW G).h 3)), (2, vI v2), (3, vI v3), (5, vI v5), (6, vI v6), (8, vI v8)]) 4 d_Sounds_hear_92 rfl (by decide) rfl rfl ?_
  exact r_sub [1, 2, 3, 4, 0, 5, 6] rfl (s_x_Sounds_hear_95 C hk19 hf)
theorem s_x_Sounds_hear_51 {X : CxT} {l : Launch} {G : GG} (C : Cx X l (xW G) 9 prog_11_method_8_code "OneSelf$Sounds" (wo y_Sounds_hear prog_11_method_8_code 9 none) none rm_x_Sounds_hear) {o : Int × St} {N : Nat} {v2 v3 v4 v5 v6 t0 : Int} {k19 : Int → Int → St → MM} (hk19 : ∀ (u4 u6 : Int) (s : St), k19 u4 u6 s = some o → Rj X (xW G) 9 (qV X (xW G) o) 19 [(0, .ref ((xW G).h 5)), (1, .ref ((xW G).h 3)), (2, vI v2), (3, vI v3), (4, vI u4), (5, vI v5), (6, vI u6)] [] s) {s : St} (hf : x_Sounds_hear_51 N k19 v2 v3 v4 v5 v6 t0 s = some o) : Rj X (xW G) 9 (qV X (xW G) o) 51 [(0, .ref ((xW G).h 5)), (1, .ref ((xW G).h 3)), (2, vI v2), (3, vI v3), (4, vI v4), (5, vI v5), (6, vI v6)] [vI t0] s := by
  unfold x_Sounds_hear_51 at hf
  refine r_istore C (q := 53) (lv' := [(8, vI t0), (0, .ref ((xW G).h 5)), (1, .ref ((xW G).h 3)), (2, vI v2), (3, vI v3), (4, vI v4), (5, vI v5), (6, vI v6)]) d_Sounds_hear_51 (by decide) rfl rfl ?_
  refine r_iload C (q := 55) 0 d_Sounds_hear_53 rfl rfl ?_
  refine r_bipush C (q := 57) (x := 48) d_Sounds_hear_55 rfl rfl ?_
  refine r_ic_eq C (t := 95) (q := 60) d_Sounds_hear_57 (by decide) rfl (fun c57 => ?_) (fun c57 => ?_)
  · replace hf := ite_t c57 hf
    exact r_sub [1, 2, 3, 4, 5, 6, 7] rfl (s_x_Sounds_hear_95 C hk19 hf)
  · replace hf := ite_f c57 hf
    refine r_iload C (q := 62) 5 d_Sounds_hear_60 rfl rfl ?_
    refine r_if_eq C (t := 81) (q := 65) d_Sounds_hear_62 (by decide) rfl (fun c62 => ?_) (fun c62 => ?_)
    · replace hf := ite_t c62 hf
      exact r_sub [1, 2, 3, 4, 5, 6, 7, 0] rfl (s_x_Sounds_hear_81 C hk19 hf)
    · replace hf := ite_f c62 hf
      refine r_aload_n C (q := 66) 1 d_Sounds_hear_65 rfl rfl rfl ?_
      refine gxx_Sounds_signs C (q := 69) fl_Sounds_18 d_Sounds_hear_66 rfl ?_
      refine r_iload_n C (q := 70) 4 d_Sounds_hear_69 rfl rfl rfl ?_
      refine r_iload C (q := 72) 5 d_Sounds_hear_70 rfl rfl ?_
      refine r_iadd C (q := 73) d_Sounds_hear_72 rfl ?_
      refine r_iconst C (q := 74) d_Sounds_hear_73 rfl ?_
      refine r_isub C (q := 75) d_Sounds_hear_74 rfl ?_
      obtain ⟨g75, hf⟩ := gd_s hf
      refine r_iald C (q := 76) 21 (Nat.le_of_ble_eq_true rfl) (fun _ => rfl) 0 rfl g75 (by decide) d_Sounds_hear_75 rfl ?_
      refine r_iload C (q := 78) 0 d_Sounds_hear_76 rfl rfl ?_
      refine r_ic_eq C (t := 95) (q := 81) d_Sounds_hear_78 (by decide) rfl (fun c78 => ?_) (fun c78 => ?_)
      · replace hf := ite_t c78 hf
        exact r_sub [1, 2, 3, 4, 5, 6, 7] rfl (s_x_Sounds_hear_95 C hk19 hf)
      · replace hf := ite_f c78 hf
        exact r_sub [1, 2, 3, 4, 5, 6, 7, 0] rfl (s_x_Sounds_hear_81 C hk19 hf)
theorem s_x_Sounds_hear_19 {X : CxT} {l : Launch} {G : GG} (C : Cx X l (xW G) 9 prog_11_method_8_code "OneSelf$Sounds" (wo y_Sounds_hear prog_11_method_8_code 9 none) none rm_x_Sounds_hear) {o : Int × St} {N : Nat} {v2 v3 v4 v5 v6 : Int} {k19 : Int → Int → St → MM} (hk19 : ∀ (u4 u6 : Int) (s : St), k19 u4 u6 s = some o → Rj X (xW G) 9 (qV X (xW G) o) 19 [(0, .ref ((xW G).h 5)), (1, .ref ((xW G).h 3)), (2, vI v2), (3, vI v3), (4, vI u4), (5, vI v5), (6, vI u6)] [] s) {s : St} (hf : x_Sounds_hear_19 N v2 v3 v5 k19 v4 v6 s = some o) : Rj X (xW G) 9 (qV X (xW G) o) 19 [(0, .ref ((xW G).h 5)), (1, .ref ((xW G).h 3)), (2, vI v2), (3, vI v3), (4, vI v4), (5, vI v5), (6, vI v6)] [] s := by
  unfold x_Sounds_hear_19 at hf
  refine r_iload C (q := 21) 6 d_Sounds_hear_19 rfl rfl ?_
  refine r_iload C (q := 23) 5 d_Sounds_hear_21 rfl rfl ?_
  refine r_ic_ge C (t := 101) (q := 26) d_Sounds_hear_23 (by decide) rfl (fun c23 => ?_) (fun c23 => ?_)
  · replace hf := ite_t c23 hf
    refine r_aload_n C (q := 102) 0 d_Sounds_hear_101 rfl rfl rfl ?_
    refine gxx_Sounds_lengths C (q := 105) fl_Sounds_21 d_Sounds_hear_102 rfl ?_
    refine r_iload_n C (q := 106) 2 d_Sounds_hear_105 rfl rfl rfl ?_
    refine r_iload C (q := 108) 4 d_Sounds_hear_106 rfl rfl ?_
    obtain ⟨g108, hf⟩ := gd_s hf
    refine r_iast C (q := 109) 22 (Nat.le_of_ble_eq_true rfl) (fun _ => rfl) 0 rfl g108 (by decide) d_Sounds_hear_108 rfl ?_
    exact r_return C hf d_Sounds_hear_109
  · replace hf := ite_f c23 hf
    refine r_aload_n C (q := 27) 1 d_Sounds_hear_26 rfl rfl rfl ?_
    refine r_iload_n C (q := 28) 2 d_Sounds_hear_27 rfl rfl rfl ?_
    refine r_iload C (q := 30) 6 d_Sounds_hear_28 rfl rfl ?_
    obtain ⟨r30, s30, hg30, hf⟩ := bd_s hf
    refine r_cVI C (q := 33) (As := [vI v2, vI v6]) (k0 := 3) (c_x_Rows_letterAt C.i hg30) mt_Rows_letterAt ml_Sounds_65 (Nat.le_of_ble_eq_true rfl) rfl rfl rfl rfl rfl rfl ⟨Nat.le_of_ble_eq_true rfl, Nat.le_of_ble_eq_true rfl⟩ rfl (Nat.le_of_ble_eq_true rfl) d_Sounds_hear_30 rfl ?_
    refine r_istore C (q := 35) (lv' := [(7, vI r30), (0, .ref ((xW G).h 5)), (1, .ref ((xW G).h 3)), (2, vI v2), (3, vI v3), (4, vI v4), (5, vI v5), (6, vI v6)]) d_Sounds_hear_33 (by decide) rfl rfl ?_
    refine r_iload C (q := 37) 7 d_Sounds_hear_35 rfl rfl ?_
    refine r_if_ne C (t := 45) (q := 40) d_Sounds_hear_37 (by decide) rfl (fun c37 => ?_) (fun c37 => ?_)
    · replace hf := ite_t c37 hf
      refine r_iload C (q := 42) 0 d_Sounds_hear_40 rfl rfl ?_
      refine r_goto C (q := 51) d_Sounds_hear_42 (by decide) ?_
      exact r_sub [1, 2, 3, 4, 5, 6, 7] rfl (s_x_Sounds_hear_51 C hk19 hf)
    · replace hf := ite_f c37 hf
      refine r_aload_n C (q := 46) 1 d_Sounds_hear_45 rfl rfl rfl ?_
      refine r_iload C (q := 48) 0 d_Sounds_hear_46 rfl rfl ?_
      obtain ⟨r48, s48, hg48, hf⟩ := bd_s hf
      refine r_cVI C (q := 51) (As := [vI r30]) (k0 := 5) (c_x_Sounds_signFor C.i hg48) mt_Sounds_signFor ml_Sounds_68 (Nat.le_of_ble_eq_true rfl) rfl rfl rfl rfl rfl rfl ⟨Nat.le_of_ble_eq_true rfl, Nat.le_of_ble_eq_true rfl⟩ rfl (Nat.le_of_ble_eq_true rfl) d_Sounds_hear_48 rfl ?_
      exact r_sub [1, 2, 3, 4, 5, 6, 7] rfl (s_x_Sounds_hear_51 C hk19 hf)
theorem c_x_Sounds_hear {l : Launch} {G : GG} (hi : wo_i (xW G)) {N : Nat} {v2 : Int} {s : St} {o : Int × St} (hf : x_Sounds_hear N v2 s = some o) : CtV l (xW G) y_Sounds_hear (wo y_Sounds_hear prog_11_method_8_code 9 none) rm_x_Sounds_hear [.ref ((xW G).h 5), .ref ((xW G).h 3), vI v2] s o := by
  refine ct_V (by decide +kernel) hi (Nat.le_of_ble_eq_true rfl) fun X C => ?_
  unfold x_Sounds_hear at hf
  show Rj X (xW G) 9 (qV X (xW G) o) 0 [(0, .ref ((xW G).h 5)), (1, .ref ((xW G).h 3)), (2, vI v2)] [] s
  refine r_iload_n C (q := 1) 2 d_Sounds_hear_0 rfl rfl rfl ?_
  refine r_bipush C (q := 3) (x := 10) d_Sounds_hear_1 rfl rfl ?_
  refine r_imul C (q := 4) d_Sounds_hear_3 rfl ?_
  refine r_istore_n C (q := 5) (lv' := [(3, vI (v2 * 10)), (0, .ref ((xW G).h 5)), (1, .ref ((xW G).h 3)), (2, vI v2)]) d_Sounds_hear_4 rfl (by decide) rfl rfl ?_
  refine r_iconst C (q := 6) d_Sounds_hear_5 rfl ?_
  refine r_istore C (q := 8) (lv' := [(4, vI 0), (3, vI (v2 * 10)), (0, .ref ((xW G).h 5)), (1, .ref ((xW G).h 3)), (2, vI v2)]) d_Sounds_hear_6 (by decide) rfl rfl ?_
  refine r_aload_n C (q := 9) 3 d_Sounds_hear_8 rfl rfl rfl ?_
  refine r_iload_n C (q := 10) 4 d_Sounds_hear_9 rfl rfl rfl ?_
  refine r_iconst C (q := 11) d_Sounds_hear_10 rfl ?_
  obtain ⟨r11, s11, hg11, hf⟩ := bd_s hf
  refine r_cVI C (q := 14) (As := [vI v2, vI 4]) (k0 := 3) (c_x_Rows_fact C.i hg11) mt_Rows_fact ml_Sounds_62 (Nat.le_of_ble_eq_true rfl) rfl rfl rfl rfl rfl rfl ⟨Nat.le_of_ble_eq_true rfl, Nat.le_of_ble_eq_true rfl⟩ rfl (Nat.le_of_ble_eq_true rfl) d_Sounds_hear_11 rfl ?_
  refine r_istore C (q := 16) (lv' := [(5, vI r11), (4, vI 0), (3, vI (v2 * 10)), (0, .ref ((xW G).h 5)), (1, .ref ((xW G).h 3)), (2, vI v2)]) d_Sounds_hear_14 (by decide) rfl rfl ?_
  refine r_iconst C (q := 17) d_Sounds_hear_16 rfl ?_
  refine r_istore C (q := 19) (lv' := [(6, vI 0), (5, vI r11), (4, vI 0), (3, vI (v2 * 10)), (0, .ref ((xW G).h 5)), (1, .ref ((xW G).h 3)), (2, vI v2)]) d_Sounds_hear_17 (by decide) rfl rfl ?_
  have hL : ∀ (u4 u6 : Int) (z : St), itr (x_Sounds_hear_19 N v2 (v2 * 10) r11) (fun _ _ _ => none) N u4 u6 z = some o → Rj X (xW G) 9 (qV X (xW G) o) 19 [(0, .ref ((xW G).h 5)), (1, .ref ((xW G).h 3)), (2, vI v2), (3, vI (v2 * 10)), (4, vI u4), (5, vI r11), (6, vI u6)] [] z := itr_ind (x_Sounds_hear_19 N v2 (v2 * 10) r11) (fun _ _ _ => none) (fun k => ∀ (u4 u6 : Int) (z : St), k u4 u6 z = some o → Rj X (xW G) 9 (qV X (xW G) o) 19 [(0, .ref ((xW G).h 5)), (1, .ref ((xW G).h 3)), (2, vI v2), (3, vI (v2 * 10)), (4, vI u4), (5, vI r11), (6, vI u6)] [] z) (fun _ _ _  h => by cases h) (fun k hk u4 u6 z h => s_x_Sounds_hear_19 C hk h) N
  exact r_sub [4, 5, 6, 3, 2, 1, 0] rfl (hL _ _ _  hf)
def x_Rows_spell (N : Nat) (v1 v2 : Int) (s : St) : MM := bd (x_Rows_fact N v1 4 s) (fun r3 s3 => if le32 10 r3 then (some (0, s3)) else (gd (inb ((v1 * 10) + r3) 360) (gd (inb ((v1 * 7) + 4) 252) (some (0, su (su s3 16 ((v1 * 10) + r3) v2) 15 ((v1 * 7) + 4) (r3 + 1))))))
abbrev rm_x_Rows_spell : Room := { frames := 1, cells := 0, slots := 0, locals := 22 }
theorem c_x_Rows_spell {l : Launch} {G : GG} (hi : wo_i (xW G)) {N : Nat} {v1 v2 : Int} {s : St} {o : Int × St} (hf : x_Rows_spell N v1 v2 s = some o) : CtV l (xW G) y_Rows_spell (wo y_Rows_spell prog_8_method_5_code 4 none) rm_x_Rows_spell [.ref ((xW G).h 3), vI v1, vI v2] s o := by
  refine ct_V (by decide +kernel) hi (Nat.le_of_ble_eq_true rfl) fun X C => ?_
  unfold x_Rows_spell at hf
  show Rj X (xW G) 4 (qV X (xW G) o) 0 [(0, .ref ((xW G).h 3)), (1, vI v1), (2, vI v2)] [] s
  refine r_aload_n C (q := 1) 0 d_Rows_spell_0 rfl rfl rfl ?_
  refine r_iload_n C (q := 2) 1 d_Rows_spell_1 rfl rfl rfl ?_
  refine r_iconst C (q := 3) d_Rows_spell_2 rfl ?_
  obtain ⟨r3, s3, hg3, hf⟩ := bd_s hf
  refine r_cVI C (q := 6) (As := [vI v1, vI 4]) (k0 := 3) (c_x_Rows_fact C.i hg3) mt_Rows_fact ml_Rows_36 (Nat.le_of_ble_eq_true rfl) rfl rfl rfl rfl rfl rfl ⟨Nat.le_of_ble_eq_true rfl, Nat.le_of_ble_eq_true rfl⟩ rfl (Nat.le_of_ble_eq_true rfl) d_Rows_spell_3 rfl ?_
  refine r_istore_n C (q := 7) (lv' := [(3, vI r3), (0, .ref ((xW G).h 3)), (1, vI v1), (2, vI v2)]) d_Rows_spell_6 rfl (by decide) rfl rfl ?_
  refine r_iload_n C (q := 8) 0 d_Rows_spell_7 rfl rfl rfl ?_
  refine r_bipush C (q := 10) (x := 10) d_Rows_spell_8 rfl rfl ?_
  refine r_ic_ge C (t := 39) (q := 13) d_Rows_spell_10 (by decide) rfl (fun c10 => ?_) (fun c10 => ?_)
  · replace hf := ite_t c10 hf
    exact r_return C hf d_Rows_spell_39
  · replace hf := ite_f c10 hf
    refine r_aload_n C (q := 14) 1 d_Rows_spell_13 rfl rfl rfl ?_
    refine gxx_Rows_letters C (q := 17) fl_Rows_15 d_Rows_spell_14 rfl ?_
    refine r_iload_n C (q := 18) 2 d_Rows_spell_17 rfl rfl rfl ?_
    refine r_bipush C (q := 20) (x := 10) d_Rows_spell_18 rfl rfl ?_
    refine r_imul C (q := 21) d_Rows_spell_20 rfl ?_
    refine r_iload_n C (q := 22) 0 d_Rows_spell_21 rfl rfl rfl ?_
    refine r_iadd C (q := 23) d_Rows_spell_22 rfl ?_
    refine r_iload_n C (q := 24) 3 d_Rows_spell_23 rfl rfl rfl ?_
    obtain ⟨g24, hf⟩ := gd_s hf
    refine r_iast C (q := 25) 16 (Nat.le_of_ble_eq_true rfl) (fun _ => rfl) 0 rfl g24 (by decide) d_Rows_spell_24 rfl ?_
    refine r_aload_n C (q := 26) 1 d_Rows_spell_25 rfl rfl rfl ?_
    refine gxx_Rows_facts C (q := 29) fl_Rows_9 d_Rows_spell_26 rfl ?_
    refine r_iload_n C (q := 30) 2 d_Rows_spell_29 rfl rfl rfl ?_
    refine r_bipush C (q := 32) (x := 7) d_Rows_spell_30 rfl rfl ?_
    refine r_imul C (q := 33) d_Rows_spell_32 rfl ?_
    refine r_iconst C (q := 34) d_Rows_spell_33 rfl ?_
    refine r_iadd C (q := 35) d_Rows_spell_34 rfl ?_
    refine r_iload_n C (q := 36) 0 d_Rows_spell_35 rfl rfl rfl ?_
    refine r_iconst C (q := 37) d_Rows_spell_36 rfl ?_
    refine r_iadd C (q := 38) d_Rows_spell_37 rfl ?_
    obtain ⟨g38, hf⟩ := gd_s hf
    refine r_iast C (q := 39) 15 (Nat.le_of_ble_eq_true rfl) (fun _ => rfl) 0 rfl g38 (by decide) d_Rows_spell_38 rfl ?_
    exact r_return C hf d_Rows_spell_39
def x_row_146 (N : Nat) (v2 v3 v4 v8 : Int) (k146 : Int → St → MM) (v9 : Int) (s : St) : MM := if le32 v4 v9 then (bd (x_Slips_learn N v8 s) (fun r190 s190 => bd (x_Sounds_hear N v8 s190) (fun r203 s203 => some (v8, s203)))) else (bd (x_Sheets_itemAt N v2 (v3 + v9) s) (fun r168 s168 => bd (x_Rows_spell N v8 r168 s168) (fun r171 s171 => k146 (v9 + 1) s171)))
def x_row (N : Nat) (v1 v2 v3 v4 v5 v6 v7 : Int) (s : St) : MM := bd (x_isBelow N v1 3 s) (fun r2 s2 => if eq32 r2 0 then (some ((-2), s2)) else (bd (x_Sheets_isSheet N v2 s2) (fun r9 s9 => if eq32 r9 0 then (some ((-2), s9)) else (if lt32 v3 0 then (some ((-2), s9)) else (bd (x_isWithin N v4 1 10 s9) (fun r24 s24 => if eq32 r24 0 then (some ((-2), s24)) else (bd (x_areFacts N v5 v6 v7 s24) (fun r36 s36 => if eq32 r36 0 then (some ((-2), s36)) else (bd (x_Sheets_isLost N v2 s36) (fun r50 s50 => if eq32 r50 0 then (bd (x_Sheets_hasItems N v2 v3 v4 s50) (fun r73 s73 => if eq32 r73 0 then (bd (x_Sheets_noteFinding N 2 s73) (fun r84 s84 => some (r84, s84))) else (bd (x_Sheets_areLetters N v2 v3 v4 s73) (fun r96 s96 => if eq32 r96 0 then (some ((-3), s96)) else (if lt32 (s96 3 2) 36 then (bd (x_Rows_add N v1 v5 v6 v7 s96) (fun r140 s140 => itr (x_row_146 N v2 v3 v4 (s96 3 2)) (fun _ _ => none) N 0 s140)) else (some ((-4), s96))))))) else (bd (x_Sheets_noteFinding N 1 s50) (fun r61 s61 => some (r61, s61)))))))))))))
abbrev rm_x_row : Room := { frames := 4, cells := 0, slots := 0, locals := 103 }
theorem s_x_row_146 {X : CxT} {l : Launch} {G : GG} (C : Cx X l (xW G) 10 prog_1_method_3_code "OneSelf" (wo y_O_row prog_1_method_3_code 10 (some .int)) (some .int) rm_x_row) {o : Int × St} {N : Nat} {v2 v3 v4 v8 v9 : Int} {k146 : Int → St → MM} (hk146 : ∀ (u9 : Int) (s : St), k146 u9 s = some o → Rj X (xW G) 10 (qI X (xW G) o) 146 [(0, .ref ((xW G).h 0)), (2, vI v2), (3, vI v3), (4, vI v4), (8, vI v8), (9, vI u9)] [] s) {s : St} (hf : x_row_146 N v2 v3 v4 v8 k146 v9 s = some o) : Rj X (xW G) 10 (qI X (xW G) o) 146 [(0, .ref ((xW G).h 0)), (2, vI v2), (3, vI v3), (4, vI v4), (8, vI v8), (9, vI v9)] [] s := by
  unfold x_row_146 at hf
  refine r_iload C (q := 148) 5 d_O_row_146 rfl rfl ?_
  refine r_iload C (q := 150) 3 d_O_row_148 rfl rfl ?_
  refine r_ic_ge C (t := 180) (q := 153) d_O_row_150 (by decide) rfl (fun c150 => ?_) (fun c150 => ?_)
  · replace hf := ite_t c150 hf
    refine r_aload_n C (q := 181) 0 d_O_row_180 rfl rfl rfl ?_
    refine gxx_O_slips C (q := 184) fl_O_32 d_O_row_181 rfl ?_
    refine r_aload_n C (q := 185) 0 d_O_row_184 rfl rfl rfl ?_
    refine gxx_O_rows C (q := 188) fl_O_27 d_O_row_185 rfl ?_
    refine r_iload C (q := 190) 4 d_O_row_188 rfl rfl ?_
    obtain ⟨r190, s190, hg190, hf⟩ := bd_s hf
    refine r_cVV C (q := 193) (As := [.ref ((xW G).h 3), vI v8]) (k0 := 4) (c_x_Slips_learn C.i hg190) mt_Slips_learn ml_O_127 (Nat.le_of_ble_eq_true rfl) rfl rfl rfl rfl rfl rfl ⟨Nat.le_of_ble_eq_true rfl, Nat.le_of_ble_eq_true rfl⟩ rfl (Nat.le_of_ble_eq_true rfl) d_O_row_190 rfl ?_
    refine r_aload_n C (q := 194) 0 d_O_row_193 rfl rfl rfl ?_
    refine gxx_O_sounds C (q := 197) fl_O_37 d_O_row_194 rfl ?_
    refine r_aload_n C (q := 198) 0 d_O_row_197 rfl rfl rfl ?_
    refine gxx_O_rows C (q := 201) fl_O_27 d_O_row_198 rfl ?_
    refine r_iload C (q := 203) 4 d_O_row_201 rfl rfl ?_
    obtain ⟨r203, s203, hg203, hf⟩ := bd_s hf
    refine r_cVV C (q := 206) (As := [.ref ((xW G).h 3), vI v8]) (k0 := 5) (c_x_Sounds_hear C.i hg203) mt_Sounds_hear ml_O_133 (Nat.le_of_ble_eq_true rfl) rfl rfl rfl rfl rfl rfl ⟨Nat.le_of_ble_eq_true rfl, Nat.le_of_ble_eq_true rfl⟩ rfl (Nat.le_of_ble_eq_true rfl) d_O_row_203 rfl ?_
    refine r_iload C (q := 208) 4 d_O_row_206 rfl rfl ?_
    exact r_ireturn C hf d_O_row_208
  · replace hf := ite_f c150 hf
    refine r_aload_n C (q := 154) 0 d_O_row_153 rfl rfl rfl ?_
    refine gxx_O_rows C (q := 157) fl_O_27 d_O_row_154 rfl ?_
    refine r_iload C (q := 159) 4 d_O_row_157 rfl rfl ?_
    refine r_aload_n C (q := 160) 0 d_O_row_159 rfl rfl rfl ?_
    refine gxx_O_sheets C (q := 163) fl_O_10 d_O_row_160 rfl ?_
    refine r_iload_n C (q := 164) 1 d_O_row_163 rfl rfl rfl ?_
    refine r_iload_n C (q := 165) 2 d_O_row_164 rfl rfl rfl ?_
    refine r_iload C (q := 167) 5 d_O_row_165 rfl rfl ?_
    refine r_iadd C (q := 168) d_O_row_167 rfl ?_
    obtain ⟨r168, s168, hg168, hf⟩ := bd_s hf
    refine r_cVI C (q := 171) (As := [vI v2, vI (v3 + v9)]) (k0 := 1) (c_x_Sheets_itemAt C.i hg168) mt_Sheets_itemAt ml_O_119 (Nat.le_of_ble_eq_true rfl) rfl rfl rfl rfl rfl rfl ⟨Nat.le_of_ble_eq_true rfl, Nat.le_of_ble_eq_true rfl⟩ rfl (Nat.le_of_ble_eq_true rfl) d_O_row_168 rfl ?_
    obtain ⟨r171, s171, hg171, hf⟩ := bd_s hf
    refine r_cVV C (q := 174) (As := [vI v8, vI r168]) (k0 := 3) (c_x_Rows_spell C.i hg171) mt_Rows_spell ml_O_123 (Nat.le_of_ble_eq_true rfl) rfl rfl rfl rfl rfl rfl ⟨Nat.le_of_ble_eq_true rfl, Nat.le_of_ble_eq_true rfl⟩ rfl (Nat.le_of_ble_eq_true rfl) d_O_row_171 rfl ?_
    refine r_iinc C (q := 177) (lv' := [(9, vI (v9 + 1)), (0, .ref ((xW G).h 0)), (2, vI v2), (3, vI v3), (4, vI v4), (8, vI v8)]) 5 d_O_row_174 rfl (by decide) rfl rfl ?_
    refine r_goto C (q := 146) d_O_row_177 (by decide) ?_
    exact r_sub [1, 2, 3, 4, 5, 0] rfl (hk146 _ _  hf)
theorem c_x_row {l : Launch} {G : GG} (hi : wo_i (xW G)) {N : Nat} {v1 v2 v3 v4 v5 v6 v7 : Int} {s : St} {o : Int × St} (hf : x_row N v1 v2 v3 v4 v5 v6 v7 s = some o) : CtI l (xW G) y_O_row (wo y_O_row prog_1_method_3_code 10 (some .int)) rm_x_row [.ref ((xW G).h 0), vI v1, vI v2, vI v3, vI v4, vI v5, vI v6, vI v7] s o := by
  refine ct_I (by decide +kernel) hi (Nat.le_of_ble_eq_true rfl) fun X C => ?_
  unfold x_row at hf
  show Rj X (xW G) 10 (qI X (xW G) o) 0 [(0, .ref ((xW G).h 0)), (1, vI v1), (2, vI v2), (3, vI v3), (4, vI v4), (5, vI v5), (6, vI v6), (7, vI v7)] [] s
  refine r_iload_n C (q := 1) 1 d_O_row_0 rfl rfl rfl ?_
  refine r_iconst C (q := 2) d_O_row_1 rfl ?_
  obtain ⟨r2, s2, hg2, hf⟩ := bd_s hf
  refine r_cSI C (q := 5) (As := [vI v1, vI 3]) (c_x_isBelow C.i hg2) mt_O_isBelow ml_O_88 rfl rfl rfl ⟨Nat.le_of_ble_eq_true rfl, Nat.le_of_ble_eq_true rfl⟩ rfl (Nat.le_of_ble_eq_true rfl) d_O_row_2 rfl ?_
  refine r_if_eq C (t := 42) (q := 8) d_O_row_5 (by decide) rfl (fun c5 => ?_) (fun c5 => ?_)
  · replace hf := ite_t c5 hf
    refine r_bipush C (q := 44) (x := (-2)) d_O_row_42 rfl rfl ?_
    exact r_ireturn C hf d_O_row_44
  · replace hf := ite_f c5 hf
    refine r_iload_n C (q := 9) 2 d_O_row_8 rfl rfl rfl ?_
    obtain ⟨r9, s9, hg9, hf⟩ := bd_s hf
    refine r_cSI C (q := 12) (As := [vI v2]) (c_x_Sheets_isSheet C.i hg9) mt_Sheets_isSheet ml_O_92 rfl rfl rfl ⟨Nat.le_of_ble_eq_true rfl, Nat.le_of_ble_eq_true rfl⟩ rfl (Nat.le_of_ble_eq_true rfl) d_O_row_9 rfl ?_
    refine r_if_eq C (t := 42) (q := 15) d_O_row_12 (by decide) rfl (fun c12 => ?_) (fun c12 => ?_)
    · replace hf := ite_t c12 hf
      refine r_bipush C (q := 44) (x := (-2)) d_O_row_42 rfl rfl ?_
      exact r_ireturn C hf d_O_row_44
    · replace hf := ite_f c12 hf
      refine r_iload_n C (q := 16) 3 d_O_row_15 rfl rfl rfl ?_
      refine r_if_lt C (t := 42) (q := 19) d_O_row_16 (by decide) rfl (fun c16 => ?_) (fun c16 => ?_)
      · replace hf := ite_t c16 hf
        refine r_bipush C (q := 44) (x := (-2)) d_O_row_42 rfl rfl ?_
        exact r_ireturn C hf d_O_row_44
      · replace hf := ite_f c16 hf
        refine r_iload C (q := 21) 4 d_O_row_19 rfl rfl ?_
        refine r_iconst C (q := 22) d_O_row_21 rfl ?_
        refine r_bipush C (q := 24) (x := 10) d_O_row_22 rfl rfl ?_
        obtain ⟨r24, s24, hg24, hf⟩ := bd_s hf
        refine r_cSI C (q := 27) (As := [vI v4, vI 1, vI 10]) (c_x_isWithin C.i hg24) mt_O_isWithin ml_O_78 rfl rfl rfl ⟨Nat.le_of_ble_eq_true rfl, Nat.le_of_ble_eq_true rfl⟩ rfl (Nat.le_of_ble_eq_true rfl) d_O_row_24 rfl ?_
        refine r_if_eq C (t := 42) (q := 30) d_O_row_27 (by decide) rfl (fun c27 => ?_) (fun c27 => ?_)
        · replace hf := ite_t c27 hf
          refine r_bipush C (q := 44) (x := (-2)) d_O_row_42 rfl rfl ?_
          exact r_ireturn C hf d_O_row_44
        · replace hf := ite_f c27 hf
          refine r_iload C (q := 32) 5 d_O_row_30 rfl rfl ?_
          refine r_iload C (q := 34) 6 d_O_row_32 rfl rfl ?_
          refine r_iload C (q := 36) 7 d_O_row_34 rfl rfl ?_
          obtain ⟨r36, s36, hg36, hf⟩ := bd_s hf
          refine r_cSI C (q := 39) (As := [vI v5, vI v6, vI v7]) (c_x_areFacts C.i hg36) mt_O_areFacts ml_O_96 rfl rfl rfl ⟨Nat.le_of_ble_eq_true rfl, Nat.le_of_ble_eq_true rfl⟩ rfl (Nat.le_of_ble_eq_true rfl) d_O_row_36 rfl ?_
          refine r_if_ne C (t := 45) (q := 42) d_O_row_39 (by decide) rfl (fun c39 => ?_) (fun c39 => ?_)
          · replace hf := ite_t c39 hf
            refine r_bipush C (q := 44) (x := (-2)) d_O_row_42 rfl rfl ?_
            exact r_ireturn C hf d_O_row_44
          · replace hf := ite_f c39 hf
            refine r_aload_n C (q := 46) 0 d_O_row_45 rfl rfl rfl ?_
            refine gxx_O_sheets C (q := 49) fl_O_10 d_O_row_46 rfl ?_
            refine r_iload_n C (q := 50) 2 d_O_row_49 rfl rfl rfl ?_
            obtain ⟨r50, s50, hg50, hf⟩ := bd_s hf
            refine r_cVI C (q := 53) (As := [vI v2]) (k0 := 1) (c_x_Sheets_isLost C.i hg50) mt_Sheets_isLost ml_O_99 (Nat.le_of_ble_eq_true rfl) rfl rfl rfl rfl rfl rfl ⟨Nat.le_of_ble_eq_true rfl, Nat.le_of_ble_eq_true rfl⟩ rfl (Nat.le_of_ble_eq_true rfl) d_O_row_50 rfl ?_
            refine r_if_eq C (t := 65) (q := 56) d_O_row_53 (by decide) rfl (fun c53 => ?_) (fun c53 => ?_)
            · replace hf := ite_t c53 hf
              refine r_aload_n C (q := 66) 0 d_O_row_65 rfl rfl rfl ?_
              refine gxx_O_sheets C (q := 69) fl_O_10 d_O_row_66 rfl ?_
              refine r_iload_n C (q := 70) 2 d_O_row_69 rfl rfl rfl ?_
              refine r_iload_n C (q := 71) 3 d_O_row_70 rfl rfl rfl ?_
              refine r_iload C (q := 73) 4 d_O_row_71 rfl rfl ?_
              obtain ⟨r73, s73, hg73, hf⟩ := bd_s hf
              refine r_cVI C (q := 76) (As := [vI v2, vI v3, vI v4]) (k0 := 1) (c_x_Sheets_hasItems C.i hg73) mt_Sheets_hasItems ml_O_106 (Nat.le_of_ble_eq_true rfl) rfl rfl rfl rfl rfl rfl ⟨Nat.le_of_ble_eq_true rfl, Nat.le_of_ble_eq_true rfl⟩ rfl (Nat.le_of_ble_eq_true rfl) d_O_row_73 rfl ?_
              refine r_if_ne C (t := 88) (q := 79) d_O_row_76 (by decide) rfl (fun c76 => ?_) (fun c76 => ?_)
              · replace hf := ite_t c76 hf
                refine r_aload_n C (q := 80) 0 d_O_row_79 rfl rfl rfl ?_
                refine gxx_O_sheets C (q := 83) fl_O_10 d_O_row_80 rfl ?_
                refine r_iconst C (q := 84) d_O_row_83 rfl ?_
                obtain ⟨r84, s84, hg84, hf⟩ := bd_s hf
                refine r_cVI C (q := 87) (As := [vI 2]) (k0 := 1) (c_x_Sheets_noteFinding C.i hg84) mt_Sheets_noteFinding ml_O_102 (Nat.le_of_ble_eq_true rfl) rfl rfl rfl rfl rfl rfl ⟨Nat.le_of_ble_eq_true rfl, Nat.le_of_ble_eq_true rfl⟩ rfl (Nat.le_of_ble_eq_true rfl) d_O_row_84 rfl ?_
                exact r_ireturn C hf d_O_row_87
              · replace hf := ite_f c76 hf
                refine r_aload_n C (q := 89) 0 d_O_row_88 rfl rfl rfl ?_
                refine gxx_O_sheets C (q := 92) fl_O_10 d_O_row_89 rfl ?_
                refine r_iload_n C (q := 93) 2 d_O_row_92 rfl rfl rfl ?_
                refine r_iload_n C (q := 94) 3 d_O_row_93 rfl rfl rfl ?_
                refine r_iload C (q := 96) 4 d_O_row_94 rfl rfl ?_
                obtain ⟨r96, s96, hg96, hf⟩ := bd_s hf
                refine r_cVI C (q := 99) (As := [vI v2, vI v3, vI v4]) (k0 := 1) (c_x_Sheets_areLetters C.i hg96) mt_Sheets_areLetters ml_O_109 (Nat.le_of_ble_eq_true rfl) rfl rfl rfl rfl rfl rfl ⟨Nat.le_of_ble_eq_true rfl, Nat.le_of_ble_eq_true rfl⟩ rfl (Nat.le_of_ble_eq_true rfl) d_O_row_96 rfl ?_
                refine r_if_ne C (t := 105) (q := 102) d_O_row_99 (by decide) rfl (fun c99 => ?_) (fun c99 => ?_)
                · replace hf := ite_t c99 hf
                  refine r_bipush C (q := 104) (x := (-3)) d_O_row_102 rfl rfl ?_
                  exact r_ireturn C hf d_O_row_104
                · replace hf := ite_f c99 hf
                  refine r_aload_n C (q := 106) 0 d_O_row_105 rfl rfl rfl ?_
                  refine gxx_O_rows C (q := 109) fl_O_27 d_O_row_106 rfl ?_
                  refine gnx_Rows_many C (q := 112) fn_O_112 d_O_row_109 rfl ?_
                  refine r_bipush C (q := 114) (x := 36) d_O_row_112 rfl rfl ?_
                  refine r_ic_lt C (t := 120) (q := 117) d_O_row_114 (by decide) rfl (fun c114 => ?_) (fun c114 => ?_)
                  · replace hf := ite_t c114 hf
                    refine r_aload_n C (q := 121) 0 d_O_row_120 rfl rfl rfl ?_
                    refine gxx_O_rows C (q := 124) fl_O_27 d_O_row_121 rfl ?_
                    refine gnx_Rows_many C (q := 127) fn_O_112 d_O_row_124 rfl ?_
                    refine r_istore C (q := 129) (lv' := [(8, vI (s96 3 2)), (0, .ref ((xW G).h 0)), (1, vI v1), (2, vI v2), (3, vI v3), (4, vI v4), (5, vI v5), (6, vI v6), (7, vI v7)]) d_O_row_127 (by decide) rfl rfl ?_
                    refine r_aload_n C (q := 130) 1 d_O_row_129 rfl rfl rfl ?_
                    refine gxx_O_rows C (q := 133) fl_O_27 d_O_row_130 rfl ?_
                    refine r_iload_n C (q := 134) 2 d_O_row_133 rfl rfl rfl ?_
                    refine r_iload C (q := 136) 6 d_O_row_134 rfl rfl ?_
                    refine r_iload C (q := 138) 7 d_O_row_136 rfl rfl ?_
                    refine r_iload C (q := 140) 8 d_O_row_138 rfl rfl ?_
                    obtain ⟨r140, s140, hg140, hf⟩ := bd_s hf
                    refine r_cVV C (q := 143) (As := [vI v1, vI v5, vI v6, vI v7]) (k0 := 3) (c_x_Rows_add C.i hg140) mt_Rows_add ml_O_115 (Nat.le_of_ble_eq_true rfl) rfl rfl rfl rfl rfl rfl ⟨Nat.le_of_ble_eq_true rfl, Nat.le_of_ble_eq_true rfl⟩ rfl (Nat.le_of_ble_eq_true rfl) d_O_row_140 rfl ?_
                    refine r_iconst C (q := 144) d_O_row_143 rfl ?_
                    refine r_istore C (q := 146) (lv' := [(9, vI 0), (8, vI (s96 3 2)), (0, .ref ((xW G).h 0)), (1, vI v1), (2, vI v2), (3, vI v3), (4, vI v4), (5, vI v5), (6, vI v6), (7, vI v7)]) d_O_row_144 (by decide) rfl rfl ?_
                    have hL : ∀ (u9 : Int) (z : St), itr (x_row_146 N v2 v3 v4 (s96 3 2)) (fun _ _ => none) N u9 z = some o → Rj X (xW G) 10 (qI X (xW G) o) 146 [(0, .ref ((xW G).h 0)), (2, vI v2), (3, vI v3), (4, vI v4), (8, vI (s96 3 2)), (9, vI u9)] [] z := itr_ind (x_row_146 N v2 v3 v4 (s96 3 2)) (fun _ _ => none) (fun k => ∀ (u9 : Int) (z : St), k u9 z = some o → Rj X (xW G) 10 (qI X (xW G) o) 146 [(0, .ref ((xW G).h 0)), (2, vI v2), (3, vI v3), (4, vI v4), (8, vI (s96 3 2)), (9, vI u9)] [] z) (fun _ _  h => by cases h) (fun k hk u9 z h => s_x_row_146 C hk h) N
                    exact r_sub [2, 4, 5, 6, 1, 0] rfl (hL _ _  hf)
                  · replace hf := ite_f c114 hf
                    refine r_bipush C (q := 119) (x := (-4)) d_O_row_117 rfl rfl ?_
                    exact r_ireturn C hf d_O_row_119
            · replace hf := ite_f c53 hf
              refine r_aload_n C (q := 57) 0 d_O_row_56 rfl rfl rfl ?_
              refine gxx_O_sheets C (q := 60) fl_O_10 d_O_row_57 rfl ?_
              refine r_iconst C (q := 61) d_O_row_60 rfl ?_
              obtain ⟨r61, s61, hg61, hf⟩ := bd_s hf
              refine r_cVI C (q := 64) (As := [vI 1]) (k0 := 1) (c_x_Sheets_noteFinding C.i hg61) mt_Sheets_noteFinding ml_O_102 (Nat.le_of_ble_eq_true rfl) rfl rfl rfl rfl rfl rfl ⟨Nat.le_of_ble_eq_true rfl, Nat.le_of_ble_eq_true rfl⟩ rfl (Nat.le_of_ble_eq_true rfl) d_O_row_61 rfl ?_
              exact r_ireturn C hf d_O_row_64
