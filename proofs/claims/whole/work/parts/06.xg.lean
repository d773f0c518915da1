def x_Checks_hasRoomFor (N : Nat) (v1 v2 : Int) (s : St) : MM := bd (x_Checks_find N v1 v2 s) (fun r3 s3 => if le32 40 r3 then (some (0, s3)) else (some (1, s3)))
abbrev rm_x_Checks_hasRoomFor : Room := { frames := 2, cells := 0, slots := 0, locals := 48 }
theorem c_x_Checks_hasRoomFor {l : Launch} {G : GG} (hi : wo_i (xW G)) {N : Nat} {v1 v2 : Int} {s : St} {o : Int × St} (hf : x_Checks_hasRoomFor N v1 v2 s = some o) : CtI l (xW G) y_Checks_hasRoomFor (wo y_Checks_hasRoomFor prog_3_method_3_code 3 (some .boolean)) rm_x_Checks_hasRoomFor [.ref ((xW G).h 10), vI v1, vI v2] s o := by
  refine ct_I (by decide +kernel) hi (Nat.le_of_ble_eq_true rfl) fun X C => ?_
  unfold x_Checks_hasRoomFor at hf
  show Rj X (xW G) 3 (qI X (xW G) o) 0 [(0, .ref ((xW G).h 10)), (1, vI v1), (2, vI v2)] [] s
  refine r_aload_n C (q := 1) 0 d_Checks_hasRoomFor_0 rfl rfl rfl ?_
  refine r_iload_n C (q := 2) 1 d_Checks_hasRoomFor_1 rfl rfl rfl ?_
  refine r_iload_n C (q := 3) 2 d_Checks_hasRoomFor_2 rfl rfl rfl ?_
  obtain ⟨r3, s3, hg3, hf⟩ := bd_s hf
  refine r_cVI C (q := 6) (As := [vI v1, vI v2]) (k0 := 10) (c_x_Checks_find C.i hg3) mt_Checks_find ml_Checks_35 (Nat.le_of_ble_eq_true rfl) rfl rfl rfl rfl rfl rfl ⟨Nat.le_of_ble_eq_true rfl, Nat.le_of_ble_eq_true rfl⟩ rfl (Nat.le_of_ble_eq_true rfl) d_Checks_hasRoomFor_3 rfl ?_
  refine r_bipush C (q := 8) (x := 40) d_Checks_hasRoomFor_6 rfl rfl ?_
  refine r_ic_ge C (t := 15) (q := 11) d_Checks_hasRoomFor_8 (by decide) rfl (fun c8 => ?_) (fun c8 => ?_)
  · replace hf := ite_t c8 hf
    refine r_iconst C (q := 16) d_Checks_hasRoomFor_15 rfl ?_
    exact r_zreturn C (by decide) hf d_Checks_hasRoomFor_16
  · replace hf := ite_f c8 hf
    refine r_iconst C (q := 12) d_Checks_hasRoomFor_11 rfl ?_
    refine r_goto C (q := 16) d_Checks_hasRoomFor_12 (by decide) ?_
    exact r_zreturn C (by decide) hf d_Checks_hasRoomFor_16
def x_Checks_note (N : Nat) (v1 v2 v3 : Int) (s : St) : MM := bd (x_Checks_find N v1 v2 s) (fun r3 s3 => if lt32 r3 40 then (gd (inb r3 40) (gd (inb r3 40) (gd (inb r3 40) (gd (bit1 v3) (some (0, su (su (su (su s3 36 r3 (mn32 v1 v2)) 37 r3 (mx32 v1 v2)) 38 r3 v3) 10 3 (mx32 ((su (su (su s3 36 r3 (mn32 v1 v2)) 37 r3 (mx32 v1 v2)) 38 r3 v3) 10 3) (r3 + 1)))))))) else (some (0, s3)))
abbrev rm_x_Checks_note : Room := { frames := 2, cells := 0, slots := 0, locals := 48 }
theorem c_x_Checks_note {l : Launch} {G : GG} (hi : wo_i (xW G)) {N : Nat} {v1 v2 v3 : Int} {s : St} {o : Int × St} (hf : x_Checks_note N v1 v2 v3 s = some o) : CtV l (xW G) y_Checks_note (wo y_Checks_note prog_3_method_4_code 5 none) rm_x_Checks_note [.ref ((xW G).h 10), vI v1, vI v2, vI v3] s o := by
  refine ct_V (by decide +kernel) hi (Nat.le_of_ble_eq_true rfl) fun X C => ?_
  unfold x_Checks_note at hf
  show Rj X (xW G) 5 (qV X (xW G) o) 0 [(0, .ref ((xW G).h 10)), (1, vI v1), (2, vI v2), (3, vI v3)] [] s
  refine r_aload_n C (q := 1) 0 d_Checks_note_0 rfl rfl rfl ?_
  refine r_iload_n C (q := 2) 1 d_Checks_note_1 rfl rfl rfl ?_
  refine r_iload_n C (q := 3) 2 d_Checks_note_2 rfl rfl rfl ?_
  obtain ⟨r3, s3, hg3, hf⟩ := bd_s hf
  refine r_cVI C (q := 6) (As := [vI v1, vI v2]) (k0 := 10) (c_x_Checks_find C.i hg3) mt_Checks_find ml_Checks_35 (Nat.le_of_ble_eq_true rfl) rfl rfl rfl rfl rfl rfl ⟨Nat.le_of_ble_eq_true rfl, Nat.le_of_ble_eq_true rfl⟩ rfl (Nat.le_of_ble_eq_true rfl) d_Checks_note_3 rfl ?_
  refine r_istore C (q := 8) (lv' := [(4, vI r3), (0, .ref ((xW G).h 10)), (1, vI v1), (2, vI v2), (3, vI v3)]) d_Checks_note_6 (by decide) rfl rfl ?_
  refine r_iload C (q := 10) 0 d_Checks_note_8 rfl rfl ?_
  refine r_bipush C (q := 12) (x := 40) d_Checks_note_10 rfl rfl ?_
  refine r_ic_lt C (t := 16) (q := 15) d_Checks_note_12 (by decide) rfl (fun c12 => ?_) (fun c12 => ?_)
  · replace hf := ite_t c12 hf
    refine r_aload_n C (q := 17) 1 d_Checks_note_16 rfl rfl rfl ?_
    refine gxx_Checks_firsts C (q := 20) fl_Checks_9 d_Checks_note_17 rfl ?_
    refine r_iload C (q := 22) 0 d_Checks_note_20 rfl rfl ?_
    refine r_iload_n C (q := 23) 2 d_Checks_note_22 rfl rfl rfl ?_
    refine r_iload_n C (q := 24) 3 d_Checks_note_23 rfl rfl rfl ?_
    refine r_mmin C (q := 27) ml_Checks_22 mM_min (Nat.le_of_ble_eq_true rfl) (Nat.le_of_ble_eq_true rfl) (Nat.le_of_ble_eq_true rfl) d_Checks_note_24 rfl ?_
    obtain ⟨g27, hf⟩ := gd_s hf
    refine r_iast C (q := 28) 36 (Nat.le_of_ble_eq_true rfl) (fun _ => rfl) 0 rfl g27 (by decide) d_Checks_note_27 rfl ?_
    refine r_aload_n C (q := 29) 1 d_Checks_note_28 rfl rfl rfl ?_
    refine gxx_Checks_seconds C (q := 32) fl_Checks_15 d_Checks_note_29 rfl ?_
    refine r_iload C (q := 34) 0 d_Checks_note_32 rfl rfl ?_
    refine r_iload_n C (q := 35) 2 d_Checks_note_34 rfl rfl rfl ?_
    refine r_iload_n C (q := 36) 3 d_Checks_note_35 rfl rfl rfl ?_
    refine r_mmax C (q := 39) ml_Checks_28 mM_max (Nat.le_of_ble_eq_true rfl) (Nat.le_of_ble_eq_true rfl) (Nat.le_of_ble_eq_true rfl) d_Checks_note_36 rfl ?_
    obtain ⟨g39, hf⟩ := gd_s hf
    refine r_iast C (q := 40) 37 (Nat.le_of_ble_eq_true rfl) (fun _ => rfl) 0 rfl g39 (by decide) d_Checks_note_39 rfl ?_
    refine r_aload_n C (q := 41) 1 d_Checks_note_40 rfl rfl rfl ?_
    refine gxx_Checks_ones C (q := 44) fl_Checks_18 d_Checks_note_41 rfl ?_
    refine r_iload C (q := 46) 0 d_Checks_note_44 rfl rfl ?_
    refine r_iload_n C (q := 47) 4 d_Checks_note_46 rfl rfl rfl ?_
    obtain ⟨g47, hf⟩ := gd_s hf
    obtain ⟨b47, hf⟩ := gd_s hf
    refine r_zast C (q := 48) 38 (Nat.le_of_ble_eq_true rfl) (fun _ => rfl) 2 rfl g47 b47 (by decide) d_Checks_note_47 rfl ?_
    refine r_aload_n C (q := 49) 1 d_Checks_note_48 rfl rfl rfl ?_
    refine r_aload_n C (q := 50) 1 d_Checks_note_49 rfl rfl rfl ?_
    refine gxx_Checks_many C (q := 53) fl_Checks_31 d_Checks_note_50 rfl ?_
    refine r_iload C (q := 55) 0 d_Checks_note_53 rfl rfl ?_
    refine r_iconst C (q := 56) d_Checks_note_55 rfl ?_
    refine r_iadd C (q := 57) d_Checks_note_56 rfl ?_
    refine r_mmax C (q := 60) ml_Checks_28 mM_max (Nat.le_of_ble_eq_true rfl) (Nat.le_of_ble_eq_true rfl) (Nat.le_of_ble_eq_true rfl) d_Checks_note_57 rfl ?_
    refine pxx_Checks_many C (q := 63) fl_Checks_31 d_Checks_note_60 rfl ?_
    exact r_return C hf d_Checks_note_63
  · replace hf := ite_f c12 hf
    exact r_return C hf d_Checks_note_15
def x_check (N : Nat) (v1 v2 v3 : Int) (s : St) : MM := bd (x_Rows_arePair N v1 v2 s) (fun r6 s6 => if eq32 r6 0 then (some ((-2), s6)) else (bd (x_Checks_hasRoomFor N v1 v2 s6) (fun r21 s21 => if eq32 r21 0 then (some ((-4), s21)) else (bd (x_Checks_note N v1 v2 v3 s21) (fun r37 s37 => some (s37 10 3, s37))))))
abbrev rm_x_check : Room := { frames := 3, cells := 0, slots := 0, locals := 72 }
theorem c_x_check {l : Launch} {G : GG} (hi : wo_i (xW G)) {N : Nat} {v1 v2 v3 : Int} {s : St} {o : Int × St} (hf : x_check N v1 v2 v3 s = some o) : CtI l (xW G) y_O_check (wo y_O_check prog_1_method_28_code 4 (some .int)) rm_x_check [.ref ((xW G).h 0), vI v1, vI v2, vI v3] s o := by
  refine ct_I (by decide +kernel) hi (Nat.le_of_ble_eq_true rfl) fun X C => ?_
  unfold x_check at hf
  show Rj X (xW G) 4 (qI X (xW G) o) 0 [(0, .ref ((xW G).h 0)), (1, vI v1), (2, vI v2), (3, vI v3)] [] s
  refine r_aload_n C (q := 1) 0 d_O_check_0 rfl rfl rfl ?_
  refine gxx_O_rows C (q := 4) fl_O_27 d_O_check_1 rfl ?_
  refine r_iload_n C (q := 5) 1 d_O_check_4 rfl rfl rfl ?_
  refine r_iload_n C (q := 6) 2 d_O_check_5 rfl rfl rfl ?_
  obtain ⟨r6, s6, hg6, hf⟩ := bd_s hf
  refine r_cVI C (q := 9) (As := [vI v1, vI v2]) (k0 := 3) (c_x_Rows_arePair C.i hg6) mt_Rows_arePair ml_O_190 (Nat.le_of_ble_eq_true rfl) rfl rfl rfl rfl rfl rfl ⟨Nat.le_of_ble_eq_true rfl, Nat.le_of_ble_eq_true rfl⟩ rfl (Nat.le_of_ble_eq_true rfl) d_O_check_6 rfl ?_
  refine r_if_ne C (t := 15) (q := 12) d_O_check_9 (by decide) rfl (fun c9 => ?_) (fun c9 => ?_)
  · replace hf := ite_t c9 hf
    refine r_bipush C (q := 14) (x := (-2)) d_O_check_12 rfl rfl ?_
    exact r_ireturn C hf d_O_check_14
  · replace hf := ite_f c9 hf
    refine r_aload_n C (q := 16) 0 d_O_check_15 rfl rfl rfl ?_
    refine gxx_O_checks C (q := 19) fl_O_67 d_O_check_16 rfl ?_
    refine r_iload_n C (q := 20) 1 d_O_check_19 rfl rfl rfl ?_
    refine r_iload_n C (q := 21) 2 d_O_check_20 rfl rfl rfl ?_
    obtain ⟨r21, s21, hg21, hf⟩ := bd_s hf
    refine r_cVI C (q := 24) (As := [vI v1, vI v2]) (k0 := 10) (c_x_Checks_hasRoomFor C.i hg21) mt_Checks_hasRoomFor ml_O_272 (Nat.le_of_ble_eq_true rfl) rfl rfl rfl rfl rfl rfl ⟨Nat.le_of_ble_eq_true rfl, Nat.le_of_ble_eq_true rfl⟩ rfl (Nat.le_of_ble_eq_true rfl) d_O_check_21 rfl ?_
    refine r_if_ne C (t := 30) (q := 27) d_O_check_24 (by decide) rfl (fun c24 => ?_) (fun c24 => ?_)
    · replace hf := ite_t c24 hf
      refine r_bipush C (q := 29) (x := (-4)) d_O_check_27 rfl rfl ?_
      exact r_ireturn C hf d_O_check_29
    · replace hf := ite_f c24 hf
      refine r_aload_n C (q := 31) 0 d_O_check_30 rfl rfl rfl ?_
      refine gxx_O_checks C (q := 34) fl_O_67 d_O_check_31 rfl ?_
      refine r_iload_n C (q := 35) 1 d_O_check_34 rfl rfl rfl ?_
      refine r_iload_n C (q := 36) 2 d_O_check_35 rfl rfl rfl ?_
      refine r_iload_n C (q := 37) 3 d_O_check_36 rfl rfl rfl ?_
      obtain ⟨r37, s37, hg37, hf⟩ := bd_s hf
      refine r_cVV C (q := 40) (As := [vI v1, vI v2, vI v3]) (k0 := 10) (c_x_Checks_note C.i hg37) mt_Checks_note ml_O_275 (Nat.le_of_ble_eq_true rfl) rfl rfl rfl rfl rfl rfl ⟨Nat.le_of_ble_eq_true rfl, Nat.le_of_ble_eq_true rfl⟩ rfl (Nat.le_of_ble_eq_true rfl) d_O_check_37 rfl ?_
      refine r_aload_n C (q := 41) 0 d_O_check_40 rfl rfl rfl ?_
      refine gxx_O_checks C (q := 44) fl_O_67 d_O_check_41 rfl ?_
      refine gnx_Checks_many C (q := 47) fn_O_279 d_O_check_44 rfl ?_
      exact r_ireturn C hf d_O_check_47
def x_Checks_countOne_24 (N : Nat) (k4 : Int → Int → St → MM) (v1 v2 : Int) (s : St) : MM := k4 v1 (v2 + 1) s
def x_Checks_countOne_4 (N : Nat) (k4 : Int → Int → St → MM) (v1 v2 : Int) (s : St) : MM := if le32 (s 10 3) v2 then (some (v1, s)) else (gd (inb v2 40) (if eq32 (s 38 v2) 0 then (x_Checks_countOne_24 N k4 v1 v2  s) else (x_Checks_countOne_24 N k4 (v1 + 1) v2  s)))
def x_Checks_countOne (N : Nat) (s : St) : MM := itr (x_Checks_countOne_4 N ) (fun _ _ _ => none) N 0 0 s
abbrev rm_x_Checks_countOne : Room := { frames := 0, cells := 0, slots := 0, locals := 0 }
theorem s_x_Checks_countOne_24 {X : CxT} {l : Launch} {G : GG} (C : Cx X l (xW G) 3 prog_3_method_5_code "OneSelf$Checks" (wo y_Checks_countOne prog_3_method_5_code 3 (some .int)) (some .int) rm_x_Checks_countOne) {o : Int × St} {N : Nat} {v1 v2 : Int} {k4 : Int → Int → St → MM} (hk4 : ∀ (u1 u2 : Int) (s : St), k4 u1 u2 s = some o → Rj X (xW G) 3 (qI X (xW G) o) 4 [(0, .ref ((xW G).h 10)), (1, vI u1), (2, vI u2)] [] s) {s : St} (hf : x_Checks_countOne_24 N k4 v1 v2 s = some o) : Rj X (xW G) 3 (qI X (xW G) o) 24 [(0, .ref ((xW G).h 10)), (1, vI v1), (2, vI v2)] [] s := by
  unfold x_Checks_countOne_24 at hf
  refine r_iinc C (q := 27) (lv' := [(2, vI (v2 + 1)), (0, .ref ((xW G).h 10)), (1, vI v1)]) 2 d_Checks_countOne_24 rfl (by decide) rfl rfl ?_
  refine r_goto C (q := 4) d_Checks_countOne_27 (by decide) ?_
  exact r_sub [1, 2, 0] rfl (hk4 _ _ _  hf)
theorem s_x_Checks_countOne_4 {X : CxT} {l : Launch} {G : GG} (C : Cx X l (xW G) 3 prog_3_method_5_code "OneSelf$Checks" (wo y_Checks_countOne prog_3_method_5_code 3 (some .int)) (some .int) rm_x_Checks_countOne) {o : Int × St} {N : Nat} {v1 v2 : Int} {k4 : Int → Int → St → MM} (hk4 : ∀ (u1 u2 : Int) (s : St), k4 u1 u2 s = some o → Rj X (xW G) 3 (qI X (xW G) o) 4 [(0, .ref ((xW G).h 10)), (1, vI u1), (2, vI u2)] [] s) {s : St} (hf : x_Checks_countOne_4 N  k4 v1 v2 s = some o) : Rj X (xW G) 3 (qI X (xW G) o) 4 [(0, .ref ((xW G).h 10)), (1, vI v1), (2, vI v2)] [] s := by
  unfold x_Checks_countOne_4 at hf
  refine r_iload_n C (q := 5) 2 d_Checks_countOne_4 rfl rfl rfl ?_
  refine r_aload_n C (q := 6) 0 d_Checks_countOne_5 rfl rfl rfl ?_
  refine gxx_Checks_many C (q := 9) fl_Checks_31 d_Checks_countOne_6 rfl ?_
  refine r_ic_ge C (t := 30) (q := 12) d_Checks_countOne_9 (by decide) rfl (fun c9 => ?_) (fun c9 => ?_)
  · replace hf := ite_t c9 hf
    refine r_iload_n C (q := 31) 1 d_Checks_countOne_30 rfl rfl rfl ?_
    exact r_ireturn C hf d_Checks_countOne_31
  · replace hf := ite_f c9 hf
    refine r_aload_n C (q := 13) 0 d_Checks_countOne_12 rfl rfl rfl ?_
    refine gxx_Checks_ones C (q := 16) fl_Checks_18 d_Checks_countOne_13 rfl ?_
    refine r_iload_n C (q := 17) 2 d_Checks_countOne_16 rfl rfl rfl ?_
    obtain ⟨g17, hf⟩ := gd_s hf
    refine r_zald C (q := 18) 38 (Nat.le_of_ble_eq_true rfl) (fun _ => rfl) 2 rfl g17 (by decide) d_Checks_countOne_17 rfl ?_
    refine r_if_eq C (t := 24) (q := 21) d_Checks_countOne_18 (by decide) rfl (fun c18 => ?_) (fun c18 => ?_)
    · replace hf := ite_t c18 hf
      exact r_sub [0, 1, 2] rfl (s_x_Checks_countOne_24 C hk4 hf)
    · replace hf := ite_f c18 hf
      refine r_iinc C (q := 24) (lv' := [(1, vI (v1 + 1)), (0, .ref ((xW G).h 10)), (2, vI v2)]) 1 d_Checks_countOne_21 rfl (by decide) rfl rfl ?_
      exact r_sub [1, 0, 2] rfl (s_x_Checks_countOne_24 C hk4 hf)
theorem c_x_Checks_countOne {l : Launch} {G : GG} (hi : wo_i (xW G)) {N : Nat} {s : St} {o : Int × St} (hf : x_Checks_countOne N s = some o) : CtI l (xW G) y_Checks_countOne (wo y_Checks_countOne prog_3_method_5_code 3 (some .int)) rm_x_Checks_countOne [.ref ((xW G).h 10)] s o := by
  refine ct_I (by decide +kernel) hi (Nat.le_of_ble_eq_true rfl) fun X C => ?_
  unfold x_Checks_countOne at hf
  show Rj X (xW G) 3 (qI X (xW G) o) 0 [(0, .ref ((xW G).h 10))] [] s
  refine r_iconst C (q := 1) d_Checks_countOne_0 rfl ?_
  refine r_istore_n C (q := 2) (lv' := [(1, vI 0), (0, .ref ((xW G).h 10))]) d_Checks_countOne_1 rfl (by decide) rfl rfl ?_
  refine r_iconst C (q := 3) d_Checks_countOne_2 rfl ?_
  refine r_istore_n C (q := 4) (lv' := [(2, vI 0), (1, vI 0), (0, .ref ((xW G).h 10))]) d_Checks_countOne_3 rfl (by decide) rfl rfl ?_
  have hL : ∀ (u1 u2 : Int) (z : St), itr (x_Checks_countOne_4 N ) (fun _ _ _ => none) N u1 u2 z = some o → Rj X (xW G) 3 (qI X (xW G) o) 4 [(0, .ref ((xW G).h 10)), (1, vI u1), (2, vI u2)] [] z := itr_ind (x_Checks_countOne_4 N ) (fun _ _ _ => none) (fun k => ∀ (u1 u2 : Int) (z : St), k u1 u2 z = some o → Rj X (xW G) 3 (qI X (xW G) o) 4 [(0, .ref ((xW G).h 10)), (1, vI u1), (2, vI u2)] [] z) (fun _ _ _  h => by cases h) (fun k hk u1 u2 z h => s_x_Checks_countOne_4 C hk h) N
  exact r_sub [2, 1, 0] rfl (hL _ _ _  hf)
def x_Checks_countLinks_52 (N : Nat) (k5 : Int → Int → St → MM) (v2 v3 v4 : Int) (s : St) : MM := k5 v3 (v4 + 1) s
def x_Checks_countLinks_28 (N : Nat) (k5 : Int → Int → St → MM) (v2 v3 v4 : Int) (s : St) : MM := gd (inb v4 40) (gd (inb v4 40) (bd (x_Pairs_areLinked N (s 36 v4) (s 37 v4) s) (fun r43 s43 => if eq32 r43 0 then (x_Checks_countLinks_52 N k5 v2 v3 v4  s43) else (x_Checks_countLinks_52 N k5 v2 (v3 + 1) v4  s43))))
def x_Checks_countLinks_5 (N : Nat) (v2 : Int) (k5 : Int → Int → St → MM) (v3 v4 : Int) (s : St) : MM := if le32 (s 10 3) v4 then (some (v3, s)) else (if eq32 v2 0 then (x_Checks_countLinks_28 N k5 v2 v3 v4  s) else (gd (inb v4 40) (if eq32 (s 38 v4) 0 then (x_Checks_countLinks_28 N k5 v2 v3 v4  s) else (x_Checks_countLinks_52 N k5 v2 v3 v4  s))))
def x_Checks_countLinks (N : Nat) (v2 : Int) (s : St) : MM := itr (x_Checks_countLinks_5 N v2) (fun _ _ _ => none) N 0 0 s
abbrev rm_x_Checks_countLinks : Room := { frames := 4, cells := 0, slots := 0, locals := 96 }
theorem s_x_Checks_countLinks_52 {X : CxT} {l : Launch} {G : GG} (C : Cx X l (xW G) 5 prog_3_method_6_code "OneSelf$Checks" (wo y_Checks_countLinks prog_3_method_6_code 5 (some .int)) (some .int) rm_x_Checks_countLinks) {o : Int × St} {N : Nat} {v2 v3 v4 : Int} {k5 : Int → Int → St → MM} (hk5 : ∀ (u3 u4 : Int) (s : St), k5 u3 u4 s = some o → Rj X (xW G) 5 (qI X (xW G) o) 5 [(0, .ref ((xW G).h 10)), (1, .ref ((xW G).h 2)), (2, vI v2), (3, vI u3), (4, vI u4)] [] s) {s : St} (hf : x_Checks_countLinks_52 N k5 v2 v3 v4 s = some o) : Rj X (xW G) 5 (qI X (xW G) o) 52 [(0, .ref ((xW G).h 10)), (1, .ref ((xW G).h 2)), (2, vI v2), (3, vI v3), (4, vI v4)] [] s := by
  unfold x_Checks_countLinks_52 at hf
  refine r_iinc C (q := 55) (lv' := [(4, vI (v4 + 1)), (0, .ref ((xW G).h 10)), (1, .ref ((xW G).h 2)), (2, vI v2), (3, vI v3)]) 4 d_Checks_countLinks_52 rfl (by decide) rfl rfl ?_
  refine r_goto C (q := 5) d_Checks_countLinks_55 (by decide) ?_
  exact r_sub [1, 2, 3, 4, 0] rfl (hk5 _ _ _  hf)
theorem s_x_Checks_countLinks_28 {X : CxT} {l : Launch} {G : GG} (C : Cx X l (xW G) 5 prog_3_method_6_code "OneSelf$Checks" (wo y_Checks_countLinks prog_3_method_6_code 5 (some .int)) (some .int) rm_x_Checks_countLinks) {o : Int × St} {N : Nat} {v2 v3 v4 : Int} {k5 : Int → Int → St → MM} (hk5 : ∀ (u3 u4 : Int) (s : St), k5 u3 u4 s = some o → Rj X (xW G) 5 (qI X (xW G) o) 5 [(0, .ref ((xW G).h 10)), (1, .ref ((xW G).h 2)), (2, vI v2), (3, vI u3), (4, vI u4)] [] s) {s : St} (hf : x_Checks_countLinks_28 N k5 v2 v3 v4 s = some o) : Rj X (xW G) 5 (qI X (xW G) o) 28 [(0, .ref ((xW G).h 10)), (1, .ref ((xW G).h 2)), (2, vI v2), (3, vI v3), (4, vI v4)] [] s := by
  unfold x_Checks_countLinks_28 at hf
  refine r_aload_n C (q := 29) 1 d_Checks_countLinks_28 rfl rfl rfl ?_
  refine r_aload_n C (q := 30) 0 d_Checks_countLinks_29 rfl rfl rfl ?_
  refine gxx_Checks_firsts C (q := 33) fl_Checks_9 d_Checks_countLinks_30 rfl ?_
  refine r_iload C (q := 35) 4 d_Checks_countLinks_33 rfl rfl ?_
  obtain ⟨g35, hf⟩ := gd_s hf
  refine r_iald C (q := 36) 36 (Nat.le_of_ble_eq_true rfl) (fun _ => rfl) 0 rfl g35 (by decide) d_Checks_countLinks_35 rfl ?_
  refine r_aload_n C (q := 37) 0 d_Checks_countLinks_36 rfl rfl rfl ?_
  refine gxx_Checks_seconds C (q := 40) fl_Checks_15 d_Checks_countLinks_37 rfl ?_
  refine r_iload C (q := 42) 4 d_Checks_countLinks_40 rfl rfl ?_
  obtain ⟨g42, hf⟩ := gd_s hf
  refine r_iald C (q := 43) 37 (Nat.le_of_ble_eq_true rfl) (fun _ => rfl) 0 rfl g42 (by decide) d_Checks_countLinks_42 rfl ?_
  obtain ⟨r43, s43, hg43, hf⟩ := bd_s hf
  refine r_cVI C (q := 46) (As := [vI (s 36 v4), vI (s 37 v4)]) (k0 := 2) (c_x_Pairs_areLinked C.i hg43) mt_Pairs_areLinked ml_Checks_38 (Nat.le_of_ble_eq_true rfl) rfl rfl rfl rfl rfl rfl ⟨Nat.le_of_ble_eq_true rfl, Nat.le_of_ble_eq_true rfl⟩ rfl (Nat.le_of_ble_eq_true rfl) d_Checks_countLinks_43 rfl ?_
  refine r_if_eq C (t := 52) (q := 49) d_Checks_countLinks_46 (by decide) rfl (fun c46 => ?_) (fun c46 => ?_)
  · replace hf := ite_t c46 hf
    exact r_sub [0, 1, 2, 3, 4] rfl (s_x_Checks_countLinks_52 C hk5 hf)
  · replace hf := ite_f c46 hf
    refine r_iinc C (q := 52) (lv' := [(3, vI (v3 + 1)), (0, .ref ((xW G).h 10)), (1, .ref ((xW G).h 2)), (2, vI v2), (4, vI v4)]) 3 d_Checks_countLinks_49 rfl (by decide) rfl rfl ?_
    exact r_sub [1, 2, 3, 0, 4] rfl (s_x_Checks_countLinks_52 C hk5 hf)
theorem s_x_Checks_countLinks_5 {X : CxT} {l : Launch} {G : GG} (C : Cx X l (xW G) 5 prog_3_method_6_code "OneSelf$Checks" (wo y_Checks_countLinks prog_3_method_6_code 5 (some .int)) (some .int) rm_x_Checks_countLinks) {o : Int × St} {N : Nat} {v2 v3 v4 : Int} {k5 : Int → Int → St → MM} (hk5 : ∀ (u3 u4 : Int) (s : St), k5 u3 u4 s = some o → Rj X (xW G) 5 (qI X (xW G) o) 5 [(0, .ref ((xW G).h 10)), (1, .ref ((xW G).h 2)), (2, vI v2), (3, vI u3), (4, vI u4)] [] s) {s : St} (hf : x_Checks_countLinks_5 N v2 k5 v3 v4 s = some o) : Rj X (xW G) 5 (qI X (xW G) o) 5 [(0, .ref ((xW G).h 10)), (1, .ref ((xW G).h 2)), (2, vI v2), (3, vI v3), (4, vI v4)] [] s := by
  unfold x_Checks_countLinks_5 at hf
  refine r_iload C (q := 7) 4 d_Checks_countLinks_5 rfl rfl ?_
  refine r_aload_n C (q := 8) 0 d_Checks_countLinks_7 rfl rfl rfl ?_
  refine gxx_Checks_many C (q := 11) fl_Checks_31 d_Checks_countLinks_8 rfl ?_
  refine r_ic_ge C (t := 58) (q := 14) d_Checks_countLinks_11 (by decide) rfl (fun c11 => ?_) (fun c11 => ?_)
  · replace hf := ite_t c11 hf
    refine r_iload_n C (q := 59) 3 d_Checks_countLinks_58 rfl rfl rfl ?_
    exact r_ireturn C hf d_Checks_countLinks_59
  · replace hf := ite_f c11 hf
    refine r_iload_n C (q := 15) 2 d_Checks_countLinks_14 rfl rfl rfl ?_
    refine r_if_eq C (t := 28) (q := 18) d_Checks_countLinks_15 (by decide) rfl (fun c15 => ?_) (fun c15 => ?_)
    · replace hf := ite_t c15 hf
      exact r_sub [0, 1, 2, 3, 4] rfl (s_x_Checks_countLinks_28 C hk5 hf)
    · replace hf := ite_f c15 hf
      refine r_aload_n C (q := 19) 0 d_Checks_countLinks_18 rfl rfl rfl ?_
      refine gxx_Checks_ones C (q := 22) fl_Checks_18 d_Checks_countLinks_19 rfl ?_
      refine r_iload C (q := 24) 4 d_Checks_countLinks_22 rfl rfl ?_
      obtain ⟨g24, hf⟩ := gd_s hf
      refine r_zald C (q := 25) 38 (Nat.le_of_ble_eq_true rfl) (fun _ => rfl) 2 rfl g24 (by decide) d_Checks_countLinks_24 rfl ?_
      refine r_if_ne C (t := 52) (q := 28) d_Checks_countLinks_25 (by decide) rfl (fun c25 => ?_) (fun c25 => ?_)
      · replace hf := ite_t c25 hf
        exact r_sub [0, 1, 2, 3, 4] rfl (s_x_Checks_countLinks_28 C hk5 hf)
      · replace hf := ite_f c25 hf
        exact r_sub [0, 1, 2, 3, 4] rfl (s_x_Checks_countLinks_52 C hk5 hf)
theorem c_x_Checks_countLinks {l : Launch} {G : GG} (hi : wo_i (xW G)) {N : Nat} {v2 : Int} {s : St} {o : Int × St} (hf : x_Checks_countLinks N v2 s = some o) : CtI l (xW G) y_Checks_countLinks (wo y_Checks_countLinks prog_3_method_6_code 5 (some .int)) rm_x_Checks_countLinks [.ref ((xW G).h 10), .ref ((xW G).h 2), vI v2] s o := by
  refine ct_I (by decide +kernel) hi (Nat.le_of_ble_eq_true rfl) fun X C => ?_
  unfold x_Checks_countLinks at hf
  show Rj X (xW G) 5 (qI X (xW G) o) 0 [(0, .ref ((xW G).h 10)), (1, .ref ((xW G).h 2)), (2, vI v2)] [] s
  refine r_iconst C (q := 1) d_Checks_countLinks_0 rfl ?_
  refine r_istore_n C (q := 2) (lv' := [(3, vI 0), (0, .ref ((xW G).h 10)), (1, .ref ((xW G).h 2)), (2, vI v2)]) d_Checks_countLinks_1 rfl (by decide) rfl rfl ?_
  refine r_iconst C (q := 3) d_Checks_countLinks_2 rfl ?_
  refine r_istore C (q := 5) (lv' := [(4, vI 0), (3, vI 0), (0, .ref ((xW G).h 10)), (1, .ref ((xW G).h 2)), (2, vI v2)]) d_Checks_countLinks_3 (by decide) rfl rfl ?_
  have hL : ∀ (u3 u4 : Int) (z : St), itr (x_Checks_countLinks_5 N v2) (fun _ _ _ => none) N u3 u4 z = some o → Rj X (xW G) 5 (qI X (xW G) o) 5 [(0, .ref ((xW G).h 10)), (1, .ref ((xW G).h 2)), (2, vI v2), (3, vI u3), (4, vI u4)] [] z := itr_ind (x_Checks_countLinks_5 N v2) (fun _ _ _ => none) (fun k => ∀ (u3 u4 : Int) (z : St), k u3 u4 z = some o → Rj X (xW G) 5 (qI X (xW G) o) 5 [(0, .ref ((xW G).h 10)), (1, .ref ((xW G).h 2)), (2, vI v2), (3, vI u3), (4, vI u4)] [] z) (fun _ _ _  h => by cases h) (fun k hk u3 u4 z h => s_x_Checks_countLinks_5 C hk h) N
  exact r_sub [2, 3, 4, 1, 0] rfl (hL _ _ _  hf)
def x_checked (N : Nat) (v1 : Int) (s : St) : MM := if s32 v1 = 0 then (some (s 10 3, s)) else (if s32 v1 = 1 then (bd (x_Checks_countOne N s) (fun r44 s44 => some (r44, s44))) else (if s32 v1 = 2 then (bd (x_Checks_countLinks N 0 s) (fun r57 s57 => some (r57, s57))) else (if s32 v1 = 3 then (bd (x_Checks_countLinks N 1 s) (fun r70 s70 => some (r70, s70))) else (some ((-2), s)))))
abbrev rm_x_checked : Room := { frames := 5, cells := 0, slots := 0, locals := 120 }
theorem c_x_checked {l : Launch} {G : GG} (hi : wo_i (xW G)) {N : Nat} {v1 : Int} {s : St} {o : Int × St} (hf : x_checked N v1 s = some o) : CtI l (xW G) y_O_checked (wo y_O_checked prog_1_method_29_code 2 (some .int)) rm_x_checked [.ref ((xW G).h 0), vI v1] s o := by
  refine ct_I (by decide +kernel) hi (Nat.le_of_ble_eq_true rfl) fun X C => ?_
  unfold x_checked at hf
  show Rj X (xW G) 2 (qI X (xW G) o) 0 [(0, .ref ((xW G).h 0)), (1, vI v1)] [] s
  refine r_iload_n C (q := 1) 1 d_O_checked_0 rfl rfl rfl ?_
  by_cases c1_0 : s32 v1 = 0
  · replace hf := ite_t c1_0 hf
    refine r_tabIn C (t := 32) d_O_checked_1 c1_0 (by decide) (by decide) rfl (by decide) ?_
    refine r_aload_n C (q := 33) 0 d_O_checked_32 rfl rfl rfl ?_
    refine gxx_O_checks C (q := 36) fl_O_67 d_O_checked_33 rfl ?_
    refine gnx_Checks_many C (q := 39) fn_O_279 d_O_checked_36 rfl ?_
    exact r_ireturn C hf d_O_checked_39
  replace hf := ite_f c1_0 hf
  by_cases c1_1 : s32 v1 = 1
  · replace hf := ite_t c1_1 hf
    refine r_tabIn C (t := 40) d_O_checked_1 c1_1 (by decide) (by decide) rfl (by decide) ?_
    refine r_aload_n C (q := 41) 0 d_O_checked_40 rfl rfl rfl ?_
    refine gxx_O_checks C (q := 44) fl_O_67 d_O_checked_41 rfl ?_
    obtain ⟨r44, s44, hg44, hf⟩ := bd_s hf
    refine r_cVI C (q := 47) (As := []) (k0 := 10) (c_x_Checks_countOne C.i hg44) mt_Checks_countOne ml_O_280 (Nat.le_of_ble_eq_true rfl) rfl rfl rfl rfl rfl rfl ⟨Nat.le_of_ble_eq_true rfl, Nat.le_of_ble_eq_true rfl⟩ rfl (Nat.le_of_ble_eq_true rfl) d_O_checked_44 rfl ?_
    exact r_ireturn C hf d_O_checked_47
  replace hf := ite_f c1_1 hf
  by_cases c1_2 : s32 v1 = 2
  · replace hf := ite_t c1_2 hf
    refine r_tabIn C (t := 48) d_O_checked_1 c1_2 (by decide) (by decide) rfl (by decide) ?_
    refine r_aload_n C (q := 49) 0 d_O_checked_48 rfl rfl rfl ?_
    refine gxx_O_checks C (q := 52) fl_O_67 d_O_checked_49 rfl ?_
    refine r_aload_n C (q := 53) 0 d_O_checked_52 rfl rfl rfl ?_
    refine gxx_O_pairs C (q := 56) fl_O_19 d_O_checked_53 rfl ?_
    refine r_iconst C (q := 57) d_O_checked_56 rfl ?_
    obtain ⟨r57, s57, hg57, hf⟩ := bd_s hf
    refine r_cVI C (q := 60) (As := [.ref ((xW G).h 2), vI 0]) (k0 := 10) (c_x_Checks_countLinks C.i hg57) mt_Checks_countLinks ml_O_283 (Nat.le_of_ble_eq_true rfl) rfl rfl rfl rfl rfl rfl ⟨Nat.le_of_ble_eq_true rfl, Nat.le_of_ble_eq_true rfl⟩ rfl (Nat.le_of_ble_eq_true rfl) d_O_checked_57 rfl ?_
    exact r_ireturn C hf d_O_checked_60
  replace hf := ite_f c1_2 hf
  by_cases c1_3 : s32 v1 = 3
  · replace hf := ite_t c1_3 hf
    refine r_tabIn C (t := 61) d_O_checked_1 c1_3 (by decide) (by decide) rfl (by decide) ?_
    refine r_aload_n C (q := 62) 0 d_O_checked_61 rfl rfl rfl ?_
    refine gxx_O_checks C (q := 65) fl_O_67 d_O_checked_62 rfl ?_
    refine r_aload_n C (q := 66) 0 d_O_checked_65 rfl rfl rfl ?_
    refine gxx_O_pairs C (q := 69) fl_O_19 d_O_checked_66 rfl ?_
    refine r_iconst C (q := 70) d_O_checked_69 rfl ?_
    obtain ⟨r70, s70, hg70, hf⟩ := bd_s hf
    refine r_cVI C (q := 73) (As := [.ref ((xW G).h 2), vI 1]) (k0 := 10) (c_x_Checks_countLinks C.i hg70) mt_Checks_countLinks ml_O_283 (Nat.le_of_ble_eq_true rfl) rfl rfl rfl rfl rfl rfl ⟨Nat.le_of_ble_eq_true rfl, Nat.le_of_ble_eq_true rfl⟩ rfl (Nat.le_of_ble_eq_true rfl) d_O_checked_70 rfl ?_
    exact r_ireturn C hf d_O_checked_73
  replace hf := ite_f c1_3 hf
  refine r_tabOut C (t := 74) d_O_checked_1 (by omega) (by decide) ?_
  refine r_bipush C (q := 76) (x := (-2)) d_O_checked_74 rfl rfl ?_
  exact r_ireturn C hf d_O_checked_76
def x_Checks_waysToChoose_20 (N : Nat) (v0 v2 : Int) (k20 : Int → Int → St → MM) (v3 v5 : Int) (s : St) : MM := if lt32 v2 v5 then (some (v3, s)) else (gd (¬ eq64 (s32 v5) 0) (k20 (dv64 (v3 * (s32 ((v0 - v2) + v5))) (s32 v5)) (v5 + 1) s))
def x_Checks_waysToChoose (N : Nat) (v0 v1 : Int) (s : St) : MM := if le32 v1 v0 then (itr (x_Checks_waysToChoose_20 N v0 (mn32 v1 (v0 - v1))) (fun _ _ _ => none) N 1 1 s) else (some (0, s))
abbrev rm_x_Checks_waysToChoose : Room := { frames := 1, cells := 0, slots := 0, locals := 23 }
theorem s_x_Checks_waysToChoose_20 {X : CxT} {l : Launch} {G : GG} (C : Cx X l (xW G) 6 prog_3_method_12_code "OneSelf$Checks" (wo y_Checks_waysToChoose prog_3_method_12_code 6 (some .long)) (some .long) rm_x_Checks_waysToChoose) {o : Int × St} {N : Nat} {v0 v2 v3 v5 : Int} {k20 : Int → Int → St → MM} (hk20 : ∀ (u3 u5 : Int) (s : St), k20 u3 u5 s = some o → Rj X (xW G) 6 (qL X (xW G) o) 20 [(0, vI v0), (2, vI v2), (3, vJ u3), (5, vI u5)] [] s) {s : St} (hf : x_Checks_waysToChoose_20 N v0 v2 k20 v3 v5 s = some o) : Rj X (xW G) 6 (qL X (xW G) o) 20 [(0, vI v0), (2, vI v2), (3, vJ v3), (5, vI v5)] [] s := by
  unfold x_Checks_waysToChoose_20 at hf
  refine r_iload C (q := 22) 3 d_Checks_waysToChoose_20 rfl rfl ?_
  refine r_iload_n C (q := 23) 1 d_Checks_waysToChoose_22 rfl rfl rfl ?_
  refine r_ic_gt C (t := 46) (q := 26) d_Checks_waysToChoose_23 (by decide) rfl (fun c23 => ?_) (fun c23 => ?_)
  · replace hf := ite_t c23 hf
    refine r_lload_n C (q := 47) 2 d_Checks_waysToChoose_46 rfl rfl rfl ?_
    exact r_lreturn C hf d_Checks_waysToChoose_47
  · replace hf := ite_f c23 hf
    refine r_lload_n C (q := 27) 2 d_Checks_waysToChoose_26 rfl rfl rfl ?_
    refine r_iload_n C (q := 28) 0 d_Checks_waysToChoose_27 rfl rfl rfl ?_
    refine r_iload_n C (q := 29) 1 d_Checks_waysToChoose_28 rfl rfl rfl ?_
    refine r_isub C (q := 30) d_Checks_waysToChoose_29 rfl ?_
    refine r_iload C (q := 32) 3 d_Checks_waysToChoose_30 rfl rfl ?_
    refine r_iadd C (q := 33) d_Checks_waysToChoose_32 rfl ?_
    refine r_i2l C (q := 34) d_Checks_waysToChoose_33 rfl ?_
    refine r_lmul C (q := 35) d_Checks_waysToChoose_34 rfl ?_
    refine r_iload C (q := 37) 3 d_Checks_waysToChoose_35 rfl rfl ?_
    refine r_i2l C (q := 38) d_Checks_waysToChoose_37 rfl ?_
    obtain ⟨g38, hf⟩ := gd_s hf
    refine r_ldiv C (q := 39) g38 d_Checks_waysToChoose_38 rfl ?_
    refine r_lstore_n C (q := 40) (lv' := [(3, vJ (dv64 (v3 * (s32 ((v0 - v2) + v5))) (s32 v5))), (0, vI v0), (2, vI v2), (5, vI v5)]) d_Checks_waysToChoose_39 rfl (by decide) rfl rfl ?_
    refine r_iinc C (q := 43) (lv' := [(5, vI (v5 + 1)), (3, vJ (dv64 (v3 * (s32 ((v0 - v2) + v5))) (s32 v5))), (0, vI v0), (2, vI v2)]) 3 d_Checks_waysToChoose_40 rfl (by decide) rfl rfl ?_
    refine r_goto C (q := 20) d_Checks_waysToChoose_43 (by decide) ?_
    exact r_sub [2, 3, 1, 0] rfl (hk20 _ _ _  hf)
theorem c_x_Checks_waysToChoose {l : Launch} {G : GG} (hi : wo_i (xW G)) {N : Nat} {v0 v1 : Int} {s : St} {o : Int × St} (hf : x_Checks_waysToChoose N v0 v1 s = some o) : CtL l (xW G) y_Checks_waysToChoose (wo y_Checks_waysToChoose prog_3_method_12_code 6 (some .long)) rm_x_Checks_waysToChoose [vI v0, vI v1] s o := by
  refine ct_L (by decide +kernel) hi (Nat.le_of_ble_eq_true rfl) fun X C => ?_
  unfold x_Checks_waysToChoose at hf
  show Rj X (xW G) 6 (qL X (xW G) o) 0 [(0, vI v0), (1, vI v1)] [] s
  refine r_iload_n C (q := 1) 1 d_Checks_waysToChoose_0 rfl rfl rfl ?_
  refine r_iload_n C (q := 2) 0 d_Checks_waysToChoose_1 rfl rfl rfl ?_
  refine r_ic_le C (t := 7) (q := 5) d_Checks_waysToChoose_2 (by decide) rfl (fun c2 => ?_) (fun c2 => ?_)
  · replace hf := ite_t c2 hf
    refine r_iload_n C (q := 8) 1 d_Checks_waysToChoose_7 rfl rfl rfl ?_
    refine r_iload_n C (q := 9) 0 d_Checks_waysToChoose_8 rfl rfl rfl ?_
    refine r_iload_n C (q := 10) 1 d_Checks_waysToChoose_9 rfl rfl rfl ?_
    refine r_isub C (q := 11) d_Checks_waysToChoose_10 rfl ?_
    refine r_mmin C (q := 14) ml_Checks_22 mM_min (Nat.le_of_ble_eq_true rfl) (Nat.le_of_ble_eq_true rfl) (Nat.le_of_ble_eq_true rfl) d_Checks_waysToChoose_11 rfl ?_
    refine r_istore_n C (q := 15) (lv' := [(2, vI (mn32 v1 (v0 - v1))), (0, vI v0), (1, vI v1)]) d_Checks_waysToChoose_14 rfl (by decide) rfl rfl ?_
    refine r_lconst C (q := 16) (x := 1) d_Checks_waysToChoose_15 rfl rfl ?_
    refine r_lstore_n C (q := 17) (lv' := [(3, vJ 1), (2, vI (mn32 v1 (v0 - v1))), (0, vI v0), (1, vI v1)]) d_Checks_waysToChoose_16 rfl (by decide) rfl rfl ?_
    refine r_iconst C (q := 18) d_Checks_waysToChoose_17 rfl ?_
    refine r_istore C (q := 20) (lv' := [(5, vI 1), (3, vJ 1), (2, vI (mn32 v1 (v0 - v1))), (0, vI v0), (1, vI v1)]) d_Checks_waysToChoose_18 (by decide) rfl rfl ?_
    have hL : ∀ (u3 u5 : Int) (z : St), itr (x_Checks_waysToChoose_20 N v0 (mn32 v1 (v0 - v1))) (fun _ _ _ => none) N u3 u5 z = some o → Rj X (xW G) 6 (qL X (xW G) o) 20 [(0, vI v0), (2, vI (mn32 v1 (v0 - v1))), (3, vJ u3), (5, vI u5)] [] z := itr_ind (x_Checks_waysToChoose_20 N v0 (mn32 v1 (v0 - v1))) (fun _ _ _ => none) (fun k => ∀ (u3 u5 : Int) (z : St), k u3 u5 z = some o → Rj X (xW G) 6 (qL X (xW G) o) 20 [(0, vI v0), (2, vI (mn32 v1 (v0 - v1))), (3, vJ u3), (5, vI u5)] [] z) (fun _ _ _  h => by cases h) (fun k hk u3 u5 z h => s_x_Checks_waysToChoose_20 C hk h) N
    exact r_sub [3, 2, 1, 0] rfl (hL _ _ _  hf)
  · replace hf := ite_f c2 hf
    refine r_lconst C (q := 6) (x := 0) d_Checks_waysToChoose_5 rfl rfl ?_
    exact r_lreturn C hf d_Checks_waysToChoose_6
def x_Checks_isLikely_60 (N : Nat) (k9 : Int → Int → Int → St → MM) (v0 v1 v2 v3 v4 v6 v8 : Int) (s : St) : MM := k9 v4 v6 (v8 + 1) s
def x_Checks_isLikely_47 (N : Nat) (k9 : Int → Int → Int → St → MM) (v0 v1 v2 v3 v4 v6 v8 v9 : Int) (s : St) : MM := if lt32 v8 v2 then (x_Checks_isLikely_60 N k9 v0 v1 v2 v3 v4 v6 v8  s) else (x_Checks_isLikely_60 N k9 v0 v1 v2 v3 v4 (v6 + v9) v8  s)
def x_Checks_isLikely_9 (N : Nat) (v0 v1 v2 v3 : Int) (k9 : Int → Int → Int → St → MM) (v4 v6 v8 : Int) (s : St) : MM := if lt32 v1 v8 then (bd (x_Checks_waysToChoose N v0 v1 s) (fun r68 s68 => if lt64 (40 * v4) r68 then (some (0, s68)) else (if lt64 (40 * v6) r68 then (some (0, s68)) else (some (1, s68))))) else (bd (x_Checks_waysToChoose N v3 v8 s) (fun r18 s18 => bd (x_Checks_waysToChoose N (v0 - v3) (v1 - v8) s18) (fun r28 s28 => if lt32 v2 v8 then (x_Checks_isLikely_47 N k9 v0 v1 v2 v3 v4 v6 v8 (r18 * r28)  s28) else (x_Checks_isLikely_47 N k9 v0 v1 v2 v3 (v4 + (r18 * r28)) v6 v8 (r18 * r28)  s28))))
def x_Checks_isLikely (N : Nat) (v0 v1 v2 v3 : Int) (s : St) : MM := itr (x_Checks_isLikely_9 N v0 v1 v2 v3) (fun _ _ _ _ => none) N 0 0 0 s
abbrev rm_x_Checks_isLikely : Room := { frames := 2, cells := 0, slots := 0, locals := 48 }
theorem s_x_Checks_isLikely_60 {X : CxT} {l : Launch} {G : GG} (C : Cx X l (xW G) 11 prog_3_method_11_code "OneSelf$Checks" (wo y_Checks_isLikely prog_3_method_11_code 11 (some .boolean)) (some .boolean) rm_x_Checks_isLikely) {o : Int × St} {N : Nat} {v0 v1 v2 v3 v4 v6 v8 : Int} {k9 : Int → Int → Int → St → MM} (hk9 : ∀ (u4 u6 u8 : Int) (s : St), k9 u4 u6 u8 s = some o → Rj X (xW G) 11 (qI X (xW G) o) 9 [(0, vI v0), (1, vI v1), (2, vI v2), (3, vI v3), (4, vJ u4), (6, vJ u6), (8, vI u8)] [] s) {s : St} (hf : x_Checks_isLikely_60 N k9 v0 v1 v2 v3 v4 v6 v8 s = some o) : Rj X (xW G) 11 (qI X (xW G) o) 60 [(0, vI v0), (1, vI v1), (2, vI v2), (3, vI v3), (4, vJ v4), (6, vJ v6), (8, vI v8)] [] s := by
  unfold x_Checks_isLikely_60 at hf
  refine r_iinc C (q := 63) (lv' := [(8, vI (v8 + 1)), (0, vI v0), (1, vI v1), (2, vI v2), (3, vI v3), (4, vJ v4), (6, vJ v6)]) 6 d_Checks_isLikely_60 rfl (by decide) rfl rfl ?_
  refine r_goto C (q := 9) d_Checks_isLikely_63 (by decide) ?_
  exact r_sub [1, 2, 3, 4, 5, 6, 0] rfl (hk9 _ _ _ _  hf)
theorem s_x_Checks_isLikely_47 {X : CxT} {l : Launch} {G : GG} (C : Cx X l (xW G) 11 prog_3_method_11_code "OneSelf$Checks" (wo y_Checks_isLikely prog_3_method_11_code 11 (some .boolean)) (some .boolean) rm_x_Checks_isLikely) {o : Int × St} {N : Nat} {v0 v1 v2 v3 v4 v6 v8 v9 : Int} {k9 : Int → Int → Int → St → MM} (hk9 : ∀ (u4 u6 u8 : Int) (s : St), k9 u4 u6 u8 s = some o → Rj X (xW G) 11 (qI X (xW G) o) 9 [(0, vI v0), (1, vI v1), (2, vI v2), (3, vI v3), (4, vJ u4), (6, vJ u6), (8, vI u8)] [] s) {s : St} (hf : x_Checks_isLikely_47 N k9 v0 v1 v2 v3 v4 v6 v8 v9 s = some o) : Rj X (xW G) 11 (qI X (xW G) o) 47 [(0, vI v0), (1, vI v1), (2, vI v2), (3, vI v3), (4, vJ v4), (6, vJ v6), (8, vI v8), (9, vJ v9)] [] s := by
  unfold x_Checks_isLikely_47 at hf
  refine r_iload C (q := 49) 6 d_Checks_isLikely_47 rfl rfl ?_
  refine r_iload_n C (q := 50) 2 d_Checks_isLikely_49 rfl rfl rfl ?_
  refine r_ic_lt C (t := 60) (q := 53) d_Checks_isLikely_50 (by decide) rfl (fun c50 => ?_) (fun c50 => ?_)
  · replace hf := ite_t c50 hf
    exact r_sub [0, 1, 2, 3, 4, 5, 6] rfl (s_x_Checks_isLikely_60 C hk9 hf)
  · replace hf := ite_f c50 hf
    refine r_lload C (q := 55) 5 d_Checks_isLikely_53 rfl rfl ?_
    refine r_lload C (q := 57) 7 d_Checks_isLikely_55 rfl rfl ?_
    refine r_ladd C (q := 58) d_Checks_isLikely_57 rfl ?_
    refine r_lstore C (q := 60) (lv' := [(6, vJ (v6 + v9)), (0, vI v0), (1, vI v1), (2, vI v2), (3, vI v3), (4, vJ v4), (8, vI v8), (9, vJ v9)]) d_Checks_isLikely_58 (by decide) rfl rfl ?_
    exact r_sub [1, 2, 3, 4, 5, 0, 6] rfl (s_x_Checks_isLikely_60 C hk9 hf)
theorem s_x_Checks_isLikely_9 {X : CxT} {l : Launch} {G : GG} (C : Cx X l (xW G) 11 prog_3_method_11_code "OneSelf$Checks" (wo y_Checks_isLikely prog_3_method_11_code 11 (some .boolean)) (some .boolean) rm_x_Checks_isLikely) {o : Int × St} {N : Nat} {v0 v1 v2 v3 v4 v6 v8 : Int} {k9 : Int → Int → Int → St → MM} (hk9 : ∀ (u4 u6 u8 : Int) (s : St), k9 u4 u6 u8 s = some o → Rj X (xW G) 11 (qI X (xW G) o) 9 [(0, vI v0), (1, vI v1), (2, vI v2), (3, vI v3), (4, vJ u4), (6, vJ u6), (8, vI u8)] [] s) {s : St} (hf : x_Checks_isLikely_9 N v0 v1 v2 v3 k9 v4 v6 v8 s = some o) : Rj X (xW G) 11 (qI X (xW G) o) 9 [(0, vI v0), (1, vI v1), (2, vI v2), (3, vI v3), (4, vJ v4), (6, vJ v6), (8, vI v8)] [] s := by
  unfold x_Checks_isLikely_9 at hf
  refine r_iload C (q := 11) 6 d_Checks_isLikely_9 rfl rfl ?_
  refine r_iload_n C (q := 12) 1 d_Checks_isLikely_11 rfl rfl rfl ?_
  refine r_ic_gt C (t := 66) (q := 15) d_Checks_isLikely_12 (by decide) rfl (fun c12 => ?_) (fun c12 => ?_)
  · replace hf := ite_t c12 hf
    refine r_iload_n C (q := 67) 0 d_Checks_isLikely_66 rfl rfl rfl ?_
    refine r_iload_n C (q := 68) 1 d_Checks_isLikely_67 rfl rfl rfl ?_
    obtain ⟨r68, s68, hg68, hf⟩ := bd_s hf
    refine r_cSL C (q := 71) (As := [vI v0, vI v1]) (c_x_Checks_waysToChoose C.i hg68) mt_Checks_waysToChoose ml_Checks_61 rfl rfl rfl ⟨Nat.le_of_ble_eq_true rfl, Nat.le_of_ble_eq_true rfl⟩ rfl (Nat.le_of_ble_eq_true rfl) d_Checks_isLikely_68 rfl ?_
    refine r_lstore C (q := 73) (lv' := [(8, vJ r68), (0, vI v0), (1, vI v1), (2, vI v2), (3, vI v3), (4, vJ v4), (6, vJ v6)]) d_Checks_isLikely_71 (by decide) rfl rfl ?_
    refine r_ldc2 C (q := 76) (x := 40) kc_Checks_65 rfl d_Checks_isLikely_73 rfl ?_
    refine r_lload C (q := 78) 5 d_Checks_isLikely_76 rfl rfl ?_
    refine r_lmul C (q := 79) d_Checks_isLikely_78 rfl ?_
    refine r_lload C (q := 81) 0 d_Checks_isLikely_79 rfl rfl ?_
    refine r_lc_lt C (t := 101) (q := 82) (q2 := 85) d_Checks_isLikely_81 rfl d_Checks_isLikely_82 (by decide) rfl (fun c81 => ?_) (fun c81 => ?_)
    · replace hf := ite_t c81 hf
      refine r_iconst C (q := 102) d_Checks_isLikely_101 rfl ?_
      exact r_zreturn C (by decide) hf d_Checks_isLikely_102
    · replace hf := ite_f c81 hf
      refine r_ldc2 C (q := 88) (x := 40) kc_Checks_65 rfl d_Checks_isLikely_85 rfl ?_
      refine r_lload C (q := 90) 6 d_Checks_isLikely_88 rfl rfl ?_
      refine r_lmul C (q := 91) d_Checks_isLikely_90 rfl ?_
      refine r_lload C (q := 93) 0 d_Checks_isLikely_91 rfl rfl ?_
      refine r_lc_lt C (t := 101) (q := 94) (q2 := 97) d_Checks_isLikely_93 rfl d_Checks_isLikely_94 (by decide) rfl (fun c93 => ?_) (fun c93 => ?_)
      · replace hf := ite_t c93 hf
        refine r_iconst C (q := 102) d_Checks_isLikely_101 rfl ?_
        exact r_zreturn C (by decide) hf d_Checks_isLikely_102
      · replace hf := ite_f c93 hf
        refine r_iconst C (q := 98) d_Checks_isLikely_97 rfl ?_
        refine r_goto C (q := 102) d_Checks_isLikely_98 (by decide) ?_
        exact r_zreturn C (by decide) hf d_Checks_isLikely_102
  · replace hf := ite_f c12 hf
    refine r_iload_n C (q := 16) 3 d_Checks_isLikely_15 rfl rfl rfl ?_
    refine r_iload C (q := 18) 6 d_Checks_isLikely_16 rfl rfl ?_
    obtain ⟨r18, s18, hg18, hf⟩ := bd_s hf
    refine r_cSL C (q := 21) (As := [vI v3, vI v8]) (c_x_Checks_waysToChoose C.i hg18) mt_Checks_waysToChoose ml_Checks_61 rfl rfl rfl ⟨Nat.le_of_ble_eq_true rfl, Nat.le_of_ble_eq_true rfl⟩ rfl (Nat.le_of_ble_eq_true rfl) d_Checks_isLikely_18 rfl ?_
    refine r_iload_n C (q := 22) 0 d_Checks_isLikely_21 rfl rfl rfl ?_
    refine r_iload_n C (q := 23) 3 d_Checks_isLikely_22 rfl rfl rfl ?_
    refine r_isub C (q := 24) d_Checks_isLikely_23 rfl ?_
    refine r_iload_n C (q := 25) 1 d_Checks_isLikely_24 rfl rfl rfl ?_
    refine r_iload C (q := 27) 6 d_Checks_isLikely_25 rfl rfl ?_
    refine r_isub C (q := 28) d_Checks_isLikely_27 rfl ?_
    obtain ⟨r28, s28, hg28, hf⟩ := bd_s hf
    refine r_cSL C (q := 31) (As := [vI (v0 - v3), vI (v1 - v8)]) (c_x_Checks_waysToChoose C.i hg28) mt_Checks_waysToChoose ml_Checks_61 rfl rfl rfl ⟨Nat.le_of_ble_eq_true rfl, Nat.le_of_ble_eq_true rfl⟩ rfl (Nat.le_of_ble_eq_true rfl) d_Checks_isLikely_28 rfl ?_
    refine r_lmul C (q := 32) d_Checks_isLikely_31 rfl ?_
    refine r_lstore C (q := 34) (lv' := [(9, vJ (r18 * r28)), (0, vI v0), (1, vI v1), (2, vI v2), (3, vI v3), (4, vJ v4), (6, vJ v6), (8, vI v8)]) d_Checks_isLikely_32 (by decide) rfl rfl ?_
    refine r_iload C (q := 36) 7 d_Checks_isLikely_34 rfl rfl ?_
    refine r_iload_n C (q := 37) 3 d_Checks_isLikely_36 rfl rfl rfl ?_
    refine r_ic_gt C (t := 47) (q := 40) d_Checks_isLikely_37 (by decide) rfl (fun c37 => ?_) (fun c37 => ?_)
    · replace hf := ite_t c37 hf
      exact r_sub [1, 2, 3, 4, 5, 6, 7, 0] rfl (s_x_Checks_isLikely_47 C hk9 hf)
    · replace hf := ite_f c37 hf
      refine r_lload C (q := 42) 5 d_Checks_isLikely_40 rfl rfl ?_
      refine r_lload C (q := 44) 0 d_Checks_isLikely_42 rfl rfl ?_
      refine r_ladd C (q := 45) d_Checks_isLikely_44 rfl ?_
      refine r_lstore C (q := 47) (lv' := [(4, vJ (v4 + (r18 * r28))), (9, vJ (r18 * r28)), (0, vI v0), (1, vI v1), (2, vI v2), (3, vI v3), (6, vJ v6), (8, vI v8)]) d_Checks_isLikely_45 (by decide) rfl rfl ?_
      exact r_sub [2, 3, 4, 5, 0, 6, 7, 1] rfl (s_x_Checks_isLikely_47 C hk9 hf)
theorem c_x_Checks_isLikely {l : Launch} {G : GG} (hi : wo_i (xW G)) {N : Nat} {v0 v1 v2 v3 : Int} {s : St} {o : Int × St} (hf : x_Checks_isLikely N v0 v1 v2 v3 s = some o) : CtI l (xW G) y_Checks_isLikely (wo y_Checks_isLikely prog_3_method_11_code 11 (some .boolean)) rm_x_Checks_isLikely [vI v0, vI v1, vI v2, vI v3] s o := by
  refine ct_I (by decide +kernel) hi (Nat.le_of_ble_eq_true rfl) fun X C => ?_
  unfold x_Checks_isLikely at hf
  show Rj X (xW G) 11 (qI X (xW G) o) 0 [(0, vI v0), (1, vI v1), (2, vI v2), (3, vI v3)] [] s
  refine r_lconst C (q := 1) (x := 0) d_Checks_isLikely_0 rfl rfl ?_
  refine r_lstore C (q := 3) (lv' := [(4, vJ 0), (0, vI v0), (1, vI v1), (2, vI v2), (3, vI v3)]) d_Checks_isLikely_1 (by decide) rfl rfl ?_
  refine r_lconst C (q := 4) (x := 0) d_Checks_isLikely_3 rfl rfl ?_
  refine r_lstore C (q := 6) (lv' := [(6, vJ 0), (4, vJ 0), (0, vI v0), (1, vI v1), (2, vI v2), (3, vI v3)]) d_Checks_isLikely_4 (by decide) rfl rfl ?_
  refine r_iconst C (q := 7) d_Checks_isLikely_6 rfl ?_
  refine r_istore C (q := 9) (lv' := [(8, vI 0), (6, vJ 0), (4, vJ 0), (0, vI v0), (1, vI v1), (2, vI v2), (3, vI v3)]) d_Checks_isLikely_7 (by decide) rfl rfl ?_
  have hL : ∀ (u4 u6 u8 : Int) (z : St), itr (x_Checks_isLikely_9 N v0 v1 v2 v3) (fun _ _ _ _ => none) N u4 u6 u8 z = some o → Rj X (xW G) 11 (qI X (xW G) o) 9 [(0, vI v0), (1, vI v1), (2, vI v2), (3, vI v3), (4, vJ u4), (6, vJ u6), (8, vI u8)] [] z := itr_ind (x_Checks_isLikely_9 N v0 v1 v2 v3) (fun _ _ _ _ => none) (fun k => ∀ (u4 u6 u8 : Int) (z : St), k u4 u6 u8 z = some o → Rj X (xW G) 11 (qI X (xW G) o) 9 [(0, vI v0), (1, vI v1), (2, vI v2), (3, vI v3), (4, vJ u4), (6, vJ u6), (8, vI u8)] [] z) (fun _ _ _ _  h => by cases h) (fun k hk u4 u6 u8 z h => s_x_Checks_isLikely_9 C hk h) N
  exact r_sub [3, 4, 5, 6, 2, 1, 0] rfl (hL _ _ _ _  hf)
def x_Checks_leastFalse_2 (N : Nat) (v0 v1 v2 : Int) (k2 : Int → St → MM) (v3 : Int) (s : St) : MM := if le32 v0 v3 then (some (v3, s)) else (bd (x_Checks_isLikely N v0 v1 v2 v3 s) (fun r11 s11 => if eq32 r11 0 then (k2 (v3 + 1) s11) else (some (v3, s11))))
def x_Checks_leastFalse (N : Nat) (v0 v1 v2 : Int) (s : St) : MM := itr (x_Checks_leastFalse_2 N v0 v1 v2) (fun _ _ => none) N 0 s
abbrev rm_x_Checks_leastFalse : Room := { frames := 3, cells := 0, slots := 0, locals := 78 }
theorem s_x_Checks_leastFalse_2 {X : CxT} {l : Launch} {G : GG} (C : Cx X l (xW G) 4 prog_3_method_9_code "OneSelf$Checks" (wo y_Checks_leastFalse prog_3_method_9_code 4 (some .int)) (some .int) rm_x_Checks_leastFalse) {o : Int × St} {N : Nat} {v0 v1 v2 v3 : Int} {k2 : Int → St → MM} (hk2 : ∀ (u3 : Int) (s : St), k2 u3 s = some o → Rj X (xW G) 4 (qI X (xW G) o) 2 [(0, vI v0), (1, vI v1), (2, vI v2), (3, vI u3)] [] s) {s : St} (hf : x_Checks_leastFalse_2 N v0 v1 v2 k2 v3 s = some o) : Rj X (xW G) 4 (qI X (xW G) o) 2 [(0, vI v0), (1, vI v1), (2, vI v2), (3, vI v3)] [] s := by
  unfold x_Checks_leastFalse_2 at hf
  refine r_iload_n C (q := 3) 3 d_Checks_leastFalse_2 rfl rfl rfl ?_
  refine r_iload_n C (q := 4) 0 d_Checks_leastFalse_3 rfl rfl rfl ?_
  refine r_ic_ge C (t := 23) (q := 7) d_Checks_leastFalse_4 (by decide) rfl (fun c4 => ?_) (fun c4 => ?_)
  · replace hf := ite_t c4 hf
    refine r_iload_n C (q := 24) 3 d_Checks_leastFalse_23 rfl rfl rfl ?_
    exact r_ireturn C hf d_Checks_leastFalse_24
  · replace hf := ite_f c4 hf
    refine r_iload_n C (q := 8) 0 d_Checks_leastFalse_7 rfl rfl rfl ?_
    refine r_iload_n C (q := 9) 1 d_Checks_leastFalse_8 rfl rfl rfl ?_
    refine r_iload_n C (q := 10) 2 d_Checks_leastFalse_9 rfl rfl rfl ?_
    refine r_iload_n C (q := 11) 3 d_Checks_leastFalse_10 rfl rfl rfl ?_
    obtain ⟨r11, s11, hg11, hf⟩ := bd_s hf
    refine r_cSI C (q := 14) (As := [vI v0, vI v1, vI v2, vI v3]) (c_x_Checks_isLikely C.i hg11) mt_Checks_isLikely ml_Checks_57 rfl rfl rfl ⟨Nat.le_of_ble_eq_true rfl, Nat.le_of_ble_eq_true rfl⟩ rfl (Nat.le_of_ble_eq_true rfl) d_Checks_leastFalse_11 rfl ?_
    refine r_if_ne C (t := 23) (q := 17) d_Checks_leastFalse_14 (by decide) rfl (fun c14 => ?_) (fun c14 => ?_)
    · replace hf := ite_t c14 hf
      refine r_iinc C (q := 20) (lv' := [(3, vI (v3 + 1)), (0, vI v0), (1, vI v1), (2, vI v2)]) 3 d_Checks_leastFalse_17 rfl (by decide) rfl rfl ?_
      refine r_goto C (q := 2) d_Checks_leastFalse_20 (by decide) ?_
      exact r_sub [1, 2, 3, 0] rfl (hk2 _ _  hf)
    · replace hf := ite_f c14 hf
      refine r_iload_n C (q := 24) 3 d_Checks_leastFalse_23 rfl rfl rfl ?_
      exact r_ireturn C hf d_Checks_leastFalse_24
theorem c_x_Checks_leastFalse {l : Launch} {G : GG} (hi : wo_i (xW G)) {N : Nat} {v0 v1 v2 : Int} {s : St} {o : Int × St} (hf : x_Checks_leastFalse N v0 v1 v2 s = some o) : CtI l (xW G) y_Checks_leastFalse (wo y_Checks_leastFalse prog_3_method_9_code 4 (some .int)) rm_x_Checks_leastFalse [vI v0, vI v1, vI v2] s o := by
  refine ct_I (by decide +kernel) hi (Nat.le_of_ble_eq_true rfl) fun X C => ?_
  unfold x_Checks_leastFalse at hf
  show Rj X (xW G) 4 (qI X (xW G) o) 0 [(0, vI v0), (1, vI v1), (2, vI v2)] [] s
  refine r_iconst C (q := 1) d_Checks_leastFalse_0 rfl ?_
  refine r_istore_n C (q := 2) (lv' := [(3, vI 0), (0, vI v0), (1, vI v1), (2, vI v2)]) d_Checks_leastFalse_1 rfl (by decide) rfl rfl ?_
  have hL : ∀ (u3 : Int) (z : St), itr (x_Checks_leastFalse_2 N v0 v1 v2) (fun _ _ => none) N u3 z = some o → Rj X (xW G) 4 (qI X (xW G) o) 2 [(0, vI v0), (1, vI v1), (2, vI v2), (3, vI u3)] [] z := itr_ind (x_Checks_leastFalse_2 N v0 v1 v2) (fun _ _ => none) (fun k => ∀ (u3 : Int) (z : St), k u3 z = some o → Rj X (xW G) 4 (qI X (xW G) o) 2 [(0, vI v0), (1, vI v1), (2, vI v2), (3, vI u3)] [] z) (fun _ _  h => by cases h) (fun k hk u3 z h => s_x_Checks_leastFalse_2 C hk h) N
  exact r_sub [1, 2, 3, 0] rfl (hL _ _  hf)
def x_Checks_mostFalse_2 (N : Nat) (v0 v1 v2 : Int) (k2 : Int → St → MM) (v3 : Int) (s : St) : MM := if le32 v3 0 then (some (v3, s)) else (bd (x_Checks_isLikely N v0 v1 v2 v3 s) (fun r10 s10 => if eq32 r10 0 then (k2 (v3 + (-1)) s10) else (some (v3, s10))))
def x_Checks_mostFalse (N : Nat) (v0 v1 v2 : Int) (s : St) : MM := itr (x_Checks_mostFalse_2 N v0 v1 v2) (fun _ _ => none) N v0 s
abbrev rm_x_Checks_mostFalse : Room := { frames := 3, cells := 0, slots := 0, locals := 78 }
theorem s_x_Checks_mostFalse_2 {X : CxT} {l : Launch} {G : GG} (C : Cx X l (xW G) 4 prog_3_method_10_code "OneSelf$Checks" (wo y_Checks_mostFalse prog_3_method_10_code 4 (some .int)) (some .int) rm_x_Checks_mostFalse) {o : Int × St} {N : Nat} {v0 v1 v2 v3 : Int} {k2 : Int → St → MM} (hk2 : ∀ (u3 : Int) (s : St), k2 u3 s = some o → Rj X (xW G) 4 (qI X (xW G) o) 2 [(0, vI v0), (1, vI v1), (2, vI v2), (3, vI u3)] [] s) {s : St} (hf : x_Checks_mostFalse_2 N v0 v1 v2 k2 v3 s = some o) : Rj X (xW G) 4 (qI X (xW G) o) 2 [(0, vI v0), (1, vI v1), (2, vI v2), (3, vI v3)] [] s := by
  unfold x_Checks_mostFalse_2 at hf
  refine r_iload_n C (q := 3) 3 d_Checks_mostFalse_2 rfl rfl rfl ?_
  refine r_if_le C (t := 22) (q := 6) d_Checks_mostFalse_3 (by decide) rfl (fun c3 => ?_) (fun c3 => ?_)
  · replace hf := ite_t c3 hf
    refine r_iload_n C (q := 23) 3 d_Checks_mostFalse_22 rfl rfl rfl ?_
    exact r_ireturn C hf d_Checks_mostFalse_23
  · replace hf := ite_f c3 hf
    refine r_iload_n C (q := 7) 0 d_Checks_mostFalse_6 rfl rfl rfl ?_
    refine r_iload_n C (q := 8) 1 d_Checks_mostFalse_7 rfl rfl rfl ?_
    refine r_iload_n C (q := 9) 2 d_Checks_mostFalse_8 rfl rfl rfl ?_
    refine r_iload_n C (q := 10) 3 d_Checks_mostFalse_9 rfl rfl rfl ?_
    obtain ⟨r10, s10, hg10, hf⟩ := bd_s hf
    refine r_cSI C (q := 13) (As := [vI v0, vI v1, vI v2, vI v3]) (c_x_Checks_isLikely C.i hg10) mt_Checks_isLikely ml_Checks_57 rfl rfl rfl ⟨Nat.le_of_ble_eq_true rfl, Nat.le_of_ble_eq_true rfl⟩ rfl (Nat.le_of_ble_eq_true rfl) d_Checks_mostFalse_10 rfl ?_
    refine r_if_ne C (t := 22) (q := 16) d_Checks_mostFalse_13 (by decide) rfl (fun c13 => ?_) (fun c13 => ?_)
    · replace hf := ite_t c13 hf
      refine r_iinc C (q := 19) (lv' := [(3, vI (v3 + (-1))), (0, vI v0), (1, vI v1), (2, vI v2)]) 3 d_Checks_mostFalse_16 rfl (by decide) rfl rfl ?_
      refine r_goto C (q := 2) d_Checks_mostFalse_19 (by decide) ?_
      exact r_sub [1, 2, 3, 0] rfl (hk2 _ _  hf)
    · replace hf := ite_f c13 hf
      refine r_iload_n C (q := 23) 3 d_Checks_mostFalse_22 rfl rfl rfl ?_
      exact r_ireturn C hf d_Checks_mostFalse_23
theorem c_x_Checks_mostFalse {l : Launch} {G : GG} (hi : wo_i (xW G)) {N : Nat} {v0 v1 v2 : Int} {s : St} {o : Int × St} (hf : x_Checks_mostFalse N v0 v1 v2 s = some o) : CtI l (xW G) y_Checks_mostFalse (wo y_Checks_mostFalse prog_3_method_10_code 4 (some .int)) rm_x_Checks_mostFalse [vI v0, vI v1, vI v2] s o := by
  refine ct_I (by decide +kernel) hi (Nat.le_of_ble_eq_true rfl) fun X C => ?_
  unfold x_Checks_mostFalse at hf
  show Rj X (xW G) 4 (qI X (xW G) o) 0 [(0, vI v0), (1, vI v1), (2, vI v2)] [] s
  refine r_iload_n C (q := 1) 0 d_Checks_mostFalse_0 rfl rfl rfl ?_
  refine r_istore_n C (q := 2) (lv' := [(3, vI v0), (0, vI v0), (1, vI v1), (2, vI v2)]) d_Checks_mostFalse_1 rfl (by decide) rfl rfl ?_
  have hL : ∀ (u3 : Int) (z : St), itr (x_Checks_mostFalse_2 N v0 v1 v2) (fun _ _ => none) N u3 z = some o → Rj X (xW G) 4 (qI X (xW G) o) 2 [(0, vI v0), (1, vI v1), (2, vI v2), (3, vI u3)] [] z := itr_ind (x_Checks_mostFalse_2 N v0 v1 v2) (fun _ _ => none) (fun k => ∀ (u3 : Int) (z : St), k u3 z = some o → Rj X (xW G) 4 (qI X (xW G) o) 2 [(0, vI v0), (1, vI v1), (2, vI v2), (3, vI u3)] [] z) (fun _ _  h => by cases h) (fun k hk u3 z h => s_x_Checks_mostFalse_2 C hk h) N
  exact r_sub [1, 2, 3, 0] rfl (hL _ _  hf)
def x_bound (N : Nat) (v1 : Int) (s : St) : MM := bd (x_isBelow N v1 2 s) (fun r2 s2 => if eq32 r2 0 then (some ((-2), s2)) else (bd (x_Pairs_countLinks N s2) (fun r15 s15 => if eq32 r15 0 then (some ((-3), s15)) else (if le32 r15 60 then (bd (x_Checks_countLinks N 0 s15) (fun r44 s44 => bd (x_Checks_countLinks N 1 s44) (fun r57 s57 => if eq32 v1 0 then (bd (x_Checks_leastFalse N r15 r44 r57 s57) (fun r70 s70 => some (r70, s70))) else (bd (x_Checks_mostFalse N r15 r44 r57 s57) (fun r80 s80 => some (r80, s80)))))) else (some ((-4), s15))))))
abbrev rm_x_bound : Room := { frames := 5, cells := 0, slots := 0, locals := 120 }
theorem c_x_bound {l : Launch} {G : GG} (hi : wo_i (xW G)) {N : Nat} {v1 : Int} {s : St} {o : Int × St} (hf : x_bound N v1 s = some o) : CtI l (xW G) y_O_bound (wo y_O_bound prog_1_method_30_code 5 (some .int)) rm_x_bound [.ref ((xW G).h 0), vI v1] s o := by
  refine ct_I (by decide +kernel) hi (Nat.le_of_ble_eq_true rfl) fun X C => ?_
  unfold x_bound at hf
  show Rj X (xW G) 5 (qI X (xW G) o) 0 [(0, .ref ((xW G).h 0)), (1, vI v1)] [] s
  refine r_iload_n C (q := 1) 1 d_O_bound_0 rfl rfl rfl ?_
  refine r_iconst C (q := 2) d_O_bound_1 rfl ?_
  obtain ⟨r2, s2, hg2, hf⟩ := bd_s hf
  refine r_cSI C (q := 5) (As := [vI v1, vI 2]) (c_x_isBelow C.i hg2) mt_O_isBelow ml_O_88 rfl rfl rfl ⟨Nat.le_of_ble_eq_true rfl, Nat.le_of_ble_eq_true rfl⟩ rfl (Nat.le_of_ble_eq_true rfl) d_O_bound_2 rfl ?_
  refine r_if_ne C (t := 11) (q := 8) d_O_bound_5 (by decide) rfl (fun c5 => ?_) (fun c5 => ?_)
  · replace hf := ite_t c5 hf
    refine r_bipush C (q := 10) (x := (-2)) d_O_bound_8 rfl rfl ?_
    exact r_ireturn C hf d_O_bound_10
  · replace hf := ite_f c5 hf
    refine r_aload_n C (q := 12) 0 d_O_bound_11 rfl rfl rfl ?_
    refine gxx_O_pairs C (q := 15) fl_O_19 d_O_bound_12 rfl ?_
    obtain ⟨r15, s15, hg15, hf⟩ := bd_s hf
    refine r_cVI C (q := 18) (As := []) (k0 := 2) (c_x_Pairs_countLinks C.i hg15) mt_Pairs_countLinks ml_O_224 (Nat.le_of_ble_eq_true rfl) rfl rfl rfl rfl rfl rfl ⟨Nat.le_of_ble_eq_true rfl, Nat.le_of_ble_eq_true rfl⟩ rfl (Nat.le_of_ble_eq_true rfl) d_O_bound_15 rfl ?_
    refine r_istore_n C (q := 19) (lv' := [(2, vI r15), (0, .ref ((xW G).h 0)), (1, vI v1)]) d_O_bound_18 rfl (by decide) rfl rfl ?_
    refine r_iload_n C (q := 20) 0 d_O_bound_19 rfl rfl rfl ?_
    refine r_if_ne C (t := 26) (q := 23) d_O_bound_20 (by decide) rfl (fun c20 => ?_) (fun c20 => ?_)
    · replace hf := ite_t c20 hf
      refine r_bipush C (q := 25) (x := (-3)) d_O_bound_23 rfl rfl ?_
      exact r_ireturn C hf d_O_bound_25
    · replace hf := ite_f c20 hf
      refine r_iload_n C (q := 27) 0 d_O_bound_26 rfl rfl rfl ?_
      refine r_bipush C (q := 29) (x := 60) d_O_bound_27 rfl rfl ?_
      refine r_ic_le C (t := 35) (q := 32) d_O_bound_29 (by decide) rfl (fun c29 => ?_) (fun c29 => ?_)
      · replace hf := ite_t c29 hf
        refine r_aload_n C (q := 36) 1 d_O_bound_35 rfl rfl rfl ?_
        refine gxx_O_checks C (q := 39) fl_O_67 d_O_bound_36 rfl ?_
        refine r_aload_n C (q := 40) 1 d_O_bound_39 rfl rfl rfl ?_
        refine gxx_O_pairs C (q := 43) fl_O_19 d_O_bound_40 rfl ?_
        refine r_iconst C (q := 44) d_O_bound_43 rfl ?_
        obtain ⟨r44, s44, hg44, hf⟩ := bd_s hf
        refine r_cVI C (q := 47) (As := [.ref ((xW G).h 2), vI 0]) (k0 := 10) (c_x_Checks_countLinks C.i hg44) mt_Checks_countLinks ml_O_283 (Nat.le_of_ble_eq_true rfl) rfl rfl rfl rfl rfl rfl ⟨Nat.le_of_ble_eq_true rfl, Nat.le_of_ble_eq_true rfl⟩ rfl (Nat.le_of_ble_eq_true rfl) d_O_bound_44 rfl ?_
        refine r_istore_n C (q := 48) (lv' := [(3, vI r44), (2, vI r15), (0, .ref ((xW G).h 0)), (1, vI v1)]) d_O_bound_47 rfl (by decide) rfl rfl ?_
        refine r_aload_n C (q := 49) 2 d_O_bound_48 rfl rfl rfl ?_
        refine gxx_O_checks C (q := 52) fl_O_67 d_O_bound_49 rfl ?_
        refine r_aload_n C (q := 53) 2 d_O_bound_52 rfl rfl rfl ?_
        refine gxx_O_pairs C (q := 56) fl_O_19 d_O_bound_53 rfl ?_
        refine r_iconst C (q := 57) d_O_bound_56 rfl ?_
        obtain ⟨r57, s57, hg57, hf⟩ := bd_s hf
        refine r_cVI C (q := 60) (As := [.ref ((xW G).h 2), vI 1]) (k0 := 10) (c_x_Checks_countLinks C.i hg57) mt_Checks_countLinks ml_O_283 (Nat.le_of_ble_eq_true rfl) rfl rfl rfl rfl rfl rfl ⟨Nat.le_of_ble_eq_true rfl, Nat.le_of_ble_eq_true rfl⟩ rfl (Nat.le_of_ble_eq_true rfl) d_O_bound_57 rfl ?_
        refine r_istore C (q := 62) (lv' := [(4, vI r57), (3, vI r44), (2, vI r15), (0, .ref ((xW G).h 0)), (1, vI v1)]) d_O_bound_60 (by decide) rfl rfl ?_
        refine r_iload_n C (q := 63) 4 d_O_bound_62 rfl rfl rfl ?_
        refine r_if_ne C (t := 76) (q := 66) d_O_bound_63 (by decide) rfl (fun c63 => ?_) (fun c63 => ?_)
        · replace hf := ite_t c63 hf
          refine r_iload_n C (q := 67) 2 d_O_bound_66 rfl rfl rfl ?_
          refine r_iload_n C (q := 68) 1 d_O_bound_67 rfl rfl rfl ?_
          refine r_iload C (q := 70) 0 d_O_bound_68 rfl rfl ?_
          obtain ⟨r70, s70, hg70, hf⟩ := bd_s hf
          refine r_cSI C (q := 73) (As := [vI r15, vI r44, vI r57]) (c_x_Checks_leastFalse C.i hg70) mt_Checks_leastFalse ml_O_286 rfl rfl rfl ⟨Nat.le_of_ble_eq_true rfl, Nat.le_of_ble_eq_true rfl⟩ rfl (Nat.le_of_ble_eq_true rfl) d_O_bound_70 rfl ?_
          refine r_goto C (q := 83) d_O_bound_73 (by decide) ?_
          exact r_ireturn C hf d_O_bound_83
        · replace hf := ite_f c63 hf
          refine r_iload_n C (q := 77) 2 d_O_bound_76 rfl rfl rfl ?_
          refine r_iload_n C (q := 78) 1 d_O_bound_77 rfl rfl rfl ?_
          refine r_iload C (q := 80) 0 d_O_bound_78 rfl rfl ?_
          obtain ⟨r80, s80, hg80, hf⟩ := bd_s hf
          refine r_cSI C (q := 83) (As := [vI r15, vI r44, vI r57]) (c_x_Checks_mostFalse C.i hg80) mt_Checks_mostFalse ml_O_289 rfl rfl rfl ⟨Nat.le_of_ble_eq_true rfl, Nat.le_of_ble_eq_true rfl⟩ rfl (Nat.le_of_ble_eq_true rfl) d_O_bound_80 rfl ?_
          exact r_ireturn C hf d_O_bound_83
      · replace hf := ite_f c29 hf
        refine r_bipush C (q := 34) (x := (-4)) d_O_bound_32 rfl rfl ?_
        exact r_ireturn C hf d_O_bound_34
def x_Checks_countLevel_75 (N : Nat) (k6 : Int → Int → St → MM) (v2 v3 v4 v5 v6 : Int) (s : St) : MM := k6 v5 (v6 + 1) s
def x_Checks_countLevel_6 (N : Nat) (v2 v3 v4 : Int) (k6 : Int → Int → St → MM) (v5 v6 : Int) (s : St) : MM := if le32 (s 10 3) v6 then (some (v5, s)) else (gd (inb v6 40) (gd (inb v6 40) (gd (inb v6 40) (if eq32 (s 38 v6) v2 then (bd (x_Rows_areKnown N (s 36 v6) (s 37 v6) s) (fun r52 s52 => if eq32 r52 0 then (x_Checks_countLevel_75 N k6 v2 v3 v4 v5 v6  s52) else (bd (x_Pairs_levelOf N (s 36 v6) (s 37 v6) v3 s52) (fun r64 s64 => if eq32 r64 v4 then (x_Checks_countLevel_75 N k6 v2 v3 v4 (v5 + 1) v6  s64) else (x_Checks_countLevel_75 N k6 v2 v3 v4 v5 v6  s64))))) else (x_Checks_countLevel_75 N k6 v2 v3 v4 v5 v6  s)))))
def x_Checks_countLevel (N : Nat) (v2 v3 v4 : Int) (s : St) : MM := itr (x_Checks_countLevel_6 N v2 v3 v4) (fun _ _ _ => none) N 0 0 s
abbrev rm_x_Checks_countLevel : Room := { frames := 3, cells := 0, slots := 0, locals := 67 }
theorem s_x_Checks_countLevel_75 {X : CxT} {l : Launch} {G : GG} (C : Cx X l (xW G) 9 prog_3_method_7_code "OneSelf$Checks" (wo y_Checks_countLevel prog_3_method_7_code 9 (some .int)) (some .int) rm_x_Checks_countLevel) {o : Int × St} {N : Nat} {v2 v3 v4 v5 v6 : Int} {k6 : Int → Int → St → MM} (hk6 : ∀ (u5 u6 : Int) (s : St), k6 u5 u6 s = some o → Rj X (xW G) 9 (qI X (xW G) o) 6 [(0, .ref ((xW G).h 10)), (1, .ref ((xW G).h 2)), (2, vI v2), (3, vI v3), (4, vI v4), (5, vI u5), (6, vI u6)] [] s) {s : St} (hf : x_Checks_countLevel_75 N k6 v2 v3 v4 v5 v6 s = some o) : Rj X (xW G) 9 (qI X (xW G) o) 75 [(0, .ref ((xW G).h 10)), (1, .ref ((xW G).h 2)), (2, vI v2), (3, vI v3), (4, vI v4), (5, vI v5), (6, vI v6)] [] s := by
  unfold x_Checks_countLevel_75 at hf
  refine r_iinc C (q := 78) (lv' := [(6, vI (v6 + 1)), (0, .ref ((xW G).h 10)), (1, .ref ((xW G).h 2)), (2, vI v2), (3, vI v3), (4, vI v4), (5, vI v5)]) 6 d_Checks_countLevel_75 rfl (by decide) rfl rfl ?_
  refine r_goto C (q := 6) d_Checks_countLevel_78 (by decide) ?_
  exact r_sub [1, 2, 3, 4, 5, 6, 0] rfl (hk6 _ _ _  hf)
theorem s_x_Checks_countLevel_6 {X : CxT} {l : Launch} {G : GG} (C : Cx X l (xW G) 9 prog_3_method_7_code "OneSelf$Checks" (wo y_Checks_countLevel prog_3_method_7_code 9 (some .int)) (some .int) rm_x_Checks_countLevel) {o : Int × St} {N : Nat} {v2 v3 v4 v5 v6 : Int} {k6 : Int → Int → St → MM} (hk6 : ∀ (u5 u6 : Int) (s : St), k6 u5 u6 s = some o → Rj X (xW G) 9 (qI X (xW G) o) 6 [(0, .ref ((xW G).h 10)), (1, .ref ((xW G).h 2)), (2, vI v2), (3, vI v3), (4, vI v4), (5, vI u5), (6, vI u6)] [] s) {s : St} (hf : x_Checks_countLevel_6 N v2 v3 v4 k6 v5 v6 s = some o) : Rj X (xW G) 9 (qI X (xW G) o) 6 [(0, .ref ((xW G).h 10)), (1, .ref ((xW G).h 2)), (2, vI v2), (3, vI v3), (4, vI v4), (5, vI v5), (6, vI v6)] [] s := by
  unfold x_Checks_countLevel_6 at hf
  refine r_iload C (q := 8) 6 d_Checks_countLevel_6 rfl rfl ?_
  refine r_aload_n C (q := 9) 0 d_Checks_countLevel_8 rfl rfl rfl ?_
  refine gxx_Checks_many C (q := 12) fl_Checks_31 d_Checks_countLevel_9 rfl ?_
  refine r_ic_ge C (t := 81) (q := 15) d_Checks_countLevel_12 (by decide) rfl (fun c12 => ?_) (fun c12 => ?_)
  · replace hf := ite_t c12 hf
    refine r_iload C (q := 83) 5 d_Checks_countLevel_81 rfl rfl ?_
    exact r_ireturn C hf d_Checks_countLevel_83
  · replace hf := ite_f c12 hf
    refine r_aload_n C (q := 16) 0 d_Checks_countLevel_15 rfl rfl rfl ?_
    refine gxx_Checks_firsts C (q := 19) fl_Checks_9 d_Checks_countLevel_16 rfl ?_
    refine r_iload C (q := 21) 6 d_Checks_countLevel_19 rfl rfl ?_
    obtain ⟨g21, hf⟩ := gd_s hf
    refine r_iald C (q := 22) 36 (Nat.le_of_ble_eq_true rfl) (fun _ => rfl) 0 rfl g21 (by decide) d_Checks_countLevel_21 rfl ?_
    refine r_istore C (q := 24) (lv' := [(7, vI (s 36 v6)), (0, .ref ((xW G).h 10)), (1, .ref ((xW G).h 2)), (2, vI v2), (3, vI v3), (4, vI v4), (5, vI v5), (6, vI v6)]) d_Checks_countLevel_22 (by decide) rfl rfl ?_
    refine r_aload_n C (q := 25) 1 d_Checks_countLevel_24 rfl rfl rfl ?_
    refine gxx_Checks_seconds C (q := 28) fl_Checks_15 d_Checks_countLevel_25 rfl ?_
    refine r_iload C (q := 30) 7 d_Checks_countLevel_28 rfl rfl ?_
    obtain ⟨g30, hf⟩ := gd_s hf
    refine r_iald C (q := 31) 37 (Nat.le_of_ble_eq_true rfl) (fun _ => rfl) 0 rfl g30 (by decide) d_Checks_countLevel_30 rfl ?_
    refine r_istore C (q := 33) (lv' := [(8, vI (s 37 v6)), (7, vI (s 36 v6)), (0, .ref ((xW G).h 10)), (1, .ref ((xW G).h 2)), (2, vI v2), (3, vI v3), (4, vI v4), (5, vI v5), (6, vI v6)]) d_Checks_countLevel_31 (by decide) rfl rfl ?_
    refine r_aload_n C (q := 34) 2 d_Checks_countLevel_33 rfl rfl rfl ?_
    refine gxx_Checks_ones C (q := 37) fl_Checks_18 d_Checks_countLevel_34 rfl ?_
    refine r_iload C (q := 39) 8 d_Checks_countLevel_37 rfl rfl ?_
    obtain ⟨g39, hf⟩ := gd_s hf
    refine r_zald C (q := 40) 38 (Nat.le_of_ble_eq_true rfl) (fun _ => rfl) 2 rfl g39 (by decide) d_Checks_countLevel_39 rfl ?_
    refine r_iload_n C (q := 41) 4 d_Checks_countLevel_40 rfl rfl rfl ?_
    refine r_ic_ne C (t := 75) (q := 44) d_Checks_countLevel_41 (by decide) rfl (fun c41 => ?_) (fun c41 => ?_)
    · replace hf := ite_t c41 hf
      refine r_aload_n C (q := 45) 3 d_Checks_countLevel_44 rfl rfl rfl ?_
      refine gnx_Pairs_rows C (q := 48) fn_Checks_44 d_Checks_countLevel_45 rfl ?_
      refine r_iload C (q := 50) 1 d_Checks_countLevel_48 rfl rfl ?_
      refine r_iload C (q := 52) 0 d_Checks_countLevel_50 rfl rfl ?_
      obtain ⟨r52, s52, hg52, hf⟩ := bd_s hf
      refine r_cVI C (q := 55) (As := [vI (s 36 v6), vI (s 37 v6)]) (k0 := 3) (c_x_Rows_areKnown C.i hg52) mt_Rows_areKnown ml_Checks_48 (Nat.le_of_ble_eq_true rfl) rfl rfl rfl rfl rfl rfl ⟨Nat.le_of_ble_eq_true rfl, Nat.le_of_ble_eq_true rfl⟩ rfl (Nat.le_of_ble_eq_true rfl) d_Checks_countLevel_52 rfl ?_
      refine r_if_eq C (t := 75) (q := 58) d_Checks_countLevel_55 (by decide) rfl (fun c55 => ?_) (fun c55 => ?_)
      · replace hf := ite_t c55 hf
        exact r_sub [2, 3, 4, 5, 6, 7, 8] rfl (s_x_Checks_countLevel_75 C hk6 hf)
      · replace hf := ite_f c55 hf
        refine r_aload_n C (q := 59) 3 d_Checks_countLevel_58 rfl rfl rfl ?_
        refine r_iload C (q := 61) 1 d_Checks_countLevel_59 rfl rfl ?_
        refine r_iload C (q := 63) 0 d_Checks_countLevel_61 rfl rfl ?_
        refine r_iload_n C (q := 64) 5 d_Checks_countLevel_63 rfl rfl rfl ?_
        obtain ⟨r64, s64, hg64, hf⟩ := bd_s hf
        refine r_cVI C (q := 67) (As := [vI (s 36 v6), vI (s 37 v6), vI v3]) (k0 := 2) (c_x_Pairs_levelOf C.i hg64) mt_Pairs_levelOf ml_Checks_53 (Nat.le_of_ble_eq_true rfl) rfl rfl rfl rfl rfl rfl ⟨Nat.le_of_ble_eq_true rfl, Nat.le_of_ble_eq_true rfl⟩ rfl (Nat.le_of_ble_eq_true rfl) d_Checks_countLevel_64 rfl ?_
        refine r_iload C (q := 69) 6 d_Checks_countLevel_67 rfl rfl ?_
        refine r_ic_ne C (t := 75) (q := 72) d_Checks_countLevel_69 (by decide) rfl (fun c69 => ?_) (fun c69 => ?_)
        · replace hf := ite_t c69 hf
          refine r_iinc C (q := 75) (lv' := [(5, vI (v5 + 1)), (8, vI (s 37 v6)), (7, vI (s 36 v6)), (0, .ref ((xW G).h 10)), (1, .ref ((xW G).h 2)), (2, vI v2), (3, vI v3), (4, vI v4), (6, vI v6)]) 7 d_Checks_countLevel_72 rfl (by decide) rfl rfl ?_
          exact r_sub [3, 4, 5, 6, 7, 0, 8] rfl (s_x_Checks_countLevel_75 C hk6 hf)
        · replace hf := ite_f c69 hf
          exact r_sub [2, 3, 4, 5, 6, 7, 8] rfl (s_x_Checks_countLevel_75 C hk6 hf)
    · replace hf := ite_f c41 hf
      exact r_sub [2, 3, 4, 5, 6, 7, 8] rfl (s_x_Checks_countLevel_75 C hk6 hf)
theorem c_x_Checks_countLevel {l : Launch} {G : GG} (hi : wo_i (xW G)) {N : Nat} {v2 v3 v4 : Int} {s : St} {o : Int × St} (hf : x_Checks_countLevel N v2 v3 v4 s = some o) : CtI l (xW G) y_Checks_countLevel (wo y_Checks_countLevel prog_3_method_7_code 9 (some .int)) rm_x_Checks_countLevel [.ref ((xW G).h 10), .ref ((xW G).h 2), vI v2, vI v3, vI v4] s o := by
  refine ct_I (by decide +kernel) hi (Nat.le_of_ble_eq_true rfl) fun X C => ?_
  unfold x_Checks_countLevel at hf
  show Rj X (xW G) 9 (qI X (xW G) o) 0 [(0, .ref ((xW G).h 10)), (1, .ref ((xW G).h 2)), (2, vI v2), (3, vI v3), (4, vI v4)] [] s
  refine r_iconst C (q := 1) d_Checks_countLevel_0 rfl ?_
  refine r_istore C (q := 3) (lv' := [(5, vI 0), (0, .ref ((xW G).h 10)), (1, .ref ((xW G).h 2)), (2, vI v2), (3, vI v3), (4, vI v4)]) d_Checks_countLevel_1 (by decide) rfl rfl ?_
  refine r_iconst C (q := 4) d_Checks_countLevel_3 rfl ?_
  refine r_istore C (q := 6) (lv' := [(6, vI 0), (5, vI 0), (0, .ref ((xW G).h 10)), (1, .ref ((xW G).h 2)), (2, vI v2), (3, vI v3), (4, vI v4)]) d_Checks_countLevel_4 (by decide) rfl rfl ?_
  have hL : ∀ (u5 u6 : Int) (z : St), itr (x_Checks_countLevel_6 N v2 v3 v4) (fun _ _ _ => none) N u5 u6 z = some o → Rj X (xW G) 9 (qI X (xW G) o) 6 [(0, .ref ((xW G).h 10)), (1, .ref ((xW G).h 2)), (2, vI v2), (3, vI v3), (4, vI v4), (5, vI u5), (6, vI u6)] [] z := itr_ind (x_Checks_countLevel_6 N v2 v3 v4) (fun _ _ _ => none) (fun k => ∀ (u5 u6 : Int) (z : St), k u5 u6 z = some o → Rj X (xW G) 9 (qI X (xW G) o) 6 [(0, .ref ((xW G).h 10)), (1, .ref ((xW G).h 2)), (2, vI v2), (3, vI v3), (4, vI v4), (5, vI u5), (6, vI u6)] [] z) (fun _ _ _  h => by cases h) (fun k hk u5 u6 z h => s_x_Checks_countLevel_6 C hk h) N
  exact r_sub [2, 3, 4, 5, 6, 1, 0] rfl (hL _ _ _  hf)
def x_Checks_thousandths_20 (N : Nat) (t0 : Int) (s : St) : MM := some (mx32 1 t0, s)
def x_Checks_thousandths (N : Nat) (v0 v1 : Int) (s : St) : MM := if le32 1 v1 then (gd (¬ eq32 (2 * v1) 0) (x_Checks_thousandths_20 N  (dv32 ((2000 * v0) + v1) (2 * v1)) s)) else (x_Checks_thousandths_20 N  0 s)
abbrev rm_x_Checks_thousandths : Room := { frames := 1, cells := 0, slots := 0, locals := 23 }
theorem s_x_Checks_thousandths_20 {X : CxT} {l : Launch} {G : GG} (C : Cx X l (xW G) 3 prog_3_method_8_code "OneSelf$Checks" (wo y_Checks_thousandths prog_3_method_8_code 3 (some .int)) (some .int) rm_x_Checks_thousandths) {o : Int × St} {N : Nat} {t0 : Int} {s : St} (hf : x_Checks_thousandths_20 N t0 s = some o) : Rj X (xW G) 3 (qI X (xW G) o) 20 [] [vI t0] s := by
  unfold x_Checks_thousandths_20 at hf
  refine r_istore_n C (q := 21) (lv' := [(2, vI t0)]) d_Checks_thousandths_20 rfl (by decide) rfl rfl ?_
  refine r_iconst C (q := 22) d_Checks_thousandths_21 rfl ?_
  refine r_iload_n C (q := 23) 0 d_Checks_thousandths_22 rfl rfl rfl ?_
  refine r_mmax C (q := 26) ml_Checks_28 mM_max (Nat.le_of_ble_eq_true rfl) (Nat.le_of_ble_eq_true rfl) (Nat.le_of_ble_eq_true rfl) d_Checks_thousandths_23 rfl ?_
  exact r_ireturn C hf d_Checks_thousandths_26
theorem c_x_Checks_thousandths {l : Launch} {G : GG} (hi : wo_i (xW G)) {N : Nat} {v0 v1 : Int} {s : St} {o : Int × St} (hf : x_Checks_thousandths N v0 v1 s = some o) : CtI l (xW G) y_Checks_thousandths (wo y_Checks_thousandths prog_3_method_8_code 3 (some .int)) rm_x_Checks_thousandths [vI v0, vI v1] s o := by
  refine ct_I (by decide +kernel) hi (Nat.le_of_ble_eq_true rfl) fun X C => ?_
  unfold x_Checks_thousandths at hf
  show Rj X (xW G) 3 (qI X (xW G) o) 0 [(0, vI v0), (1, vI v1)] [] s
  refine r_iload_n C (q := 1) 1 d_Checks_thousandths_0 rfl rfl rfl ?_
  refine r_iconst C (q := 2) d_Checks_thousandths_1 rfl ?_
  refine r_ic_ge C (t := 9) (q := 5) d_Checks_thousandths_2 (by decide) rfl (fun c2 => ?_) (fun c2 => ?_)
  · replace hf := ite_t c2 hf
    refine r_sipush C (q := 12) (x := 2000) d_Checks_thousandths_9 rfl rfl ?_
    refine r_iload_n C (q := 13) 0 d_Checks_thousandths_12 rfl rfl rfl ?_
    refine r_imul C (q := 14) d_Checks_thousandths_13 rfl ?_
    refine r_iload_n C (q := 15) 1 d_Checks_thousandths_14 rfl rfl rfl ?_
    refine r_iadd C (q := 16) d_Checks_thousandths_15 rfl ?_
    refine r_iconst C (q := 17) d_Checks_thousandths_16 rfl ?_
    refine r_iload_n C (q := 18) 1 d_Checks_thousandths_17 rfl rfl rfl ?_
    refine r_imul C (q := 19) d_Checks_thousandths_18 rfl ?_
    obtain ⟨g19, hf⟩ := gd_s hf
    refine r_idiv C (q := 20) g19 d_Checks_thousandths_19 rfl ?_
    exact r_sub [] rfl (s_x_Checks_thousandths_20 C hf)
  · replace hf := ite_f c2 hf
    refine r_iconst C (q := 6) d_Checks_thousandths_5 rfl ?_
    refine r_goto C (q := 20) d_Checks_thousandths_6 (by decide) ?_
    exact r_sub [] rfl (s_x_Checks_thousandths_20 C hf)
def x_learnt_25 (N : Nat) (v1 v2 v3 : Int) (k25 : Int → Int → St → MM) (v4 v5 : Int) (s : St) : MM := if le32 4 v5 then (bd (x_Checks_countLevel N v1 v2 v3 s) (fun r68 s68 => bd (x_Checks_thousandths N (r68 + 1) (v4 + 4) s68) (fun r81 s81 => some (r81, s81)))) else (bd (x_Checks_countLevel N v1 v2 v5 s) (fun r45 s45 => k25 (v4 + r45) (v5 + 1) s45))
def x_learnt (N : Nat) (v1 v2 v3 : Int) (s : St) : MM := bd (x_isBelow N v2 4 s) (fun r2 s2 => if eq32 r2 0 then (some ((-2), s2)) else (bd (x_isBelow N v3 4 s2) (fun r10 s10 => if eq32 r10 0 then (some ((-2), s10)) else (itr (x_learnt_25 N v1 v2 v3) (fun _ _ _ => none) N 0 0 s10))))
abbrev rm_x_learnt : Room := { frames := 4, cells := 0, slots := 0, locals := 95 }
theorem s_x_learnt_25 {X : CxT} {l : Launch} {G : GG} (C : Cx X l (xW G) 6 prog_1_method_31_code "OneSelf" (wo y_O_learnt prog_1_method_31_code 6 (some .int)) (some .int) rm_x_learnt) {o : Int × St} {N : Nat} {v1 v2 v3 v4 v5 : Int} {k25 : Int → Int → St → MM} (hk25 : ∀ (u4 u5 : Int) (s : St), k25 u4 u5 s = some o → Rj X (xW G) 6 (qI X (xW G) o) 25 [(0, .ref ((xW G).h 0)), (1, vI v1), (2, vI v2), (3, vI v3), (4, vI u4), (5, vI u5)] [] s) {s : St} (hf : x_learnt_25 N v1 v2 v3 k25 v4 v5 s = some o) : Rj X (xW G) 6 (qI X (xW G) o) 25 [(0, .ref ((xW G).h 0)), (1, vI v1), (2, vI v2), (3, vI v3), (4, vI v4), (5, vI v5)] [] s := by
  unfold x_learnt_25 at hf
  refine r_iload C (q := 27) 5 d_O_learnt_25 rfl rfl ?_
  refine r_iconst C (q := 28) d_O_learnt_27 rfl ?_
  refine r_ic_ge C (t := 57) (q := 31) d_O_learnt_28 (by decide) rfl (fun c28 => ?_) (fun c28 => ?_)
  · replace hf := ite_t c28 hf
    refine r_aload_n C (q := 58) 0 d_O_learnt_57 rfl rfl rfl ?_
    refine gxx_O_checks C (q := 61) fl_O_67 d_O_learnt_58 rfl ?_
    refine r_aload_n C (q := 62) 0 d_O_learnt_61 rfl rfl rfl ?_
    refine gxx_O_pairs C (q := 65) fl_O_19 d_O_learnt_62 rfl ?_
    refine r_iload_n C (q := 66) 1 d_O_learnt_65 rfl rfl rfl ?_
    refine r_iload_n C (q := 67) 2 d_O_learnt_66 rfl rfl rfl ?_
    refine r_iload_n C (q := 68) 3 d_O_learnt_67 rfl rfl rfl ?_
    obtain ⟨r68, s68, hg68, hf⟩ := bd_s hf
    refine r_cVI C (q := 71) (As := [.ref ((xW G).h 2), vI v1, vI v2, vI v3]) (k0 := 10) (c_x_Checks_countLevel C.i hg68) mt_Checks_countLevel ml_O_292 (Nat.le_of_ble_eq_true rfl) rfl rfl rfl rfl rfl rfl ⟨Nat.le_of_ble_eq_true rfl, Nat.le_of_ble_eq_true rfl⟩ rfl (Nat.le_of_ble_eq_true rfl) d_O_learnt_68 rfl ?_
    refine r_istore C (q := 73) (lv' := [(5, vI r68), (0, .ref ((xW G).h 0)), (1, vI v1), (2, vI v2), (3, vI v3), (4, vI v4)]) d_O_learnt_71 (by decide) rfl rfl ?_
    refine r_iload C (q := 75) 0 d_O_learnt_73 rfl rfl ?_
    refine r_iconst C (q := 76) d_O_learnt_75 rfl ?_
    refine r_iadd C (q := 77) d_O_learnt_76 rfl ?_
    refine r_iload C (q := 79) 5 d_O_learnt_77 rfl rfl ?_
    refine r_iconst C (q := 80) d_O_learnt_79 rfl ?_
    refine r_iadd C (q := 81) d_O_learnt_80 rfl ?_
    obtain ⟨r81, s81, hg81, hf⟩ := bd_s hf
    refine r_cSI C (q := 84) (As := [vI (r68 + 1), vI (v4 + 4)]) (c_x_Checks_thousandths C.i hg81) mt_Checks_thousandths ml_O_296 rfl rfl rfl ⟨Nat.le_of_ble_eq_true rfl, Nat.le_of_ble_eq_true rfl⟩ rfl (Nat.le_of_ble_eq_true rfl) d_O_learnt_81 rfl ?_
    exact r_ireturn C hf d_O_learnt_84
  · replace hf := ite_f c28 hf
    refine r_iload C (q := 33) 4 d_O_learnt_31 rfl rfl ?_
    refine r_aload_n C (q := 34) 0 d_O_learnt_33 rfl rfl rfl ?_
    refine gxx_O_checks C (q := 37) fl_O_67 d_O_learnt_34 rfl ?_
    refine r_aload_n C (q := 38) 0 d_O_learnt_37 rfl rfl rfl ?_
    refine gxx_O_pairs C (q := 41) fl_O_19 d_O_learnt_38 rfl ?_
    refine r_iload_n C (q := 42) 1 d_O_learnt_41 rfl rfl rfl ?_
    refine r_iload_n C (q := 43) 2 d_O_learnt_42 rfl rfl rfl ?_
    refine r_iload C (q := 45) 5 d_O_learnt_43 rfl rfl ?_
    obtain ⟨r45, s45, hg45, hf⟩ := bd_s hf
    refine r_cVI C (q := 48) (As := [.ref ((xW G).h 2), vI v1, vI v2, vI v5]) (k0 := 10) (c_x_Checks_countLevel C.i hg45) mt_Checks_countLevel ml_O_292 (Nat.le_of_ble_eq_true rfl) rfl rfl rfl rfl rfl rfl ⟨Nat.le_of_ble_eq_true rfl, Nat.le_of_ble_eq_true rfl⟩ rfl (Nat.le_of_ble_eq_true rfl) d_O_learnt_45 rfl ?_
    refine r_iadd C (q := 49) d_O_learnt_48 rfl ?_
    refine r_istore C (q := 51) (lv' := [(4, vI (v4 + r45)), (0, .ref ((xW G).h 0)), (1, vI v1), (2, vI v2), (3, vI v3), (5, vI v5)]) d_O_learnt_49 (by decide) rfl rfl ?_
    refine r_iinc C (q := 54) (lv' := [(5, vI (v5 + 1)), (4, vI (v4 + r45)), (0, .ref ((xW G).h 0)), (1, vI v1), (2, vI v2), (3, vI v3)]) 5 d_O_learnt_51 rfl (by decide) rfl rfl ?_
    refine r_goto C (q := 25) d_O_learnt_54 (by decide) ?_
    exact r_sub [2, 3, 4, 5, 1, 0] rfl (hk25 _ _ _  hf)
theorem c_x_learnt {l : Launch} {G : GG} (hi : wo_i (xW G)) {N : Nat} {v1 v2 v3 : Int} {s : St} {o : Int × St} (hf : x_learnt N v1 v2 v3 s = some o) : CtI l (xW G) y_O_learnt (wo y_O_learnt prog_1_method_31_code 6 (some .int)) rm_x_learnt [.ref ((xW G).h 0), vI v1, vI v2, vI v3] s o := by
  refine ct_I (by decide +kernel) hi (Nat.le_of_ble_eq_true rfl) fun X C => ?_
  unfold x_learnt at hf
  show Rj X (xW G) 6 (qI X (xW G) o) 0 [(0, .ref ((xW G).h 0)), (1, vI v1), (2, vI v2), (3, vI v3)] [] s
  refine r_iload_n C (q := 1) 2 d_O_learnt_0 rfl rfl rfl ?_
  refine r_iconst C (q := 2) d_O_learnt_1 rfl ?_
  obtain ⟨r2, s2, hg2, hf⟩ := bd_s hf
  refine r_cSI C (q := 5) (As := [vI v2, vI 4]) (c_x_isBelow C.i hg2) mt_O_isBelow ml_O_88 rfl rfl rfl ⟨Nat.le_of_ble_eq_true rfl, Nat.le_of_ble_eq_true rfl⟩ rfl (Nat.le_of_ble_eq_true rfl) d_O_learnt_2 rfl ?_
  refine r_if_eq C (t := 16) (q := 8) d_O_learnt_5 (by decide) rfl (fun c5 => ?_) (fun c5 => ?_)
  · replace hf := ite_t c5 hf
    refine r_bipush C (q := 18) (x := (-2)) d_O_learnt_16 rfl rfl ?_
    exact r_ireturn C hf d_O_learnt_18
  · replace hf := ite_f c5 hf
    refine r_iload_n C (q := 9) 3 d_O_learnt_8 rfl rfl rfl ?_
    refine r_iconst C (q := 10) d_O_learnt_9 rfl ?_
    obtain ⟨r10, s10, hg10, hf⟩ := bd_s hf
    refine r_cSI C (q := 13) (As := [vI v3, vI 4]) (c_x_isBelow C.i hg10) mt_O_isBelow ml_O_88 rfl rfl rfl ⟨Nat.le_of_ble_eq_true rfl, Nat.le_of_ble_eq_true rfl⟩ rfl (Nat.le_of_ble_eq_true rfl) d_O_learnt_10 rfl ?_
    refine r_if_ne C (t := 19) (q := 16) d_O_learnt_13 (by decide) rfl (fun c13 => ?_) (fun c13 => ?_)
    · replace hf := ite_t c13 hf
      refine r_bipush C (q := 18) (x := (-2)) d_O_learnt_16 rfl rfl ?_
      exact r_ireturn C hf d_O_learnt_18
    · replace hf := ite_f c13 hf
      refine r_iconst C (q := 20) d_O_learnt_19 rfl ?_
      refine r_istore C (q := 22) (lv' := [(4, vI 0), (0, .ref ((xW G).h 0)), (1, vI v1), (2, vI v2), (3, vI v3)]) d_O_learnt_20 (by decide) rfl rfl ?_
      refine r_iconst C (q := 23) d_O_learnt_22 rfl ?_
      refine r_istore C (q := 25) (lv' := [(5, vI 0), (4, vI 0), (0, .ref ((xW G).h 0)), (1, vI v1), (2, vI v2), (3, vI v3)]) d_O_learnt_23 (by decide) rfl rfl ?_
      have hL : ∀ (u4 u5 : Int) (z : St), itr (x_learnt_25 N v1 v2 v3) (fun _ _ _ => none) N u4 u5 z = some o → Rj X (xW G) 6 (qI X (xW G) o) 25 [(0, .ref ((xW G).h 0)), (1, vI v1), (2, vI v2), (3, vI v3), (4, vI u4), (5, vI u5)] [] z := itr_ind (x_learnt_25 N v1 v2 v3) (fun _ _ _ => none) (fun k => ∀ (u4 u5 : Int) (z : St), k u4 u5 z = some o → Rj X (xW G) 6 (qI X (xW G) o) 25 [(0, .ref ((xW G).h 0)), (1, vI v1), (2, vI v2), (3, vI v3), (4, vI u4), (5, vI u5)] [] z) (fun _ _ _  h => by cases h) (fun k hk u4 u5 z h => s_x_learnt_25 C hk h) N
      exact r_sub [2, 3, 4, 5, 1, 0] rfl (hL _ _ _  hf)
def x_Rows_areOfUnlikeRegisters (N : Nat) (v1 v2 : Int) (s : St) : MM := bd (x_Rows_fact N v1 0 s) (fun r3 s3 => bd (x_Rows_fact N v2 0 s3) (fun r9 s9 => if eq32 r3 r9 then (some (0, s9)) else (some (1, s9))))
abbrev rm_x_Rows_areOfUnlikeRegisters : Room := { frames := 1, cells := 0, slots := 0, locals := 22 }
theorem c_x_Rows_areOfUnlikeRegisters {l : Launch} {G : GG} (hi : wo_i (xW G)) {N : Nat} {v1 v2 : Int} {s : St} {o : Int × St} (hf : x_Rows_areOfUnlikeRegisters N v1 v2 s = some o) : CtI l (xW G) y_Rows_areOfUnlikeRegisters (wo y_Rows_areOfUnlikeRegisters prog_8_method_12_code 3 (some .boolean)) rm_x_Rows_areOfUnlikeRegisters [.ref ((xW G).h 3), vI v1, vI v2] s o := by
  refine ct_I (by decide +kernel) hi (Nat.le_of_ble_eq_true rfl) fun X C => ?_
  unfold x_Rows_areOfUnlikeRegisters at hf
  show Rj X (xW G) 3 (qI X (xW G) o) 0 [(0, .ref ((xW G).h 3)), (1, vI v1), (2, vI v2)] [] s
  refine r_aload_n C (q := 1) 0 d_Rows_areOfUnlikeRegisters_0 rfl rfl rfl ?_
  refine r_iload_n C (q := 2) 1 d_Rows_areOfUnlikeRegisters_1 rfl rfl rfl ?_
  refine r_iconst C (q := 3) d_Rows_areOfUnlikeRegisters_2 rfl ?_
  obtain ⟨r3, s3, hg3, hf⟩ := bd_s hf
  refine r_cVI C (q := 6) (As := [vI v1, vI 0]) (k0 := 3) (c_x_Rows_fact C.i hg3) mt_Rows_fact ml_Rows_36 (Nat.le_of_ble_eq_true rfl) rfl rfl rfl rfl rfl rfl ⟨Nat.le_of_ble_eq_true rfl, Nat.le_of_ble_eq_true rfl⟩ rfl (Nat.le_of_ble_eq_true rfl) d_Rows_areOfUnlikeRegisters_3 rfl ?_
  refine r_aload_n C (q := 7) 0 d_Rows_areOfUnlikeRegisters_6 rfl rfl rfl ?_
  refine r_iload_n C (q := 8) 2 d_Rows_areOfUnlikeRegisters_7 rfl rfl rfl ?_
  refine r_iconst C (q := 9) d_Rows_areOfUnlikeRegisters_8 rfl ?_
  obtain ⟨r9, s9, hg9, hf⟩ := bd_s hf
  refine r_cVI C (q := 12) (As := [vI v2, vI 0]) (k0 := 3) (c_x_Rows_fact C.i hg9) mt_Rows_fact ml_Rows_36 (Nat.le_of_ble_eq_true rfl) rfl rfl rfl rfl rfl rfl ⟨Nat.le_of_ble_eq_true rfl, Nat.le_of_ble_eq_true rfl⟩ rfl (Nat.le_of_ble_eq_true rfl) d_Rows_areOfUnlikeRegisters_9 rfl ?_
  refine r_ic_eq C (t := 19) (q := 15) d_Rows_areOfUnlikeRegisters_12 (by decide) rfl (fun c12 => ?_) (fun c12 => ?_)
  · replace hf := ite_t c12 hf
    refine r_iconst C (q := 20) d_Rows_areOfUnlikeRegisters_19 rfl ?_
    exact r_zreturn C (by decide) hf d_Rows_areOfUnlikeRegisters_20
  · replace hf := ite_f c12 hf
    refine r_iconst C (q := 16) d_Rows_areOfUnlikeRegisters_15 rfl ?_
    refine r_goto C (q := 20) d_Rows_areOfUnlikeRegisters_16 (by decide) ?_
    exact r_zreturn C (by decide) hf d_Rows_areOfUnlikeRegisters_20
def x_Pairs_areOfOneDecade (N : Nat) (v1 v2 : Int) (s : St) : MM := bd (x_Rows_fact N v1 1 s) (fun r6 s6 => bd (x_Rows_fact N v2 1 s6) (fun r16 s16 => if eq32 r6 ((-1)) then (some (0, s16)) else (if eq32 r16 ((-1)) then (some (0, s16)) else (if eq32 (dv32 r6 10) (dv32 r16 10) then (some (1, s16)) else (some (0, s16))))))
abbrev rm_x_Pairs_areOfOneDecade : Room := { frames := 1, cells := 0, slots := 0, locals := 22 }
theorem c_x_Pairs_areOfOneDecade {l : Launch} {G : GG} (hi : wo_i (xW G)) {N : Nat} {v1 v2 : Int} {s : St} {o : Int × St} (hf : x_Pairs_areOfOneDecade N v1 v2 s = some o) : CtI l (xW G) y_Pairs_areOfOneDecade (wo y_Pairs_areOfOneDecade prog_7_method_10_code 5 (some .boolean)) rm_x_Pairs_areOfOneDecade [.ref ((xW G).h 2), vI v1, vI v2] s o := by
  refine ct_I (by decide +kernel) hi (Nat.le_of_ble_eq_true rfl) fun X C => ?_
  unfold x_Pairs_areOfOneDecade at hf
  show Rj X (xW G) 5 (qI X (xW G) o) 0 [(0, .ref ((xW G).h 2)), (1, vI v1), (2, vI v2)] [] s
  refine r_aload_n C (q := 1) 0 d_Pairs_areOfOneDecade_0 rfl rfl rfl ?_
  refine gxx_Pairs_rows C (q := 4) fl_Pairs_12 d_Pairs_areOfOneDecade_1 rfl ?_
  refine r_iload_n C (q := 5) 1 d_Pairs_areOfOneDecade_4 rfl rfl rfl ?_
  refine r_iconst C (q := 6) d_Pairs_areOfOneDecade_5 rfl ?_
  obtain ⟨r6, s6, hg6, hf⟩ := bd_s hf
  refine r_cVI C (q := 9) (As := [vI v1, vI 1]) (k0 := 3) (c_x_Rows_fact C.i hg6) mt_Rows_fact ml_Pairs_47 (Nat.le_of_ble_eq_true rfl) rfl rfl rfl rfl rfl rfl ⟨Nat.le_of_ble_eq_true rfl, Nat.le_of_ble_eq_true rfl⟩ rfl (Nat.le_of_ble_eq_true rfl) d_Pairs_areOfOneDecade_6 rfl ?_
  refine r_istore_n C (q := 10) (lv' := [(3, vI r6), (0, .ref ((xW G).h 2)), (1, vI v1), (2, vI v2)]) d_Pairs_areOfOneDecade_9 rfl (by decide) rfl rfl ?_
  refine r_aload_n C (q := 11) 1 d_Pairs_areOfOneDecade_10 rfl rfl rfl ?_
  refine gxx_Pairs_rows C (q := 14) fl_Pairs_12 d_Pairs_areOfOneDecade_11 rfl ?_
  refine r_iload_n C (q := 15) 3 d_Pairs_areOfOneDecade_14 rfl rfl rfl ?_
  refine r_iconst C (q := 16) d_Pairs_areOfOneDecade_15 rfl ?_
  obtain ⟨r16, s16, hg16, hf⟩ := bd_s hf
  refine r_cVI C (q := 19) (As := [vI v2, vI 1]) (k0 := 3) (c_x_Rows_fact C.i hg16) mt_Rows_fact ml_Pairs_47 (Nat.le_of_ble_eq_true rfl) rfl rfl rfl rfl rfl rfl ⟨Nat.le_of_ble_eq_true rfl, Nat.le_of_ble_eq_true rfl⟩ rfl (Nat.le_of_ble_eq_true rfl) d_Pairs_areOfOneDecade_16 rfl ?_
  refine r_istore C (q := 21) (lv' := [(4, vI r16), (3, vI r6), (0, .ref ((xW G).h 2)), (1, vI v1), (2, vI v2)]) d_Pairs_areOfOneDecade_19 (by decide) rfl rfl ?_
  refine r_iload_n C (q := 22) 1 d_Pairs_areOfOneDecade_21 rfl rfl rfl ?_
  refine r_iconst C (q := 23) d_Pairs_areOfOneDecade_22 rfl ?_
  refine r_ic_eq C (t := 48) (q := 26) d_Pairs_areOfOneDecade_23 (by decide) rfl (fun c23 => ?_) (fun c23 => ?_)
  · replace hf := ite_t c23 hf
    refine r_iconst C (q := 49) d_Pairs_areOfOneDecade_48 rfl ?_
    exact r_zreturn C (by decide) hf d_Pairs_areOfOneDecade_49
  · replace hf := ite_f c23 hf
    refine r_iload C (q := 28) 0 d_Pairs_areOfOneDecade_26 rfl rfl ?_
    refine r_iconst C (q := 29) d_Pairs_areOfOneDecade_28 rfl ?_
    refine r_ic_eq C (t := 48) (q := 32) d_Pairs_areOfOneDecade_29 (by decide) rfl (fun c29 => ?_) (fun c29 => ?_)
    · replace hf := ite_t c29 hf
      refine r_iconst C (q := 49) d_Pairs_areOfOneDecade_48 rfl ?_
      exact r_zreturn C (by decide) hf d_Pairs_areOfOneDecade_49
    · replace hf := ite_f c29 hf
      refine r_iload_n C (q := 33) 1 d_Pairs_areOfOneDecade_32 rfl rfl rfl ?_
      refine r_bipush C (q := 35) (x := 10) d_Pairs_areOfOneDecade_33 rfl rfl ?_
      refine r_idiv C (q := 36) (by decide) d_Pairs_areOfOneDecade_35 rfl ?_
      refine r_iload C (q := 38) 0 d_Pairs_areOfOneDecade_36 rfl rfl ?_
      refine r_bipush C (q := 40) (x := 10) d_Pairs_areOfOneDecade_38 rfl rfl ?_
      refine r_idiv C (q := 41) (by decide) d_Pairs_areOfOneDecade_40 rfl ?_
      refine r_ic_ne C (t := 48) (q := 44) d_Pairs_areOfOneDecade_41 (by decide) rfl (fun c41 => ?_) (fun c41 => ?_)
      · replace hf := ite_t c41 hf
        refine r_iconst C (q := 45) d_Pairs_areOfOneDecade_44 rfl ?_
        refine r_goto C (q := 49) d_Pairs_areOfOneDecade_45 (by decide) ?_
        exact r_zreturn C (by decide) hf d_Pairs_areOfOneDecade_49
      · replace hf := ite_f c41 hf
        refine r_iconst C (q := 49) d_Pairs_areOfOneDecade_48 rfl ?_
        exact r_zreturn C (by decide) hf d_Pairs_areOfOneDecade_49
def x_Rows_areAlikeIn (N : Nat) (v1 v2 v3 : Int) (s : St) : MM := bd (x_Rows_fact N v1 v3 s) (fun r3 s3 => if eq32 r3 ((-1)) then (some (0, s3)) else (bd (x_Rows_fact N v1 v3 s3) (fun r13 s13 => bd (x_Rows_fact N v2 v3 s13) (fun r19 s19 => if eq32 r13 r19 then (some (1, s19)) else (some (0, s19))))))
abbrev rm_x_Rows_areAlikeIn : Room := { frames := 1, cells := 0, slots := 0, locals := 22 }
theorem c_x_Rows_areAlikeIn {l : Launch} {G : GG} (hi : wo_i (xW G)) {N : Nat} {v1 v2 v3 : Int} {s : St} {o : Int × St} (hf : x_Rows_areAlikeIn N v1 v2 v3 s = some o) : CtI l (xW G) y_Rows_areAlikeIn (wo y_Rows_areAlikeIn prog_8_method_13_code 4 (some .boolean)) rm_x_Rows_areAlikeIn [.ref ((xW G).h 3), vI v1, vI v2, vI v3] s o := by
  refine ct_I (by decide +kernel) hi (Nat.le_of_ble_eq_true rfl) fun X C => ?_
  unfold x_Rows_areAlikeIn at hf
  show Rj X (xW G) 4 (qI X (xW G) o) 0 [(0, .ref ((xW G).h 3)), (1, vI v1), (2, vI v2), (3, vI v3)] [] s
  refine r_aload_n C (q := 1) 0 d_Rows_areAlikeIn_0 rfl rfl rfl ?_
  refine r_iload_n C (q := 2) 1 d_Rows_areAlikeIn_1 rfl rfl rfl ?_
  refine r_iload_n C (q := 3) 3 d_Rows_areAlikeIn_2 rfl rfl rfl ?_
  obtain ⟨r3, s3, hg3, hf⟩ := bd_s hf
  refine r_cVI C (q := 6) (As := [vI v1, vI v3]) (k0 := 3) (c_x_Rows_fact C.i hg3) mt_Rows_fact ml_Rows_36 (Nat.le_of_ble_eq_true rfl) rfl rfl rfl rfl rfl rfl ⟨Nat.le_of_ble_eq_true rfl, Nat.le_of_ble_eq_true rfl⟩ rfl (Nat.le_of_ble_eq_true rfl) d_Rows_areAlikeIn_3 rfl ?_
  refine r_iconst C (q := 7) d_Rows_areAlikeIn_6 rfl ?_
  refine r_ic_eq C (t := 29) (q := 10) d_Rows_areAlikeIn_7 (by decide) rfl (fun c7 => ?_) (fun c7 => ?_)
  · replace hf := ite_t c7 hf
    refine r_iconst C (q := 30) d_Rows_areAlikeIn_29 rfl ?_
    exact r_zreturn C (by decide) hf d_Rows_areAlikeIn_30
  · replace hf := ite_f c7 hf
    refine r_aload_n C (q := 11) 0 d_Rows_areAlikeIn_10 rfl rfl rfl ?_
    refine r_iload_n C (q := 12) 1 d_Rows_areAlikeIn_11 rfl rfl rfl ?_
    refine r_iload_n C (q := 13) 3 d_Rows_areAlikeIn_12 rfl rfl rfl ?_
    obtain ⟨r13, s13, hg13, hf⟩ := bd_s hf
    refine r_cVI C (q := 16) (As := [vI v1, vI v3]) (k0 := 3) (c_x_Rows_fact C.i hg13) mt_Rows_fact ml_Rows_36 (Nat.le_of_ble_eq_true rfl) rfl rfl rfl rfl rfl rfl ⟨Nat.le_of_ble_eq_true rfl, Nat.le_of_ble_eq_true rfl⟩ rfl (Nat.le_of_ble_eq_true rfl) d_Rows_areAlikeIn_13 rfl ?_
    refine r_aload_n C (q := 17) 0 d_Rows_areAlikeIn_16 rfl rfl rfl ?_
    refine r_iload_n C (q := 18) 2 d_Rows_areAlikeIn_17 rfl rfl rfl ?_
    refine r_iload_n C (q := 19) 3 d_Rows_areAlikeIn_18 rfl rfl rfl ?_
    obtain ⟨r19, s19, hg19, hf⟩ := bd_s hf
    refine r_cVI C (q := 22) (As := [vI v2, vI v3]) (k0 := 3) (c_x_Rows_fact C.i hg19) mt_Rows_fact ml_Rows_36 (Nat.le_of_ble_eq_true rfl) rfl rfl rfl rfl rfl rfl ⟨Nat.le_of_ble_eq_true rfl, Nat.le_of_ble_eq_true rfl⟩ rfl (Nat.le_of_ble_eq_true rfl) d_Rows_areAlikeIn_19 rfl ?_
    refine r_ic_ne C (t := 29) (q := 25) d_Rows_areAlikeIn_22 (by decide) rfl (fun c22 => ?_) (fun c22 => ?_)
    · replace hf := ite_t c22 hf
      refine r_iconst C (q := 26) d_Rows_areAlikeIn_25 rfl ?_
      refine r_goto C (q := 30) d_Rows_areAlikeIn_26 (by decide) ?_
      exact r_zreturn C (by decide) hf d_Rows_areAlikeIn_30
    · replace hf := ite_f c22 hf
      refine r_iconst C (q := 30) d_Rows_areAlikeIn_29 rfl ?_
      exact r_zreturn C (by decide) hf d_Rows_areAlikeIn_30
def x_Rows_lastLetter (N : Nat) (v1 : Int) (s : St) : MM := bd (x_Rows_fact N v1 4 s) (fun r5 s5 => bd (x_Rows_letterAt N v1 (r5 - 1) s5) (fun r10 s10 => some (r10, s10)))
abbrev rm_x_Rows_lastLetter : Room := { frames := 1, cells := 0, slots := 0, locals := 22 }
theorem c_x_Rows_lastLetter {l : Launch} {G : GG} (hi : wo_i (xW G)) {N : Nat} {v1 : Int} {s : St} {o : Int × St} (hf : x_Rows_lastLetter N v1 s = some o) : CtI l (xW G) y_Rows_lastLetter (wo y_Rows_lastLetter prog_8_method_9_code 2 (some .int)) rm_x_Rows_lastLetter [.ref ((xW G).h 3), vI v1] s o := by
  refine ct_I (by decide +kernel) hi (Nat.le_of_ble_eq_true rfl) fun X C => ?_
  unfold x_Rows_lastLetter at hf
  show Rj X (xW G) 2 (qI X (xW G) o) 0 [(0, .ref ((xW G).h 3)), (1, vI v1)] [] s
  refine r_aload_n C (q := 1) 0 d_Rows_lastLetter_0 rfl rfl rfl ?_
  refine r_iload_n C (q := 2) 1 d_Rows_lastLetter_1 rfl rfl rfl ?_
  refine r_aload_n C (q := 3) 0 d_Rows_lastLetter_2 rfl rfl rfl ?_
  refine r_iload_n C (q := 4) 1 d_Rows_lastLetter_3 rfl rfl rfl ?_
  refine r_iconst C (q := 5) d_Rows_lastLetter_4 rfl ?_
  obtain ⟨r5, s5, hg5, hf⟩ := bd_s hf
  refine r_cVI C (q := 8) (As := [vI v1, vI 4]) (k0 := 3) (c_x_Rows_fact C.i hg5) mt_Rows_fact ml_Rows_36 (Nat.le_of_ble_eq_true rfl) rfl rfl rfl rfl rfl rfl ⟨Nat.le_of_ble_eq_true rfl, Nat.le_of_ble_eq_true rfl⟩ rfl (Nat.le_of_ble_eq_true rfl) d_Rows_lastLetter_5 rfl ?_
  refine r_iconst C (q := 9) d_Rows_lastLetter_8 rfl ?_
  refine r_isub C (q := 10) d_Rows_lastLetter_9 rfl ?_
  obtain ⟨r10, s10, hg10, hf⟩ := bd_s hf
  refine r_cVI C (q := 13) (As := [vI v1, vI (r5 - 1)]) (k0 := 3) (c_x_Rows_letterAt C.i hg10) mt_Rows_letterAt ml_Rows_40 (Nat.le_of_ble_eq_true rfl) rfl rfl rfl rfl rfl rfl ⟨Nat.le_of_ble_eq_true rfl, Nat.le_of_ble_eq_true rfl⟩ rfl (Nat.le_of_ble_eq_true rfl) d_Rows_lastLetter_10 rfl ?_
  exact r_ireturn C hf d_Rows_lastLetter_13
def x_Pairs_alikeBy_157 (N : Nat) (t0 : Int) (s : St) : MM := some (or32 t0 0, s)
def x_Pairs_alikeBy_130 (N : Nat) (v1 v2 v3 t0 t1 : Int) (s : St) : MM := if eq32 v3 0 then (x_Pairs_alikeBy_157 N  (or32 t1 t0) s) else (bd (x_Rows_areAlikeIn N v1 v2 3 s) (fun r146 s146 => if eq32 r146 0 then (x_Pairs_alikeBy_157 N  (or32 t1 t0) s146) else (some (or32 (or32 t1 t0) 32, s146))))
def x_Pairs_alikeBy_100 (N : Nat) (v1 v2 v3 t0 t1 : Int) (s : St) : MM := bd (x_Rows_lastLetter N v1 s) (fun r110 s110 => bd (x_Rows_lastLetter N v2 s110) (fun r118 s118 => if eq32 r110 r118 then (x_Pairs_alikeBy_130 N v1 v2 v3 16 (or32 t1 t0) s118) else (x_Pairs_alikeBy_130 N v1 v2 v3 0 (or32 t1 t0) s118)))
def x_Pairs_alikeBy_76 (N : Nat) (v1 v2 v3 t0 t1 : Int) (s : St) : MM := bd (x_Rows_areAlikeIn N v1 v2 2 s) (fun r88 s88 => if eq32 r88 0 then (x_Pairs_alikeBy_100 N v1 v2 v3 0 (or32 t1 t0) s88) else (x_Pairs_alikeBy_100 N v1 v2 v3 8 (or32 t1 t0) s88))
def x_Pairs_alikeBy_57 (N : Nat) (v1 v2 v3 t0 t1 : Int) (s : St) : MM := bd (x_Pairs_areOfOneDecade N v1 v2 s) (fun r65 s65 => if eq32 r65 0 then (x_Pairs_alikeBy_76 N v1 v2 v3 0 (or32 t1 t0) s65) else (x_Pairs_alikeBy_76 N v1 v2 v3 4 (or32 t1 t0) s65))
def x_Pairs_alikeBy_44 (N : Nat) (v1 v2 v3 t0 : Int) (s : St) : MM := if eq32 v3 0 then (x_Pairs_alikeBy_57 N v1 v2 v3 0 t0 s) else (x_Pairs_alikeBy_57 N v1 v2 v3 2 t0 s)
def x_Pairs_alikeBy_26 (N : Nat) (v1 v2 t0 : Int) (s : St) : MM := bd (x_Sounds_areAlike N v1 v2 s) (fun r33 s33 => if eq32 r33 0 then (x_Pairs_alikeBy_44 N v1 v2 t0 0 s33) else (x_Pairs_alikeBy_44 N v1 v2 t0 1 s33))
def x_Pairs_alikeBy (N : Nat) (v1 v2 : Int) (s : St) : MM := bd (x_Rows_letterAt N v1 0 s) (fun r6 s6 => bd (x_Rows_letterAt N v2 0 s6) (fun r15 s15 => if eq32 r6 r15 then (x_Pairs_alikeBy_26 N v1 v2 1 s15) else (x_Pairs_alikeBy_26 N v1 v2 0 s15)))
abbrev rm_x_Pairs_alikeBy : Room := { frames := 2, cells := 0, slots := 0, locals := 46 }
theorem s_x_Pairs_alikeBy_157 {X : CxT} {l : Launch} {G : GG} (C : Cx X l (xW G) 5 prog_7_method_9_code "OneSelf$Pairs" (wo y_Pairs_alikeBy prog_7_method_9_code 5 (some .int)) (some .int) rm_x_Pairs_alikeBy) {o : Int × St} {N : Nat} {t0 : Int} {s : St} (hf : x_Pairs_alikeBy_157 N t0 s = some o) : Rj X (xW G) 5 (qI X (xW G) o) 157 [] [vI t0] s := by
  unfold x_Pairs_alikeBy_157 at hf
  refine r_iconst C (q := 158) d_Pairs_alikeBy_157 rfl ?_
  refine r_ior C (q := 159) d_Pairs_alikeBy_158 rfl ?_
  refine r_istore C (q := 161) (lv' := [(4, vI (or32 t0 0))]) d_Pairs_alikeBy_159 (by decide) rfl rfl ?_
  refine r_iload C (q := 163) 0 d_Pairs_alikeBy_161 rfl rfl ?_
  exact r_ireturn C hf d_Pairs_alikeBy_163
theorem s_x_Pairs_alikeBy_130 {X : CxT} {l : Launch} {G : GG} (C : Cx X l (xW G) 5 prog_7_method_9_code "OneSelf$Pairs" (wo y_Pairs_alikeBy prog_7_method_9_code 5 (some .int)) (some .int) rm_x_Pairs_alikeBy) {o : Int × St} {N : Nat} {v1 v2 v3 t0 t1 : Int} {s : St} (hf : x_Pairs_alikeBy_130 N v1 v2 v3 t0 t1 s = some o) : Rj X (xW G) 5 (qI X (xW G) o) 130 [(0, .ref ((xW G).h 2)), (1, vI v1), (2, vI v2), (3, vI v3)] [vI t0, vI t1] s := by
  unfold x_Pairs_alikeBy_130 at hf
  refine r_ior C (q := 131) d_Pairs_alikeBy_130 rfl ?_
  refine r_istore C (q := 133) (lv' := [(4, vI (or32 t1 t0)), (0, .ref ((xW G).h 2)), (1, vI v1), (2, vI v2), (3, vI v3)]) d_Pairs_alikeBy_131 (by decide) rfl rfl ?_
  refine r_iload C (q := 135) 0 d_Pairs_alikeBy_133 rfl rfl ?_
  refine r_iload_n C (q := 136) 4 d_Pairs_alikeBy_135 rfl rfl rfl ?_
  refine r_if_eq C (t := 157) (q := 139) d_Pairs_alikeBy_136 (by decide) rfl (fun c136 => ?_) (fun c136 => ?_)
  · replace hf := ite_t c136 hf
    exact r_sub [] rfl (s_x_Pairs_alikeBy_157 C hf)
  · replace hf := ite_f c136 hf
    refine r_aload_n C (q := 140) 1 d_Pairs_alikeBy_139 rfl rfl rfl ?_
    refine gxx_Pairs_rows C (q := 143) fl_Pairs_12 d_Pairs_alikeBy_140 rfl ?_
    refine r_iload_n C (q := 144) 2 d_Pairs_alikeBy_143 rfl rfl rfl ?_
    refine r_iload_n C (q := 145) 3 d_Pairs_alikeBy_144 rfl rfl rfl ?_
    refine r_iconst C (q := 146) d_Pairs_alikeBy_145 rfl ?_
    obtain ⟨r146, s146, hg146, hf⟩ := bd_s hf
    refine r_cVI C (q := 149) (As := [vI v1, vI v2, vI 3]) (k0 := 3) (c_x_Rows_areAlikeIn C.i hg146) mt_Rows_areAlikeIn ml_Pairs_98 (Nat.le_of_ble_eq_true rfl) rfl rfl rfl rfl rfl rfl ⟨Nat.le_of_ble_eq_true rfl, Nat.le_of_ble_eq_true rfl⟩ rfl (Nat.le_of_ble_eq_true rfl) d_Pairs_alikeBy_146 rfl ?_
    refine r_if_eq C (t := 157) (q := 152) d_Pairs_alikeBy_149 (by decide) rfl (fun c149 => ?_) (fun c149 => ?_)
    · replace hf := ite_t c149 hf
      exact r_sub [] rfl (s_x_Pairs_alikeBy_157 C hf)
    · replace hf := ite_f c149 hf
      refine r_bipush C (q := 154) (x := 32) d_Pairs_alikeBy_152 rfl rfl ?_
      refine r_goto C (q := 158) d_Pairs_alikeBy_154 (by decide) ?_
      refine r_ior C (q := 159) d_Pairs_alikeBy_158 rfl ?_
      refine r_istore C (q := 161) (lv' := [(4, vI (or32 (or32 t1 t0) 32)), (0, .ref ((xW G).h 2)), (1, vI v1), (2, vI v2), (3, vI v3)]) d_Pairs_alikeBy_159 (by decide) rfl rfl ?_
      refine r_iload C (q := 163) 0 d_Pairs_alikeBy_161 rfl rfl ?_
      exact r_ireturn C hf d_Pairs_alikeBy_163
theorem s_x_Pairs_alikeBy_100 {X : CxT} {l : Launch} {G : GG} (C : Cx X l (xW G) 5 prog_7_method_9_code "OneSelf$Pairs" (wo y_Pairs_alikeBy prog_7_method_9_code 5 (some .int)) (some .int) rm_x_Pairs_alikeBy) {o : Int × St} {N : Nat} {v1 v2 v3 t0 t1 : Int} {s : St} (hf : x_Pairs_alikeBy_100 N v1 v2 v3 t0 t1 s = some o) : Rj X (xW G) 5 (qI X (xW G) o) 100 [(0, .ref ((xW G).h 2)), (1, vI v1), (2, vI v2), (3, vI v3)] [vI t0, vI t1] s := by
  unfold x_Pairs_alikeBy_100 at hf
  refine r_ior C (q := 101) d_Pairs_alikeBy_100 rfl ?_
  refine r_istore C (q := 103) (lv' := [(4, vI (or32 t1 t0)), (0, .ref ((xW G).h 2)), (1, vI v1), (2, vI v2), (3, vI v3)]) d_Pairs_alikeBy_101 (by decide) rfl rfl ?_
  refine r_iload C (q := 105) 0 d_Pairs_alikeBy_103 rfl rfl ?_
  refine r_aload_n C (q := 106) 1 d_Pairs_alikeBy_105 rfl rfl rfl ?_
  refine gxx_Pairs_rows C (q := 109) fl_Pairs_12 d_Pairs_alikeBy_106 rfl ?_
  refine r_iload_n C (q := 110) 2 d_Pairs_alikeBy_109 rfl rfl rfl ?_
  obtain ⟨r110, s110, hg110, hf⟩ := bd_s hf
  refine r_cVI C (q := 113) (As := [vI v1]) (k0 := 3) (c_x_Rows_lastLetter C.i hg110) mt_Rows_lastLetter ml_Pairs_102 (Nat.le_of_ble_eq_true rfl) rfl rfl rfl rfl rfl rfl ⟨Nat.le_of_ble_eq_true rfl, Nat.le_of_ble_eq_true rfl⟩ rfl (Nat.le_of_ble_eq_true rfl) d_Pairs_alikeBy_110 rfl ?_
  refine r_aload_n C (q := 114) 1 d_Pairs_alikeBy_113 rfl rfl rfl ?_
  refine gxx_Pairs_rows C (q := 117) fl_Pairs_12 d_Pairs_alikeBy_114 rfl ?_
  refine r_iload_n C (q := 118) 3 d_Pairs_alikeBy_117 rfl rfl rfl ?_
  obtain ⟨r118, s118, hg118, hf⟩ := bd_s hf
  refine r_cVI C (q := 121) (As := [vI v2]) (k0 := 3) (c_x_Rows_lastLetter C.i hg118) mt_Rows_lastLetter ml_Pairs_102 (Nat.le_of_ble_eq_true rfl) rfl rfl rfl rfl rfl rfl ⟨Nat.le_of_ble_eq_true rfl, Nat.le_of_ble_eq_true rfl⟩ rfl (Nat.le_of_ble_eq_true rfl) d_Pairs_alikeBy_118 rfl ?_
  refine r_ic_ne C (t := 129) (q := 124) d_Pairs_alikeBy_121 (by decide) rfl (fun c121 => ?_) (fun c121 => ?_)
  · replace hf := ite_t c121 hf
    refine r_bipush C (q := 126) (x := 16) d_Pairs_alikeBy_124 rfl rfl ?_
    refine r_goto C (q := 130) d_Pairs_alikeBy_126 (by decide) ?_
    exact r_sub [1, 2, 3, 4] rfl (s_x_Pairs_alikeBy_130 C hf)
  · replace hf := ite_f c121 hf
    refine r_iconst C (q := 130) d_Pairs_alikeBy_129 rfl ?_
    exact r_sub [1, 2, 3, 4] rfl (s_x_Pairs_alikeBy_130 C hf)
theorem s_x_Pairs_alikeBy_76 {X : CxT} {l : Launch} {G : GG} (C : Cx X l (xW G) 5 prog_7_method_9_code "OneSelf$Pairs" (wo y_Pairs_alikeBy prog_7_method_9_code 5 (some .int)) (some .int) rm_x_Pairs_alikeBy) {o : Int × St} {N : Nat} {v1 v2 v3 t0 t1 : Int} {s : St} (hf : x_Pairs_alikeBy_76 N v1 v2 v3 t0 t1 s = some o) : Rj X (xW G) 5 (qI X (xW G) o) 76 [(0, .ref ((xW G).h 2)), (1, vI v1), (2, vI v2), (3, vI v3)] [vI t0, vI t1] s := by
  unfold x_Pairs_alikeBy_76 at hf
  refine r_ior C (q := 77) d_Pairs_alikeBy_76 rfl ?_
  refine r_istore C (q := 79) (lv' := [(4, vI (or32 t1 t0)), (0, .ref ((xW G).h 2)), (1, vI v1), (2, vI v2), (3, vI v3)]) d_Pairs_alikeBy_77 (by decide) rfl rfl ?_
  refine r_iload C (q := 81) 0 d_Pairs_alikeBy_79 rfl rfl ?_
  refine r_aload_n C (q := 82) 1 d_Pairs_alikeBy_81 rfl rfl rfl ?_
  refine gxx_Pairs_rows C (q := 85) fl_Pairs_12 d_Pairs_alikeBy_82 rfl ?_
  refine r_iload_n C (q := 86) 2 d_Pairs_alikeBy_85 rfl rfl rfl ?_
  refine r_iload_n C (q := 87) 3 d_Pairs_alikeBy_86 rfl rfl rfl ?_
  refine r_iconst C (q := 88) d_Pairs_alikeBy_87 rfl ?_
  obtain ⟨r88, s88, hg88, hf⟩ := bd_s hf
  refine r_cVI C (q := 91) (As := [vI v1, vI v2, vI 2]) (k0 := 3) (c_x_Rows_areAlikeIn C.i hg88) mt_Rows_areAlikeIn ml_Pairs_98 (Nat.le_of_ble_eq_true rfl) rfl rfl rfl rfl rfl rfl ⟨Nat.le_of_ble_eq_true rfl, Nat.le_of_ble_eq_true rfl⟩ rfl (Nat.le_of_ble_eq_true rfl) d_Pairs_alikeBy_88 rfl ?_
  refine r_if_eq C (t := 99) (q := 94) d_Pairs_alikeBy_91 (by decide) rfl (fun c91 => ?_) (fun c91 => ?_)
  · replace hf := ite_t c91 hf
    refine r_iconst C (q := 100) d_Pairs_alikeBy_99 rfl ?_
    exact r_sub [1, 2, 3, 4] rfl (s_x_Pairs_alikeBy_100 C hf)
  · replace hf := ite_f c91 hf
    refine r_bipush C (q := 96) (x := 8) d_Pairs_alikeBy_94 rfl rfl ?_
    refine r_goto C (q := 100) d_Pairs_alikeBy_96 (by decide) ?_
    exact r_sub [1, 2, 3, 4] rfl (s_x_Pairs_alikeBy_100 C hf)
theorem s_x_Pairs_alikeBy_57 {X : CxT} {l : Launch} {G : GG} (C : Cx X l (xW G) 5 prog_7_method_9_code "OneSelf$Pairs" (wo y_Pairs_alikeBy prog_7_method_9_code 5 (some .int)) (some .int) rm_x_Pairs_alikeBy) {o : Int × St} {N : Nat} {v1 v2 v3 t0 t1 : Int} {s : St} (hf : x_Pairs_alikeBy_57 N v1 v2 v3 t0 t1 s = some o) : Rj X (xW G) 5 (qI X (xW G) o) 57 [(0, .ref ((xW G).h 2)), (1, vI v1), (2, vI v2), (3, vI v3)] [vI t0, vI t1] s := by
  unfold x_Pairs_alikeBy_57 at hf
  refine r_ior C (q := 58) d_Pairs_alikeBy_57 rfl ?_
  refine r_istore C (q := 60) (lv' := [(4, vI (or32 t1 t0)), (0, .ref ((xW G).h 2)), (1, vI v1), (2, vI v2), (3, vI v3)]) d_Pairs_alikeBy_58 (by decide) rfl rfl ?_
  refine r_iload C (q := 62) 0 d_Pairs_alikeBy_60 rfl rfl ?_
  refine r_aload_n C (q := 63) 1 d_Pairs_alikeBy_62 rfl rfl rfl ?_
  refine r_iload_n C (q := 64) 2 d_Pairs_alikeBy_63 rfl rfl rfl ?_
  refine r_iload_n C (q := 65) 3 d_Pairs_alikeBy_64 rfl rfl rfl ?_
  obtain ⟨r65, s65, hg65, hf⟩ := bd_s hf
  refine r_cVI C (q := 68) (As := [vI v1, vI v2]) (k0 := 2) (c_x_Pairs_areOfOneDecade C.i hg65) mt_Pairs_areOfOneDecade ml_Pairs_95 (Nat.le_of_ble_eq_true rfl) rfl rfl rfl rfl rfl rfl ⟨Nat.le_of_ble_eq_true rfl, Nat.le_of_ble_eq_true rfl⟩ rfl (Nat.le_of_ble_eq_true rfl) d_Pairs_alikeBy_65 rfl ?_
  refine r_if_eq C (t := 75) (q := 71) d_Pairs_alikeBy_68 (by decide) rfl (fun c68 => ?_) (fun c68 => ?_)
  · replace hf := ite_t c68 hf
    refine r_iconst C (q := 76) d_Pairs_alikeBy_75 rfl ?_
    exact r_sub [1, 2, 3, 4] rfl (s_x_Pairs_alikeBy_76 C hf)
  · replace hf := ite_f c68 hf
    refine r_iconst C (q := 72) d_Pairs_alikeBy_71 rfl ?_
    refine r_goto C (q := 76) d_Pairs_alikeBy_72 (by decide) ?_
    exact r_sub [1, 2, 3, 4] rfl (s_x_Pairs_alikeBy_76 C hf)
theorem s_x_Pairs_alikeBy_44 {X : CxT} {l : Launch} {G : GG} (C : Cx X l (xW G) 5 prog_7_method_9_code "OneSelf$Pairs" (wo y_Pairs_alikeBy prog_7_method_9_code 5 (some .int)) (some .int) rm_x_Pairs_alikeBy) {o : Int × St} {N : Nat} {v1 v2 v3 t0 : Int} {s : St} (hf : x_Pairs_alikeBy_44 N v1 v2 v3 t0 s = some o) : Rj X (xW G) 5 (qI X (xW G) o) 44 [(0, .ref ((xW G).h 2)), (1, vI v1), (2, vI v2), (3, vI v3)] [vI t0] s := by
  unfold x_Pairs_alikeBy_44 at hf
  refine r_istore C (q := 46) (lv' := [(4, vI t0), (0, .ref ((xW G).h 2)), (1, vI v1), (2, vI v2), (3, vI v3)]) d_Pairs_alikeBy_44 (by decide) rfl rfl ?_
  refine r_iload C (q := 48) 0 d_Pairs_alikeBy_46 rfl rfl ?_
  refine r_iload_n C (q := 49) 4 d_Pairs_alikeBy_48 rfl rfl rfl ?_
  refine r_if_eq C (t := 56) (q := 52) d_Pairs_alikeBy_49 (by decide) rfl (fun c49 => ?_) (fun c49 => ?_)
  · replace hf := ite_t c49 hf
    refine r_iconst C (q := 57) d_Pairs_alikeBy_56 rfl ?_
    exact r_sub [1, 2, 3, 4] rfl (s_x_Pairs_alikeBy_57 C hf)
  · replace hf := ite_f c49 hf
    refine r_iconst C (q := 53) d_Pairs_alikeBy_52 rfl ?_
    refine r_goto C (q := 57) d_Pairs_alikeBy_53 (by decide) ?_
    exact r_sub [1, 2, 3, 4] rfl (s_x_Pairs_alikeBy_57 C hf)
theorem s_x_Pairs_alikeBy_26 {X : CxT} {l : Launch} {G : GG} (C : Cx X l (xW G) 5 prog_7_method_9_code "OneSelf$Pairs" (wo y_Pairs_alikeBy prog_7_method_9_code 5 (some .int)) (some .int) rm_x_Pairs_alikeBy) {o : Int × St} {N : Nat} {v1 v2 t0 : Int} {s : St} (hf : x_Pairs_alikeBy_26 N v1 v2 t0 s = some o) : Rj X (xW G) 5 (qI X (xW G) o) 26 [(0, .ref ((xW G).h 2)), (1, vI v1), (2, vI v2)] [vI t0] s := by
  unfold x_Pairs_alikeBy_26 at hf
  refine r_istore_n C (q := 27) (lv' := [(3, vI t0), (0, .ref ((xW G).h 2)), (1, vI v1), (2, vI v2)]) d_Pairs_alikeBy_26 rfl (by decide) rfl rfl ?_
  refine r_aload_n C (q := 28) 1 d_Pairs_alikeBy_27 rfl rfl rfl ?_
  refine gxx_Pairs_sounds C (q := 31) fl_Pairs_28 d_Pairs_alikeBy_28 rfl ?_
  refine r_iload_n C (q := 32) 2 d_Pairs_alikeBy_31 rfl rfl rfl ?_
  refine r_iload_n C (q := 33) 3 d_Pairs_alikeBy_32 rfl rfl rfl ?_
  obtain ⟨r33, s33, hg33, hf⟩ := bd_s hf
  refine r_cVI C (q := 36) (As := [vI v1, vI v2]) (k0 := 5) (c_x_Sounds_areAlike C.i hg33) mt_Sounds_areAlike ml_Pairs_43 (Nat.le_of_ble_eq_true rfl) rfl rfl rfl rfl rfl rfl ⟨Nat.le_of_ble_eq_true rfl, Nat.le_of_ble_eq_true rfl⟩ rfl (Nat.le_of_ble_eq_true rfl) d_Pairs_alikeBy_33 rfl ?_
  refine r_if_eq C (t := 43) (q := 39) d_Pairs_alikeBy_36 (by decide) rfl (fun c36 => ?_) (fun c36 => ?_)
  · replace hf := ite_t c36 hf
    refine r_iconst C (q := 44) d_Pairs_alikeBy_43 rfl ?_
    exact r_sub [1, 2, 3, 0] rfl (s_x_Pairs_alikeBy_44 C hf)
  · replace hf := ite_f c36 hf
    refine r_iconst C (q := 40) d_Pairs_alikeBy_39 rfl ?_
    refine r_goto C (q := 44) d_Pairs_alikeBy_40 (by decide) ?_
    exact r_sub [1, 2, 3, 0] rfl (s_x_Pairs_alikeBy_44 C hf)
theorem c_x_Pairs_alikeBy {l : Launch} {G : GG} (hi : wo_i (xW G)) {N : Nat} {v1 v2 : Int} {s : St} {o : Int × St} (hf : x_Pairs_alikeBy N v1 v2 s = some o) : CtI l (xW G) y_Pairs_alikeBy (wo y_Pairs_alikeBy prog_7_method_9_code 5 (some .int)) rm_x_Pairs_alikeBy [.ref ((xW G).h 2), vI v1, vI v2] s o := by
  refine ct_I (by decide +kernel) hi (Nat.le_of_ble_eq_true rfl) fun X C => ?_
  unfold x_Pairs_alikeBy at hf
  show Rj X (xW G) 5 (qI X (xW G) o) 0 [(0, .ref ((xW G).h 2)), (1, vI v1), (2, vI v2)] [] s
  refine r_aload_n C (q := 1) 0 d_Pairs_alikeBy_0 rfl rfl rfl ?_
  refine gxx_Pairs_rows C (q := 4) fl_Pairs_12 d_Pairs_alikeBy_1 rfl ?_
  refine r_iload_n C (q := 5) 1 d_Pairs_alikeBy_4 rfl rfl rfl ?_
  refine r_iconst C (q := 6) d_Pairs_alikeBy_5 rfl ?_
  obtain ⟨r6, s6, hg6, hf⟩ := bd_s hf
  refine r_cVI C (q := 9) (As := [vI v1, vI 0]) (k0 := 3) (c_x_Rows_letterAt C.i hg6) mt_Rows_letterAt ml_Pairs_92 (Nat.le_of_ble_eq_true rfl) rfl rfl rfl rfl rfl rfl ⟨Nat.le_of_ble_eq_true rfl, Nat.le_of_ble_eq_true rfl⟩ rfl (Nat.le_of_ble_eq_true rfl) d_Pairs_alikeBy_6 rfl ?_
  refine r_aload_n C (q := 10) 0 d_Pairs_alikeBy_9 rfl rfl rfl ?_
  refine gxx_Pairs_rows C (q := 13) fl_Pairs_12 d_Pairs_alikeBy_10 rfl ?_
  refine r_iload_n C (q := 14) 2 d_Pairs_alikeBy_13 rfl rfl rfl ?_
  refine r_iconst C (q := 15) d_Pairs_alikeBy_14 rfl ?_
  obtain ⟨r15, s15, hg15, hf⟩ := bd_s hf
  refine r_cVI C (q := 18) (As := [vI v2, vI 0]) (k0 := 3) (c_x_Rows_letterAt C.i hg15) mt_Rows_letterAt ml_Pairs_92 (Nat.le_of_ble_eq_true rfl) rfl rfl rfl rfl rfl rfl ⟨Nat.le_of_ble_eq_true rfl, Nat.le_of_ble_eq_true rfl⟩ rfl (Nat.le_of_ble_eq_true rfl) d_Pairs_alikeBy_15 rfl ?_
  refine r_ic_ne C (t := 25) (q := 21) d_Pairs_alikeBy_18 (by decide) rfl (fun c18 => ?_) (fun c18 => ?_)
  · replace hf := ite_t c18 hf
    refine r_iconst C (q := 22) d_Pairs_alikeBy_21 rfl ?_
    refine r_goto C (q := 26) d_Pairs_alikeBy_22 (by decide) ?_
    exact r_sub [0, 1, 2] rfl (s_x_Pairs_alikeBy_26 C hf)
  · replace hf := ite_f c18 hf
    refine r_iconst C (q := 26) d_Pairs_alikeBy_25 rfl ?_
    exact r_sub [0, 1, 2] rfl (s_x_Pairs_alikeBy_26 C hf)
