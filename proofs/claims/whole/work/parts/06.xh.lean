def x_meet_71 (N : Nat) (t0 : Int) (s : St) : MM := bd (x_asInt N t0 s) (fun r71 s71 => some (r71, s71))
def x_meet (N : Nat) (v1 v2 v3 : Int) (s : St) : MM := bd (x_Rows_arePair N v1 v2 s) (fun r6 s6 => if eq32 r6 0 then (some ((-2), s6)) else (bd (x_isWithin N v3 0 63 s6) (fun r16 s16 => if eq32 r16 0 then (some ((-2), s16)) else (bd (x_Rows_areKnown N v1 v2 s16) (fun r31 s31 => if eq32 r31 0 then (some ((-3), s31)) else (bd (x_Rows_areOfUnlikeRegisters N v1 v2 s31) (fun r43 s43 => if eq32 r43 0 then (some ((-3), s43)) else (bd (x_Pairs_alikeBy N v1 v2 s43) (fun r58 s58 => if eq32 (an32 r58 v3) 0 then (x_meet_71 N  0 s58) else (x_meet_71 N  1 s58))))))))))
abbrev rm_x_meet : Room := { frames := 3, cells := 0, slots := 0, locals := 70 }
theorem s_x_meet_71 {X : CxT} {l : Launch} {G : GG} (C : Cx X l (xW G) 4 prog_1_method_32_code "OneSelf" (wo y_O_meet prog_1_method_32_code 4 (some .int)) (some .int) rm_x_meet) {o : Int × St} {N : Nat} {t0 : Int} {s : St} (hf : x_meet_71 N t0 s = some o) : Rj X (xW G) 4 (qI X (xW G) o) 71 [] [vI t0] s := by
  unfold x_meet_71 at hf
  obtain ⟨r71, s71, hg71, hf⟩ := bd_s hf
  refine r_cSI C (q := 74) (As := [vI t0]) (c_x_asInt C.i hg71) mt_O_asInt ml_O_151 rfl rfl rfl ⟨Nat.le_of_ble_eq_true rfl, Nat.le_of_ble_eq_true rfl⟩ rfl (Nat.le_of_ble_eq_true rfl) d_O_meet_71 rfl ?_
  exact r_ireturn C hf d_O_meet_74
theorem c_x_meet {l : Launch} {G : GG} (hi : wo_i (xW G)) {N : Nat} {v1 v2 v3 : Int} {s : St} {o : Int × St} (hf : x_meet N v1 v2 v3 s = some o) : CtI l (xW G) y_O_meet (wo y_O_meet prog_1_method_32_code 4 (some .int)) rm_x_meet [.ref ((xW G).h 0), vI v1, vI v2, vI v3] s o := by
  refine ct_I (by decide +kernel) hi (Nat.le_of_ble_eq_true rfl) fun X C => ?_
  unfold x_meet at hf
  show Rj X (xW G) 4 (qI X (xW G) o) 0 [(0, .ref ((xW G).h 0)), (1, vI v1), (2, vI v2), (3, vI v3)] [] s
  refine r_aload_n C (q := 1) 0 d_O_meet_0 rfl rfl rfl ?_
  refine gxx_O_rows C (q := 4) fl_O_27 d_O_meet_1 rfl ?_
  refine r_iload_n C (q := 5) 1 d_O_meet_4 rfl rfl rfl ?_
  refine r_iload_n C (q := 6) 2 d_O_meet_5 rfl rfl rfl ?_
  obtain ⟨r6, s6, hg6, hf⟩ := bd_s hf
  refine r_cVI C (q := 9) (As := [vI v1, vI v2]) (k0 := 3) (c_x_Rows_arePair C.i hg6) mt_Rows_arePair ml_O_190 (Nat.le_of_ble_eq_true rfl) rfl rfl rfl rfl rfl rfl ⟨Nat.le_of_ble_eq_true rfl, Nat.le_of_ble_eq_true rfl⟩ rfl (Nat.le_of_ble_eq_true rfl) d_O_meet_6 rfl ?_
  refine r_if_eq C (t := 22) (q := 12) d_O_meet_9 (by decide) rfl (fun c9 => ?_) (fun c9 => ?_)
  · replace hf := ite_t c9 hf
    refine r_bipush C (q := 24) (x := (-2)) d_O_meet_22 rfl rfl ?_
    exact r_ireturn C hf d_O_meet_24
  · replace hf := ite_f c9 hf
    refine r_iload_n C (q := 13) 3 d_O_meet_12 rfl rfl rfl ?_
    refine r_iconst C (q := 14) d_O_meet_13 rfl ?_
    refine r_bipush C (q := 16) (x := 63) d_O_meet_14 rfl rfl ?_
    obtain ⟨r16, s16, hg16, hf⟩ := bd_s hf
    refine r_cSI C (q := 19) (As := [vI v3, vI 0, vI 63]) (c_x_isWithin C.i hg16) mt_O_isWithin ml_O_78 rfl rfl rfl ⟨Nat.le_of_ble_eq_true rfl, Nat.le_of_ble_eq_true rfl⟩ rfl (Nat.le_of_ble_eq_true rfl) d_O_meet_16 rfl ?_
    refine r_if_ne C (t := 25) (q := 22) d_O_meet_19 (by decide) rfl (fun c19 => ?_) (fun c19 => ?_)
    · replace hf := ite_t c19 hf
      refine r_bipush C (q := 24) (x := (-2)) d_O_meet_22 rfl rfl ?_
      exact r_ireturn C hf d_O_meet_24
    · replace hf := ite_f c19 hf
      refine r_aload_n C (q := 26) 0 d_O_meet_25 rfl rfl rfl ?_
      refine gxx_O_rows C (q := 29) fl_O_27 d_O_meet_26 rfl ?_
      refine r_iload_n C (q := 30) 1 d_O_meet_29 rfl rfl rfl ?_
      refine r_iload_n C (q := 31) 2 d_O_meet_30 rfl rfl rfl ?_
      obtain ⟨r31, s31, hg31, hf⟩ := bd_s hf
      refine r_cVI C (q := 34) (As := [vI v1, vI v2]) (k0 := 3) (c_x_Rows_areKnown C.i hg31) mt_Rows_areKnown ml_O_259 (Nat.le_of_ble_eq_true rfl) rfl rfl rfl rfl rfl rfl ⟨Nat.le_of_ble_eq_true rfl, Nat.le_of_ble_eq_true rfl⟩ rfl (Nat.le_of_ble_eq_true rfl) d_O_meet_31 rfl ?_
      refine r_if_eq C (t := 49) (q := 37) d_O_meet_34 (by decide) rfl (fun c34 => ?_) (fun c34 => ?_)
      · replace hf := ite_t c34 hf
        refine r_bipush C (q := 51) (x := (-3)) d_O_meet_49 rfl rfl ?_
        exact r_ireturn C hf d_O_meet_51
      · replace hf := ite_f c34 hf
        refine r_aload_n C (q := 38) 0 d_O_meet_37 rfl rfl rfl ?_
        refine gxx_O_rows C (q := 41) fl_O_27 d_O_meet_38 rfl ?_
        refine r_iload_n C (q := 42) 1 d_O_meet_41 rfl rfl rfl ?_
        refine r_iload_n C (q := 43) 2 d_O_meet_42 rfl rfl rfl ?_
        obtain ⟨r43, s43, hg43, hf⟩ := bd_s hf
        refine r_cVI C (q := 46) (As := [vI v1, vI v2]) (k0 := 3) (c_x_Rows_areOfUnlikeRegisters C.i hg43) mt_Rows_areOfUnlikeRegisters ml_O_299 (Nat.le_of_ble_eq_true rfl) rfl rfl rfl rfl rfl rfl ⟨Nat.le_of_ble_eq_true rfl, Nat.le_of_ble_eq_true rfl⟩ rfl (Nat.le_of_ble_eq_true rfl) d_O_meet_43 rfl ?_
        refine r_if_ne C (t := 52) (q := 49) d_O_meet_46 (by decide) rfl (fun c46 => ?_) (fun c46 => ?_)
        · replace hf := ite_t c46 hf
          refine r_bipush C (q := 51) (x := (-3)) d_O_meet_49 rfl rfl ?_
          exact r_ireturn C hf d_O_meet_51
        · replace hf := ite_f c46 hf
          refine r_aload_n C (q := 53) 0 d_O_meet_52 rfl rfl rfl ?_
          refine gxx_O_pairs C (q := 56) fl_O_19 d_O_meet_53 rfl ?_
          refine r_iload_n C (q := 57) 1 d_O_meet_56 rfl rfl rfl ?_
          refine r_iload_n C (q := 58) 2 d_O_meet_57 rfl rfl rfl ?_
          obtain ⟨r58, s58, hg58, hf⟩ := bd_s hf
          refine r_cVI C (q := 61) (As := [vI v1, vI v2]) (k0 := 2) (c_x_Pairs_alikeBy C.i hg58) mt_Pairs_alikeBy ml_O_302 (Nat.le_of_ble_eq_true rfl) rfl rfl rfl rfl rfl rfl ⟨Nat.le_of_ble_eq_true rfl, Nat.le_of_ble_eq_true rfl⟩ rfl (Nat.le_of_ble_eq_true rfl) d_O_meet_58 rfl ?_
          refine r_iload_n C (q := 62) 3 d_O_meet_61 rfl rfl rfl ?_
          refine r_iand C (q := 63) d_O_meet_62 rfl ?_
          refine r_if_eq C (t := 70) (q := 66) d_O_meet_63 (by decide) rfl (fun c63 => ?_) (fun c63 => ?_)
          · replace hf := ite_t c63 hf
            refine r_iconst C (q := 71) d_O_meet_70 rfl ?_
            exact r_sub [] rfl (s_x_meet_71 C hf)
          · replace hf := ite_f c63 hf
            refine r_iconst C (q := 67) d_O_meet_66 rfl ?_
            refine r_goto C (q := 71) d_O_meet_67 (by decide) ?_
            exact r_sub [] rfl (s_x_meet_71 C hf)
def x_Keys_tally_73 (N : Nat) (k15 : Int → St → MM) (k28 : Int → St → MM) (v3 v4 : Int) (s : St) : MM := k28 (v4 + 1) s
def x_Keys_tally_28 (N : Nat) (k15 : Int → St → MM) (v3 : Int) (k28 : Int → St → MM) (v4 : Int) (s : St) : MM := if le32 (s 3 2) v4 then (k15 (v3 + 1) s) else (bd (x_Rows_areOfUnlikeRegisters N v3 v4 s) (fun r41 s41 => if eq32 r41 0 then (x_Keys_tally_73 N k15 k28 v3 v4  s41) else (bd (x_Rows_areKnown N v3 v4 s41) (fun r51 s51 => if eq32 r51 0 then (x_Keys_tally_73 N k15 k28 v3 v4  s51) else (bd (x_Pairs_alikeBy N v3 v4 s51) (fun r65 s65 => gd (inb r65 64) (gd (inb r65 64) (x_Keys_tally_73 N k15 k28 v3 v4  (su s65 39 r65 ((s65 39 r65) + 1))))))))))
def x_Keys_tally_15 (N : Nat) (k15 : Int → St → MM) (v3 : Int) (s : St) : MM := if le32 (s 3 2) v3 then (some (0, s)) else (itr (x_Keys_tally_28 N k15 v3) (fun _ _ => none) N (v3 + 1) s)
def x_Keys_tally (N : Nat) (s : St) : MM := bd (j_Arrays_fill_IIV N 39 64 0 s) (fun r5 s5 => itr (x_Keys_tally_15 N ) (fun _ _ => none) N 0 s5)
abbrev rm_x_Keys_tally : Room := { frames := 3, cells := 0, slots := 0, locals := 70 }
theorem s_x_Keys_tally_73 {X : CxT} {l : Launch} {G : GG} (C : Cx X l (xW G) 5 prog_5_method_2_code "OneSelf$Keys" (wo y_Keys_tally prog_5_method_2_code 5 none) none rm_x_Keys_tally) {o : Int × St} {N : Nat} {v3 v4 : Int} {k15 : Int → St → MM} (hk15 : ∀ (u3 : Int) (s : St), k15 u3 s = some o → Rj X (xW G) 5 (qV X (xW G) o) 15 [(0, .ref ((xW G).h 11)), (1, .ref ((xW G).h 2)), (2, .ref ((xW G).h 3)), (3, vI u3)] [] s) {k28 : Int → St → MM} (hk28 : ∀ (u4 : Int) (s : St), k28 u4 s = some o → Rj X (xW G) 5 (qV X (xW G) o) 28 [(0, .ref ((xW G).h 11)), (1, .ref ((xW G).h 2)), (2, .ref ((xW G).h 3)), (3, vI v3), (4, vI u4)] [] s) {s : St} (hf : x_Keys_tally_73 N k15 k28 v3 v4 s = some o) : Rj X (xW G) 5 (qV X (xW G) o) 73 [(0, .ref ((xW G).h 11)), (1, .ref ((xW G).h 2)), (2, .ref ((xW G).h 3)), (3, vI v3), (4, vI v4)] [] s := by
  unfold x_Keys_tally_73 at hf
  refine r_iinc C (q := 76) (lv' := [(4, vI (v4 + 1)), (0, .ref ((xW G).h 11)), (1, .ref ((xW G).h 2)), (2, .ref ((xW G).h 3)), (3, vI v3)]) 4 d_Keys_tally_73 rfl (by decide) rfl rfl ?_
  refine r_goto C (q := 28) d_Keys_tally_76 (by decide) ?_
  exact r_sub [1, 2, 3, 4, 0] rfl (hk28 _ _  hf)
theorem s_x_Keys_tally_28 {X : CxT} {l : Launch} {G : GG} (C : Cx X l (xW G) 5 prog_5_method_2_code "OneSelf$Keys" (wo y_Keys_tally prog_5_method_2_code 5 none) none rm_x_Keys_tally) {o : Int × St} {N : Nat} {v3 v4 : Int} {k15 : Int → St → MM} (hk15 : ∀ (u3 : Int) (s : St), k15 u3 s = some o → Rj X (xW G) 5 (qV X (xW G) o) 15 [(0, .ref ((xW G).h 11)), (1, .ref ((xW G).h 2)), (2, .ref ((xW G).h 3)), (3, vI u3)] [] s) {k28 : Int → St → MM} (hk28 : ∀ (u4 : Int) (s : St), k28 u4 s = some o → Rj X (xW G) 5 (qV X (xW G) o) 28 [(0, .ref ((xW G).h 11)), (1, .ref ((xW G).h 2)), (2, .ref ((xW G).h 3)), (3, vI v3), (4, vI u4)] [] s) {s : St} (hf : x_Keys_tally_28 N k15 v3 k28 v4 s = some o) : Rj X (xW G) 5 (qV X (xW G) o) 28 [(0, .ref ((xW G).h 11)), (1, .ref ((xW G).h 2)), (2, .ref ((xW G).h 3)), (3, vI v3), (4, vI v4)] [] s := by
  unfold x_Keys_tally_28 at hf
  refine r_iload C (q := 30) 4 d_Keys_tally_28 rfl rfl ?_
  refine r_aload_n C (q := 31) 2 d_Keys_tally_30 rfl rfl rfl ?_
  refine gnx_Rows_many C (q := 34) fn_Keys_31 d_Keys_tally_31 rfl ?_
  refine r_ic_ge C (t := 79) (q := 37) d_Keys_tally_34 (by decide) rfl (fun c34 => ?_) (fun c34 => ?_)
  · replace hf := ite_t c34 hf
    refine r_iinc C (q := 82) (lv' := [(3, vI (v3 + 1)), (0, .ref ((xW G).h 11)), (1, .ref ((xW G).h 2)), (2, .ref ((xW G).h 3)), (4, vI v4)]) 3 d_Keys_tally_79 rfl (by decide) rfl rfl ?_
    refine r_goto C (q := 15) d_Keys_tally_82 (by decide) ?_
    exact r_sub [1, 2, 3, 0] rfl (hk15 _ _  hf)
  · replace hf := ite_f c34 hf
    refine r_aload_n C (q := 38) 2 d_Keys_tally_37 rfl rfl rfl ?_
    refine r_iload_n C (q := 39) 3 d_Keys_tally_38 rfl rfl rfl ?_
    refine r_iload C (q := 41) 4 d_Keys_tally_39 rfl rfl ?_
    obtain ⟨r41, s41, hg41, hf⟩ := bd_s hf
    refine r_cVI C (q := 44) (As := [vI v3, vI v4]) (k0 := 3) (c_x_Rows_areOfUnlikeRegisters C.i hg41) mt_Rows_areOfUnlikeRegisters ml_Keys_37 (Nat.le_of_ble_eq_true rfl) rfl rfl rfl rfl rfl rfl ⟨Nat.le_of_ble_eq_true rfl, Nat.le_of_ble_eq_true rfl⟩ rfl (Nat.le_of_ble_eq_true rfl) d_Keys_tally_41 rfl ?_
    refine r_if_eq C (t := 73) (q := 47) d_Keys_tally_44 (by decide) rfl (fun c44 => ?_) (fun c44 => ?_)
    · replace hf := ite_t c44 hf
      exact r_sub [0, 1, 2, 3, 4] rfl (s_x_Keys_tally_73 C hk15 hk28 hf)
    · replace hf := ite_f c44 hf
      refine r_aload_n C (q := 48) 2 d_Keys_tally_47 rfl rfl rfl ?_
      refine r_iload_n C (q := 49) 3 d_Keys_tally_48 rfl rfl rfl ?_
      refine r_iload C (q := 51) 4 d_Keys_tally_49 rfl rfl ?_
      obtain ⟨r51, s51, hg51, hf⟩ := bd_s hf
      refine r_cVI C (q := 54) (As := [vI v3, vI v4]) (k0 := 3) (c_x_Rows_areKnown C.i hg51) mt_Rows_areKnown ml_Keys_41 (Nat.le_of_ble_eq_true rfl) rfl rfl rfl rfl rfl rfl ⟨Nat.le_of_ble_eq_true rfl, Nat.le_of_ble_eq_true rfl⟩ rfl (Nat.le_of_ble_eq_true rfl) d_Keys_tally_51 rfl ?_
      refine r_if_eq C (t := 73) (q := 57) d_Keys_tally_54 (by decide) rfl (fun c54 => ?_) (fun c54 => ?_)
      · replace hf := ite_t c54 hf
        exact r_sub [0, 1, 2, 3, 4] rfl (s_x_Keys_tally_73 C hk15 hk28 hf)
      · replace hf := ite_f c54 hf
        refine r_aload_n C (q := 58) 0 d_Keys_tally_57 rfl rfl rfl ?_
        refine gxx_Keys_tallies C (q := 61) fl_Keys_9 d_Keys_tally_58 rfl ?_
        refine r_aload_n C (q := 62) 1 d_Keys_tally_61 rfl rfl rfl ?_
        refine r_iload_n C (q := 63) 3 d_Keys_tally_62 rfl rfl rfl ?_
        refine r_iload C (q := 65) 4 d_Keys_tally_63 rfl rfl ?_
        obtain ⟨r65, s65, hg65, hf⟩ := bd_s hf
        refine r_cVI C (q := 68) (As := [vI v3, vI v4]) (k0 := 2) (c_x_Pairs_alikeBy C.i hg65) mt_Pairs_alikeBy ml_Keys_44 (Nat.le_of_ble_eq_true rfl) rfl rfl rfl rfl rfl rfl ⟨Nat.le_of_ble_eq_true rfl, Nat.le_of_ble_eq_true rfl⟩ rfl (Nat.le_of_ble_eq_true rfl) d_Keys_tally_65 rfl ?_
        refine r_dup2 C (q := 69) d_Keys_tally_68 rfl rfl rfl ?_
        obtain ⟨g69, hf⟩ := gd_s hf
        refine r_iald C (q := 70) 39 (Nat.le_of_ble_eq_true rfl) (fun _ => rfl) 0 rfl g69 (by decide) d_Keys_tally_69 rfl ?_
        refine r_iconst C (q := 71) d_Keys_tally_70 rfl ?_
        refine r_iadd C (q := 72) d_Keys_tally_71 rfl ?_
        obtain ⟨g72, hf⟩ := gd_s hf
        refine r_iast C (q := 73) 39 (Nat.le_of_ble_eq_true rfl) (fun _ => rfl) 0 rfl g72 (by decide) d_Keys_tally_72 rfl ?_
        exact r_sub [0, 1, 2, 3, 4] rfl (s_x_Keys_tally_73 C hk15 hk28 hf)
theorem s_x_Keys_tally_15 {X : CxT} {l : Launch} {G : GG} (C : Cx X l (xW G) 5 prog_5_method_2_code "OneSelf$Keys" (wo y_Keys_tally prog_5_method_2_code 5 none) none rm_x_Keys_tally) {o : Int × St} {N : Nat} {v3 : Int} {k15 : Int → St → MM} (hk15 : ∀ (u3 : Int) (s : St), k15 u3 s = some o → Rj X (xW G) 5 (qV X (xW G) o) 15 [(0, .ref ((xW G).h 11)), (1, .ref ((xW G).h 2)), (2, .ref ((xW G).h 3)), (3, vI u3)] [] s) {s : St} (hf : x_Keys_tally_15 N  k15 v3 s = some o) : Rj X (xW G) 5 (qV X (xW G) o) 15 [(0, .ref ((xW G).h 11)), (1, .ref ((xW G).h 2)), (2, .ref ((xW G).h 3)), (3, vI v3)] [] s := by
  unfold x_Keys_tally_15 at hf
  refine r_iload_n C (q := 16) 3 d_Keys_tally_15 rfl rfl rfl ?_
  refine r_aload_n C (q := 17) 2 d_Keys_tally_16 rfl rfl rfl ?_
  refine gnx_Rows_many C (q := 20) fn_Keys_31 d_Keys_tally_17 rfl ?_
  refine r_ic_ge C (t := 85) (q := 23) d_Keys_tally_20 (by decide) rfl (fun c20 => ?_) (fun c20 => ?_)
  · replace hf := ite_t c20 hf
    exact r_return C hf d_Keys_tally_85
  · replace hf := ite_f c20 hf
    refine r_iload_n C (q := 24) 3 d_Keys_tally_23 rfl rfl rfl ?_
    refine r_iconst C (q := 25) d_Keys_tally_24 rfl ?_
    refine r_iadd C (q := 26) d_Keys_tally_25 rfl ?_
    refine r_istore C (q := 28) (lv' := [(4, vI (v3 + 1)), (0, .ref ((xW G).h 11)), (1, .ref ((xW G).h 2)), (2, .ref ((xW G).h 3)), (3, vI v3)]) d_Keys_tally_26 (by decide) rfl rfl ?_
    have hL : ∀ (u4 : Int) (z : St), itr (x_Keys_tally_28 N k15 v3) (fun _ _ => none) N u4 z = some o → Rj X (xW G) 5 (qV X (xW G) o) 28 [(0, .ref ((xW G).h 11)), (1, .ref ((xW G).h 2)), (2, .ref ((xW G).h 3)), (3, vI v3), (4, vI u4)] [] z := itr_ind (x_Keys_tally_28 N k15 v3) (fun _ _ => none) (fun k => ∀ (u4 : Int) (z : St), k u4 z = some o → Rj X (xW G) 5 (qV X (xW G) o) 28 [(0, .ref ((xW G).h 11)), (1, .ref ((xW G).h 2)), (2, .ref ((xW G).h 3)), (3, vI v3), (4, vI u4)] [] z) (fun _ _  h => by cases h) (fun k hk u4 z h => s_x_Keys_tally_28 C hk15 hk h) N
    exact r_sub [1, 2, 3, 4, 0] rfl (hL _ _  hf)
theorem c_x_Keys_tally {l : Launch} {G : GG} (hi : wo_i (xW G)) {N : Nat} {s : St} {o : Int × St} (hf : x_Keys_tally N s = some o) : CtV l (xW G) y_Keys_tally (wo y_Keys_tally prog_5_method_2_code 5 none) rm_x_Keys_tally [.ref ((xW G).h 11), .ref ((xW G).h 2)] s o := by
  refine ct_V (by decide +kernel) hi (Nat.le_of_ble_eq_true rfl) fun X C => ?_
  unfold x_Keys_tally at hf
  show Rj X (xW G) 5 (qV X (xW G) o) 0 [(0, .ref ((xW G).h 11)), (1, .ref ((xW G).h 2))] [] s
  refine r_aload_n C (q := 1) 0 d_Keys_tally_0 rfl rfl rfl ?_
  refine gxx_Keys_tallies C (q := 4) fl_Keys_9 d_Keys_tally_1 rfl ?_
  refine r_iconst C (q := 5) d_Keys_tally_4 rfl ?_
  obtain ⟨r5, s5, hg5, hf⟩ := bd_s hf
  refine r_cSV C (q := 8) (As := [.ref ((xW G).h 39), vI 0]) (c_j_Arrays_fill_IIV (Nat.le_of_ble_eq_true rfl) (fun _ => rfl) 0 rfl (by decide) C.i hg5) mt_Arrays_fill_IIV ml_Keys_19 rfl rfl rfl ⟨Nat.le_of_ble_eq_true rfl, Nat.le_of_ble_eq_true rfl⟩ rfl (Nat.le_of_ble_eq_true rfl) d_Keys_tally_5 rfl ?_
  refine r_aload_n C (q := 9) 1 d_Keys_tally_8 rfl rfl rfl ?_
  refine gnx_Pairs_rows C (q := 12) fn_Keys_25 d_Keys_tally_9 rfl ?_
  refine r_astore_n C (q := 13) (lv' := [(2, .ref ((xW G).h 3)), (0, .ref ((xW G).h 11)), (1, .ref ((xW G).h 2))]) d_Keys_tally_12 rfl (by decide) rfl rfl ?_
  refine r_iconst C (q := 14) d_Keys_tally_13 rfl ?_
  refine r_istore_n C (q := 15) (lv' := [(3, vI 0), (2, .ref ((xW G).h 3)), (0, .ref ((xW G).h 11)), (1, .ref ((xW G).h 2))]) d_Keys_tally_14 rfl (by decide) rfl rfl ?_
  have hL : ∀ (u3 : Int) (z : St), itr (x_Keys_tally_15 N ) (fun _ _ => none) N u3 z = some o → Rj X (xW G) 5 (qV X (xW G) o) 15 [(0, .ref ((xW G).h 11)), (1, .ref ((xW G).h 2)), (2, .ref ((xW G).h 3)), (3, vI u3)] [] z := itr_ind (x_Keys_tally_15 N ) (fun _ _ => none) (fun k => ∀ (u3 : Int) (z : St), k u3 z = some o → Rj X (xW G) 5 (qV X (xW G) o) 15 [(0, .ref ((xW G).h 11)), (1, .ref ((xW G).h 2)), (2, .ref ((xW G).h 3)), (3, vI u3)] [] z) (fun _ _  h => by cases h) (fun k hk u3 z h => s_x_Keys_tally_15 C hk h) N
  exact r_sub [2, 3, 1, 0] rfl (hL _ _  hf)
def x_Keys_pairsBy_25 (N : Nat) (k4 : Int → Int → St → MM) (v1 v2 v3 : Int) (s : St) : MM := k4 v2 (v3 + 1) s
def x_Keys_pairsBy_4 (N : Nat) (v1 : Int) (k4 : Int → Int → St → MM) (v2 v3 : Int) (s : St) : MM := if lt32 63 v3 then (some (v2, s)) else (if eq32 (an32 v3 v1) 0 then (x_Keys_pairsBy_25 N k4 v1 v2 v3  s) else (gd (inb v3 64) (x_Keys_pairsBy_25 N k4 v1 (v2 + (s 39 v3)) v3  s)))
def x_Keys_pairsBy (N : Nat) (v1 : Int) (s : St) : MM := itr (x_Keys_pairsBy_4 N v1) (fun _ _ _ => none) N 0 0 s
abbrev rm_x_Keys_pairsBy : Room := { frames := 0, cells := 0, slots := 0, locals := 0 }
theorem s_x_Keys_pairsBy_25 {X : CxT} {l : Launch} {G : GG} (C : Cx X l (xW G) 4 prog_5_method_4_code "OneSelf$Keys" (wo y_Keys_pairsBy prog_5_method_4_code 4 (some .int)) (some .int) rm_x_Keys_pairsBy) {o : Int × St} {N : Nat} {v1 v2 v3 : Int} {k4 : Int → Int → St → MM} (hk4 : ∀ (u2 u3 : Int) (s : St), k4 u2 u3 s = some o → Rj X (xW G) 4 (qI X (xW G) o) 4 [(0, .ref ((xW G).h 11)), (1, vI v1), (2, vI u2), (3, vI u3)] [] s) {s : St} (hf : x_Keys_pairsBy_25 N k4 v1 v2 v3 s = some o) : Rj X (xW G) 4 (qI X (xW G) o) 25 [(0, .ref ((xW G).h 11)), (1, vI v1), (2, vI v2), (3, vI v3)] [] s := by
  unfold x_Keys_pairsBy_25 at hf
  refine r_iinc C (q := 28) (lv' := [(3, vI (v3 + 1)), (0, .ref ((xW G).h 11)), (1, vI v1), (2, vI v2)]) 3 d_Keys_pairsBy_25 rfl (by decide) rfl rfl ?_
  refine r_goto C (q := 4) d_Keys_pairsBy_28 (by decide) ?_
  exact r_sub [1, 2, 3, 0] rfl (hk4 _ _ _  hf)
theorem s_x_Keys_pairsBy_4 {X : CxT} {l : Launch} {G : GG} (C : Cx X l (xW G) 4 prog_5_method_4_code "OneSelf$Keys" (wo y_Keys_pairsBy prog_5_method_4_code 4 (some .int)) (some .int) rm_x_Keys_pairsBy) {o : Int × St} {N : Nat} {v1 v2 v3 : Int} {k4 : Int → Int → St → MM} (hk4 : ∀ (u2 u3 : Int) (s : St), k4 u2 u3 s = some o → Rj X (xW G) 4 (qI X (xW G) o) 4 [(0, .ref ((xW G).h 11)), (1, vI v1), (2, vI u2), (3, vI u3)] [] s) {s : St} (hf : x_Keys_pairsBy_4 N v1 k4 v2 v3 s = some o) : Rj X (xW G) 4 (qI X (xW G) o) 4 [(0, .ref ((xW G).h 11)), (1, vI v1), (2, vI v2), (3, vI v3)] [] s := by
  unfold x_Keys_pairsBy_4 at hf
  refine r_iload_n C (q := 5) 3 d_Keys_pairsBy_4 rfl rfl rfl ?_
  refine r_bipush C (q := 7) (x := 63) d_Keys_pairsBy_5 rfl rfl ?_
  refine r_ic_gt C (t := 31) (q := 10) d_Keys_pairsBy_7 (by decide) rfl (fun c7 => ?_) (fun c7 => ?_)
  · replace hf := ite_t c7 hf
    refine r_iload_n C (q := 32) 2 d_Keys_pairsBy_31 rfl rfl rfl ?_
    exact r_ireturn C hf d_Keys_pairsBy_32
  · replace hf := ite_f c7 hf
    refine r_iload_n C (q := 11) 3 d_Keys_pairsBy_10 rfl rfl rfl ?_
    refine r_iload_n C (q := 12) 1 d_Keys_pairsBy_11 rfl rfl rfl ?_
    refine r_iand C (q := 13) d_Keys_pairsBy_12 rfl ?_
    refine r_if_eq C (t := 25) (q := 16) d_Keys_pairsBy_13 (by decide) rfl (fun c13 => ?_) (fun c13 => ?_)
    · replace hf := ite_t c13 hf
      exact r_sub [0, 1, 2, 3] rfl (s_x_Keys_pairsBy_25 C hk4 hf)
    · replace hf := ite_f c13 hf
      refine r_iload_n C (q := 17) 2 d_Keys_pairsBy_16 rfl rfl rfl ?_
      refine r_aload_n C (q := 18) 0 d_Keys_pairsBy_17 rfl rfl rfl ?_
      refine gxx_Keys_tallies C (q := 21) fl_Keys_9 d_Keys_pairsBy_18 rfl ?_
      refine r_iload_n C (q := 22) 3 d_Keys_pairsBy_21 rfl rfl rfl ?_
      obtain ⟨g22, hf⟩ := gd_s hf
      refine r_iald C (q := 23) 39 (Nat.le_of_ble_eq_true rfl) (fun _ => rfl) 0 rfl g22 (by decide) d_Keys_pairsBy_22 rfl ?_
      refine r_iadd C (q := 24) d_Keys_pairsBy_23 rfl ?_
      refine r_istore_n C (q := 25) (lv' := [(2, vI (v2 + (s 39 v3))), (0, .ref ((xW G).h 11)), (1, vI v1), (3, vI v3)]) d_Keys_pairsBy_24 rfl (by decide) rfl rfl ?_
      exact r_sub [1, 2, 0, 3] rfl (s_x_Keys_pairsBy_25 C hk4 hf)
theorem c_x_Keys_pairsBy {l : Launch} {G : GG} (hi : wo_i (xW G)) {N : Nat} {v1 : Int} {s : St} {o : Int × St} (hf : x_Keys_pairsBy N v1 s = some o) : CtI l (xW G) y_Keys_pairsBy (wo y_Keys_pairsBy prog_5_method_4_code 4 (some .int)) rm_x_Keys_pairsBy [.ref ((xW G).h 11), vI v1] s o := by
  refine ct_I (by decide +kernel) hi (Nat.le_of_ble_eq_true rfl) fun X C => ?_
  unfold x_Keys_pairsBy at hf
  show Rj X (xW G) 4 (qI X (xW G) o) 0 [(0, .ref ((xW G).h 11)), (1, vI v1)] [] s
  refine r_iconst C (q := 1) d_Keys_pairsBy_0 rfl ?_
  refine r_istore_n C (q := 2) (lv' := [(2, vI 0), (0, .ref ((xW G).h 11)), (1, vI v1)]) d_Keys_pairsBy_1 rfl (by decide) rfl rfl ?_
  refine r_iconst C (q := 3) d_Keys_pairsBy_2 rfl ?_
  refine r_istore_n C (q := 4) (lv' := [(3, vI 0), (2, vI 0), (0, .ref ((xW G).h 11)), (1, vI v1)]) d_Keys_pairsBy_3 rfl (by decide) rfl rfl ?_
  have hL : ∀ (u2 u3 : Int) (z : St), itr (x_Keys_pairsBy_4 N v1) (fun _ _ _ => none) N u2 u3 z = some o → Rj X (xW G) 4 (qI X (xW G) o) 4 [(0, .ref ((xW G).h 11)), (1, vI v1), (2, vI u2), (3, vI u3)] [] z := itr_ind (x_Keys_pairsBy_4 N v1) (fun _ _ _ => none) (fun k => ∀ (u2 u3 : Int) (z : St), k u2 u3 z = some o → Rj X (xW G) 4 (qI X (xW G) o) 4 [(0, .ref ((xW G).h 11)), (1, vI v1), (2, vI u2), (3, vI u3)] [] z) (fun _ _ _  h => by cases h) (fun k hk u2 u3 z h => s_x_Keys_pairsBy_4 C hk h) N
  exact r_sub [2, 3, 1, 0] rfl (hL _ _ _  hf)
def x_pairs (N : Nat) (v1 : Int) (s : St) : MM := bd (x_isWithin N v1 0 63 s) (fun r4 s4 => if eq32 r4 0 then (some ((-2), s4)) else (bd (x_Keys_tally N s4) (fun r21 s21 => bd (x_Keys_pairsBy N v1 s21) (fun r29 s29 => some (r29, s29)))))
abbrev rm_x_pairs : Room := { frames := 4, cells := 0, slots := 0, locals := 94 }
theorem c_x_pairs {l : Launch} {G : GG} (hi : wo_i (xW G)) {N : Nat} {v1 : Int} {s : St} {o : Int × St} (hf : x_pairs N v1 s = some o) : CtI l (xW G) y_O_pairs (wo y_O_pairs prog_1_method_33_code 2 (some .int)) rm_x_pairs [.ref ((xW G).h 0), vI v1] s o := by
  refine ct_I (by decide +kernel) hi (Nat.le_of_ble_eq_true rfl) fun X C => ?_
  unfold x_pairs at hf
  show Rj X (xW G) 2 (qI X (xW G) o) 0 [(0, .ref ((xW G).h 0)), (1, vI v1)] [] s
  refine r_iload_n C (q := 1) 1 d_O_pairs_0 rfl rfl rfl ?_
  refine r_iconst C (q := 2) d_O_pairs_1 rfl ?_
  refine r_bipush C (q := 4) (x := 63) d_O_pairs_2 rfl rfl ?_
  obtain ⟨r4, s4, hg4, hf⟩ := bd_s hf
  refine r_cSI C (q := 7) (As := [vI v1, vI 0, vI 63]) (c_x_isWithin C.i hg4) mt_O_isWithin ml_O_78 rfl rfl rfl ⟨Nat.le_of_ble_eq_true rfl, Nat.le_of_ble_eq_true rfl⟩ rfl (Nat.le_of_ble_eq_true rfl) d_O_pairs_4 rfl ?_
  refine r_if_ne C (t := 13) (q := 10) d_O_pairs_7 (by decide) rfl (fun c7 => ?_) (fun c7 => ?_)
  · replace hf := ite_t c7 hf
    refine r_bipush C (q := 12) (x := (-2)) d_O_pairs_10 rfl rfl ?_
    exact r_ireturn C hf d_O_pairs_12
  · replace hf := ite_f c7 hf
    refine r_aload_n C (q := 14) 0 d_O_pairs_13 rfl rfl rfl ?_
    refine gxx_O_keys C (q := 17) fl_O_74 d_O_pairs_14 rfl ?_
    refine r_aload_n C (q := 18) 0 d_O_pairs_17 rfl rfl rfl ?_
    refine gxx_O_pairs C (q := 21) fl_O_19 d_O_pairs_18 rfl ?_
    obtain ⟨r21, s21, hg21, hf⟩ := bd_s hf
    refine r_cVV C (q := 24) (As := [.ref ((xW G).h 2)]) (k0 := 11) (c_x_Keys_tally C.i hg21) mt_Keys_tally ml_O_305 (Nat.le_of_ble_eq_true rfl) rfl rfl rfl rfl rfl rfl ⟨Nat.le_of_ble_eq_true rfl, Nat.le_of_ble_eq_true rfl⟩ rfl (Nat.le_of_ble_eq_true rfl) d_O_pairs_21 rfl ?_
    refine r_aload_n C (q := 25) 0 d_O_pairs_24 rfl rfl rfl ?_
    refine gxx_O_keys C (q := 28) fl_O_74 d_O_pairs_25 rfl ?_
    refine r_iload_n C (q := 29) 1 d_O_pairs_28 rfl rfl rfl ?_
    obtain ⟨r29, s29, hg29, hf⟩ := bd_s hf
    refine r_cVI C (q := 32) (As := [vI v1]) (k0 := 11) (c_x_Keys_pairsBy C.i hg29) mt_Keys_pairsBy ml_O_308 (Nat.le_of_ble_eq_true rfl) rfl rfl rfl rfl rfl rfl ⟨Nat.le_of_ble_eq_true rfl, Nat.le_of_ble_eq_true rfl⟩ rfl (Nat.le_of_ble_eq_true rfl) d_O_pairs_29 rfl ?_
    exact r_ireturn C hf d_O_pairs_32
def x_Keys_demand_98 (N : Nat) (k23 : Int → St → MM) (v3 : Int) (s : St) : MM := k23 (v3 + 1) s
def x_Keys_demand_23 (N : Nat) (k23 : Int → St → MM) (v3 : Int) (s : St) : MM := if le32 (s 10 3) v3 then (some (0, s)) else (gd (inb v3 40) (gd (inb v3 40) (gd (inb v3 40) (if eq32 (s 38 v3) 0 then (x_Keys_demand_98 N k23 v3  s) else (bd (x_Rows_areOfUnlikeRegisters N (s 36 v3) (s 37 v3) s) (fun r64 s64 => if eq32 r64 0 then (x_Keys_demand_98 N k23 v3  s64) else (bd (x_Rows_areKnown N (s 36 v3) (s 37 v3) s64) (fun r78 s78 => if eq32 r78 0 then (x_Keys_demand_98 N k23 v3  s78) else (bd (x_Pairs_alikeBy N (s 36 v3) (s 37 v3) s78) (fun r93 s93 => gd (inb r93 64) (x_Keys_demand_98 N k23 v3  (su s93 40 r93 1))))))))))))
def x_Keys_demand_2 (N : Nat) (k2 : Int → St → MM) (v3 : Int) (s : St) : MM := if lt32 63 v3 then (itr (x_Keys_demand_23 N ) (fun _ _ => none) N 0 s) else (gd (inb v3 64) (k2 (v3 + 1) (su s 40 v3 0)))
def x_Keys_demand (N : Nat) (s : St) : MM := itr (x_Keys_demand_2 N ) (fun _ _ => none) N 0 s
abbrev rm_x_Keys_demand : Room := { frames := 3, cells := 0, slots := 0, locals := 70 }
theorem s_x_Keys_demand_98 {X : CxT} {l : Launch} {G : GG} (C : Cx X l (xW G) 6 prog_5_method_3_code "OneSelf$Keys" (wo y_Keys_demand prog_5_method_3_code 6 none) none rm_x_Keys_demand) {o : Int × St} {N : Nat} {v3 : Int} {k23 : Int → St → MM} (hk23 : ∀ (u3 : Int) (s : St), k23 u3 s = some o → Rj X (xW G) 6 (qV X (xW G) o) 23 [(0, .ref ((xW G).h 11)), (1, .ref ((xW G).h 2)), (2, .ref ((xW G).h 10)), (3, vI u3)] [] s) {s : St} (hf : x_Keys_demand_98 N k23 v3 s = some o) : Rj X (xW G) 6 (qV X (xW G) o) 98 [(0, .ref ((xW G).h 11)), (1, .ref ((xW G).h 2)), (2, .ref ((xW G).h 10)), (3, vI v3)] [] s := by
  unfold x_Keys_demand_98 at hf
  refine r_iinc C (q := 101) (lv' := [(3, vI (v3 + 1)), (0, .ref ((xW G).h 11)), (1, .ref ((xW G).h 2)), (2, .ref ((xW G).h 10))]) 3 d_Keys_demand_98 rfl (by decide) rfl rfl ?_
  refine r_goto C (q := 23) d_Keys_demand_101 (by decide) ?_
  exact r_sub [1, 2, 3, 0] rfl (hk23 _ _  hf)
theorem s_x_Keys_demand_23 {X : CxT} {l : Launch} {G : GG} (C : Cx X l (xW G) 6 prog_5_method_3_code "OneSelf$Keys" (wo y_Keys_demand prog_5_method_3_code 6 none) none rm_x_Keys_demand) {o : Int × St} {N : Nat} {v3 : Int} {k23 : Int → St → MM} (hk23 : ∀ (u3 : Int) (s : St), k23 u3 s = some o → Rj X (xW G) 6 (qV X (xW G) o) 23 [(0, .ref ((xW G).h 11)), (1, .ref ((xW G).h 2)), (2, .ref ((xW G).h 10)), (3, vI u3)] [] s) {s : St} (hf : x_Keys_demand_23 N  k23 v3 s = some o) : Rj X (xW G) 6 (qV X (xW G) o) 23 [(0, .ref ((xW G).h 11)), (1, .ref ((xW G).h 2)), (2, .ref ((xW G).h 10)), (3, vI v3)] [] s := by
  unfold x_Keys_demand_23 at hf
  refine r_iload_n C (q := 24) 3 d_Keys_demand_23 rfl rfl rfl ?_
  refine r_aload_n C (q := 25) 2 d_Keys_demand_24 rfl rfl rfl ?_
  refine gnx_Checks_many C (q := 28) fn_Keys_48 d_Keys_demand_25 rfl ?_
  refine r_ic_ge C (t := 104) (q := 31) d_Keys_demand_28 (by decide) rfl (fun c28 => ?_) (fun c28 => ?_)
  · replace hf := ite_t c28 hf
    exact r_return C hf d_Keys_demand_104
  · replace hf := ite_f c28 hf
    refine r_aload_n C (q := 32) 2 d_Keys_demand_31 rfl rfl rfl ?_
    refine gnx_Checks_firsts C (q := 35) fn_Keys_51 d_Keys_demand_32 rfl ?_
    refine r_iload_n C (q := 36) 3 d_Keys_demand_35 rfl rfl rfl ?_
    obtain ⟨g36, hf⟩ := gd_s hf
    refine r_iald C (q := 37) 36 (Nat.le_of_ble_eq_true rfl) (fun _ => rfl) 0 rfl g36 (by decide) d_Keys_demand_36 rfl ?_
    refine r_istore C (q := 39) (lv' := [(4, vI (s 36 v3)), (0, .ref ((xW G).h 11)), (1, .ref ((xW G).h 2)), (2, .ref ((xW G).h 10)), (3, vI v3)]) d_Keys_demand_37 (by decide) rfl rfl ?_
    refine r_aload_n C (q := 40) 3 d_Keys_demand_39 rfl rfl rfl ?_
    refine gnx_Checks_seconds C (q := 43) fn_Keys_54 d_Keys_demand_40 rfl ?_
    refine r_iload_n C (q := 44) 4 d_Keys_demand_43 rfl rfl rfl ?_
    obtain ⟨g44, hf⟩ := gd_s hf
    refine r_iald C (q := 45) 37 (Nat.le_of_ble_eq_true rfl) (fun _ => rfl) 0 rfl g44 (by decide) d_Keys_demand_44 rfl ?_
    refine r_istore C (q := 47) (lv' := [(5, vI (s 37 v3)), (4, vI (s 36 v3)), (0, .ref ((xW G).h 11)), (1, .ref ((xW G).h 2)), (2, .ref ((xW G).h 10)), (3, vI v3)]) d_Keys_demand_45 (by decide) rfl rfl ?_
    refine r_aload_n C (q := 48) 4 d_Keys_demand_47 rfl rfl rfl ?_
    refine gnx_Checks_ones C (q := 51) fn_Keys_57 d_Keys_demand_48 rfl ?_
    refine r_iload_n C (q := 52) 5 d_Keys_demand_51 rfl rfl rfl ?_
    obtain ⟨g52, hf⟩ := gd_s hf
    refine r_zald C (q := 53) 38 (Nat.le_of_ble_eq_true rfl) (fun _ => rfl) 2 rfl g52 (by decide) d_Keys_demand_52 rfl ?_
    refine r_if_eq C (t := 98) (q := 56) d_Keys_demand_53 (by decide) rfl (fun c53 => ?_) (fun c53 => ?_)
    · replace hf := ite_t c53 hf
      exact r_sub [2, 3, 4, 5] rfl (s_x_Keys_demand_98 C hk23 hf)
    · replace hf := ite_f c53 hf
      refine r_aload_n C (q := 57) 3 d_Keys_demand_56 rfl rfl rfl ?_
      refine gnx_Pairs_rows C (q := 60) fn_Keys_25 d_Keys_demand_57 rfl ?_
      refine r_iload C (q := 62) 1 d_Keys_demand_60 rfl rfl ?_
      refine r_iload C (q := 64) 0 d_Keys_demand_62 rfl rfl ?_
      obtain ⟨r64, s64, hg64, hf⟩ := bd_s hf
      refine r_cVI C (q := 67) (As := [vI (s 36 v3), vI (s 37 v3)]) (k0 := 3) (c_x_Rows_areOfUnlikeRegisters C.i hg64) mt_Rows_areOfUnlikeRegisters ml_Keys_37 (Nat.le_of_ble_eq_true rfl) rfl rfl rfl rfl rfl rfl ⟨Nat.le_of_ble_eq_true rfl, Nat.le_of_ble_eq_true rfl⟩ rfl (Nat.le_of_ble_eq_true rfl) d_Keys_demand_64 rfl ?_
      refine r_if_eq C (t := 98) (q := 70) d_Keys_demand_67 (by decide) rfl (fun c67 => ?_) (fun c67 => ?_)
      · replace hf := ite_t c67 hf
        exact r_sub [2, 3, 4, 5] rfl (s_x_Keys_demand_98 C hk23 hf)
      · replace hf := ite_f c67 hf
        refine r_aload_n C (q := 71) 3 d_Keys_demand_70 rfl rfl rfl ?_
        refine gnx_Pairs_rows C (q := 74) fn_Keys_25 d_Keys_demand_71 rfl ?_
        refine r_iload C (q := 76) 1 d_Keys_demand_74 rfl rfl ?_
        refine r_iload C (q := 78) 0 d_Keys_demand_76 rfl rfl ?_
        obtain ⟨r78, s78, hg78, hf⟩ := bd_s hf
        refine r_cVI C (q := 81) (As := [vI (s 36 v3), vI (s 37 v3)]) (k0 := 3) (c_x_Rows_areKnown C.i hg78) mt_Rows_areKnown ml_Keys_41 (Nat.le_of_ble_eq_true rfl) rfl rfl rfl rfl rfl rfl ⟨Nat.le_of_ble_eq_true rfl, Nat.le_of_ble_eq_true rfl⟩ rfl (Nat.le_of_ble_eq_true rfl) d_Keys_demand_78 rfl ?_
        refine r_if_eq C (t := 98) (q := 84) d_Keys_demand_81 (by decide) rfl (fun c81 => ?_) (fun c81 => ?_)
        · replace hf := ite_t c81 hf
          exact r_sub [2, 3, 4, 5] rfl (s_x_Keys_demand_98 C hk23 hf)
        · replace hf := ite_f c81 hf
          refine r_aload_n C (q := 85) 2 d_Keys_demand_84 rfl rfl rfl ?_
          refine gxx_Keys_demanded C (q := 88) fl_Keys_15 d_Keys_demand_85 rfl ?_
          refine r_aload_n C (q := 89) 3 d_Keys_demand_88 rfl rfl rfl ?_
          refine r_iload C (q := 91) 1 d_Keys_demand_89 rfl rfl ?_
          refine r_iload C (q := 93) 0 d_Keys_demand_91 rfl rfl ?_
          obtain ⟨r93, s93, hg93, hf⟩ := bd_s hf
          refine r_cVI C (q := 96) (As := [vI (s 36 v3), vI (s 37 v3)]) (k0 := 2) (c_x_Pairs_alikeBy C.i hg93) mt_Pairs_alikeBy ml_Keys_44 (Nat.le_of_ble_eq_true rfl) rfl rfl rfl rfl rfl rfl ⟨Nat.le_of_ble_eq_true rfl, Nat.le_of_ble_eq_true rfl⟩ rfl (Nat.le_of_ble_eq_true rfl) d_Keys_demand_93 rfl ?_
          refine r_iconst C (q := 97) d_Keys_demand_96 rfl ?_
          obtain ⟨g97, hf⟩ := gd_s hf
          refine r_zast C (q := 98) 40 (Nat.le_of_ble_eq_true rfl) (fun _ => rfl) 2 rfl g97 (by decide) (by decide) d_Keys_demand_97 rfl ?_
          exact r_sub [2, 3, 4, 5] rfl (s_x_Keys_demand_98 C hk23 hf)
theorem s_x_Keys_demand_2 {X : CxT} {l : Launch} {G : GG} (C : Cx X l (xW G) 6 prog_5_method_3_code "OneSelf$Keys" (wo y_Keys_demand prog_5_method_3_code 6 none) none rm_x_Keys_demand) {o : Int × St} {N : Nat} {v3 : Int} {k2 : Int → St → MM} (hk2 : ∀ (u3 : Int) (s : St), k2 u3 s = some o → Rj X (xW G) 6 (qV X (xW G) o) 2 [(0, .ref ((xW G).h 11)), (1, .ref ((xW G).h 2)), (2, .ref ((xW G).h 10)), (3, vI u3)] [] s) {s : St} (hf : x_Keys_demand_2 N  k2 v3 s = some o) : Rj X (xW G) 6 (qV X (xW G) o) 2 [(0, .ref ((xW G).h 11)), (1, .ref ((xW G).h 2)), (2, .ref ((xW G).h 10)), (3, vI v3)] [] s := by
  unfold x_Keys_demand_2 at hf
  refine r_iload_n C (q := 3) 3 d_Keys_demand_2 rfl rfl rfl ?_
  refine r_bipush C (q := 5) (x := 63) d_Keys_demand_3 rfl rfl ?_
  refine r_ic_gt C (t := 21) (q := 8) d_Keys_demand_5 (by decide) rfl (fun c5 => ?_) (fun c5 => ?_)
  · replace hf := ite_t c5 hf
    refine r_iconst C (q := 22) d_Keys_demand_21 rfl ?_
    refine r_istore_n C (q := 23) (lv' := [(3, vI 0), (0, .ref ((xW G).h 11)), (1, .ref ((xW G).h 2)), (2, .ref ((xW G).h 10))]) d_Keys_demand_22 rfl (by decide) rfl rfl ?_
    have hL : ∀ (u3 : Int) (z : St), itr (x_Keys_demand_23 N ) (fun _ _ => none) N u3 z = some o → Rj X (xW G) 6 (qV X (xW G) o) 23 [(0, .ref ((xW G).h 11)), (1, .ref ((xW G).h 2)), (2, .ref ((xW G).h 10)), (3, vI u3)] [] z := itr_ind (x_Keys_demand_23 N ) (fun _ _ => none) (fun k => ∀ (u3 : Int) (z : St), k u3 z = some o → Rj X (xW G) 6 (qV X (xW G) o) 23 [(0, .ref ((xW G).h 11)), (1, .ref ((xW G).h 2)), (2, .ref ((xW G).h 10)), (3, vI u3)] [] z) (fun _ _  h => by cases h) (fun k hk u3 z h => s_x_Keys_demand_23 C hk h) N
    exact r_sub [1, 2, 3, 0] rfl (hL _ _  hf)
  · replace hf := ite_f c5 hf
    refine r_aload_n C (q := 9) 0 d_Keys_demand_8 rfl rfl rfl ?_
    refine gxx_Keys_demanded C (q := 12) fl_Keys_15 d_Keys_demand_9 rfl ?_
    refine r_iload_n C (q := 13) 3 d_Keys_demand_12 rfl rfl rfl ?_
    refine r_iconst C (q := 14) d_Keys_demand_13 rfl ?_
    obtain ⟨g14, hf⟩ := gd_s hf
    refine r_zast C (q := 15) 40 (Nat.le_of_ble_eq_true rfl) (fun _ => rfl) 2 rfl g14 (by decide) (by decide) d_Keys_demand_14 rfl ?_
    refine r_iinc C (q := 18) (lv' := [(3, vI (v3 + 1)), (0, .ref ((xW G).h 11)), (1, .ref ((xW G).h 2)), (2, .ref ((xW G).h 10))]) 3 d_Keys_demand_15 rfl (by decide) rfl rfl ?_
    refine r_goto C (q := 2) d_Keys_demand_18 (by decide) ?_
    exact r_sub [1, 2, 3, 0] rfl (hk2 _ _  hf)
theorem c_x_Keys_demand {l : Launch} {G : GG} (hi : wo_i (xW G)) {N : Nat} {s : St} {o : Int × St} (hf : x_Keys_demand N s = some o) : CtV l (xW G) y_Keys_demand (wo y_Keys_demand prog_5_method_3_code 6 none) rm_x_Keys_demand [.ref ((xW G).h 11), .ref ((xW G).h 2), .ref ((xW G).h 10)] s o := by
  refine ct_V (by decide +kernel) hi (Nat.le_of_ble_eq_true rfl) fun X C => ?_
  unfold x_Keys_demand at hf
  show Rj X (xW G) 6 (qV X (xW G) o) 0 [(0, .ref ((xW G).h 11)), (1, .ref ((xW G).h 2)), (2, .ref ((xW G).h 10))] [] s
  refine r_iconst C (q := 1) d_Keys_demand_0 rfl ?_
  refine r_istore_n C (q := 2) (lv' := [(3, vI 0), (0, .ref ((xW G).h 11)), (1, .ref ((xW G).h 2)), (2, .ref ((xW G).h 10))]) d_Keys_demand_1 rfl (by decide) rfl rfl ?_
  have hL : ∀ (u3 : Int) (z : St), itr (x_Keys_demand_2 N ) (fun _ _ => none) N u3 z = some o → Rj X (xW G) 6 (qV X (xW G) o) 2 [(0, .ref ((xW G).h 11)), (1, .ref ((xW G).h 2)), (2, .ref ((xW G).h 10)), (3, vI u3)] [] z := itr_ind (x_Keys_demand_2 N ) (fun _ _ => none) (fun k => ∀ (u3 : Int) (z : St), k u3 z = some o → Rj X (xW G) 6 (qV X (xW G) o) 2 [(0, .ref ((xW G).h 11)), (1, .ref ((xW G).h 2)), (2, .ref ((xW G).h 10)), (3, vI u3)] [] z) (fun _ _  h => by cases h) (fun k hk u3 z h => s_x_Keys_demand_2 C hk h) N
  exact r_sub [1, 2, 3, 0] rfl (hL _ _  hf)
def x_Keys_missNone_25 (N : Nat) (k2 : Int → St → MM) (v1 v2 : Int) (s : St) : MM := k2 (v2 + 1) s
def x_Keys_missNone_2 (N : Nat) (v1 : Int) (k2 : Int → St → MM) (v2 : Int) (s : St) : MM := if lt32 63 v2 then (some (1, s)) else (gd (inb v2 64) (if eq32 (s 40 v2) 0 then (x_Keys_missNone_25 N k2 v1 v2  s) else (if eq32 (an32 v2 v1) 0 then (some (0, s)) else (x_Keys_missNone_25 N k2 v1 v2  s))))
def x_Keys_missNone (N : Nat) (v1 : Int) (s : St) : MM := itr (x_Keys_missNone_2 N v1) (fun _ _ => none) N 0 s
abbrev rm_x_Keys_missNone : Room := { frames := 0, cells := 0, slots := 0, locals := 0 }
theorem s_x_Keys_missNone_25 {X : CxT} {l : Launch} {G : GG} (C : Cx X l (xW G) 3 prog_5_method_5_code "OneSelf$Keys" (wo y_Keys_missNone prog_5_method_5_code 3 (some .boolean)) (some .boolean) rm_x_Keys_missNone) {o : Int × St} {N : Nat} {v1 v2 : Int} {k2 : Int → St → MM} (hk2 : ∀ (u2 : Int) (s : St), k2 u2 s = some o → Rj X (xW G) 3 (qI X (xW G) o) 2 [(0, .ref ((xW G).h 11)), (1, vI v1), (2, vI u2)] [] s) {s : St} (hf : x_Keys_missNone_25 N k2 v1 v2 s = some o) : Rj X (xW G) 3 (qI X (xW G) o) 25 [(0, .ref ((xW G).h 11)), (1, vI v1), (2, vI v2)] [] s := by
  unfold x_Keys_missNone_25 at hf
  refine r_iinc C (q := 28) (lv' := [(2, vI (v2 + 1)), (0, .ref ((xW G).h 11)), (1, vI v1)]) 2 d_Keys_missNone_25 rfl (by decide) rfl rfl ?_
  refine r_goto C (q := 2) d_Keys_missNone_28 (by decide) ?_
  exact r_sub [1, 2, 0] rfl (hk2 _ _  hf)
theorem s_x_Keys_missNone_2 {X : CxT} {l : Launch} {G : GG} (C : Cx X l (xW G) 3 prog_5_method_5_code "OneSelf$Keys" (wo y_Keys_missNone prog_5_method_5_code 3 (some .boolean)) (some .boolean) rm_x_Keys_missNone) {o : Int × St} {N : Nat} {v1 v2 : Int} {k2 : Int → St → MM} (hk2 : ∀ (u2 : Int) (s : St), k2 u2 s = some o → Rj X (xW G) 3 (qI X (xW G) o) 2 [(0, .ref ((xW G).h 11)), (1, vI v1), (2, vI u2)] [] s) {s : St} (hf : x_Keys_missNone_2 N v1 k2 v2 s = some o) : Rj X (xW G) 3 (qI X (xW G) o) 2 [(0, .ref ((xW G).h 11)), (1, vI v1), (2, vI v2)] [] s := by
  unfold x_Keys_missNone_2 at hf
  refine r_iload_n C (q := 3) 2 d_Keys_missNone_2 rfl rfl rfl ?_
  refine r_bipush C (q := 5) (x := 63) d_Keys_missNone_3 rfl rfl ?_
  refine r_ic_gt C (t := 31) (q := 8) d_Keys_missNone_5 (by decide) rfl (fun c5 => ?_) (fun c5 => ?_)
  · replace hf := ite_t c5 hf
    refine r_iconst C (q := 32) d_Keys_missNone_31 rfl ?_
    exact r_zreturn C (by decide) hf d_Keys_missNone_32
  · replace hf := ite_f c5 hf
    refine r_aload_n C (q := 9) 0 d_Keys_missNone_8 rfl rfl rfl ?_
    refine gxx_Keys_demanded C (q := 12) fl_Keys_15 d_Keys_missNone_9 rfl ?_
    refine r_iload_n C (q := 13) 2 d_Keys_missNone_12 rfl rfl rfl ?_
    obtain ⟨g13, hf⟩ := gd_s hf
    refine r_zald C (q := 14) 40 (Nat.le_of_ble_eq_true rfl) (fun _ => rfl) 2 rfl g13 (by decide) d_Keys_missNone_13 rfl ?_
    refine r_if_eq C (t := 25) (q := 17) d_Keys_missNone_14 (by decide) rfl (fun c14 => ?_) (fun c14 => ?_)
    · replace hf := ite_t c14 hf
      exact r_sub [0, 1, 2] rfl (s_x_Keys_missNone_25 C hk2 hf)
    · replace hf := ite_f c14 hf
      refine r_iload_n C (q := 18) 2 d_Keys_missNone_17 rfl rfl rfl ?_
      refine r_iload_n C (q := 19) 1 d_Keys_missNone_18 rfl rfl rfl ?_
      refine r_iand C (q := 20) d_Keys_missNone_19 rfl ?_
      refine r_if_ne C (t := 25) (q := 23) d_Keys_missNone_20 (by decide) rfl (fun c20 => ?_) (fun c20 => ?_)
      · replace hf := ite_t c20 hf
        refine r_iconst C (q := 24) d_Keys_missNone_23 rfl ?_
        exact r_zreturn C (by decide) hf d_Keys_missNone_24
      · replace hf := ite_f c20 hf
        exact r_sub [0, 1, 2] rfl (s_x_Keys_missNone_25 C hk2 hf)
theorem c_x_Keys_missNone {l : Launch} {G : GG} (hi : wo_i (xW G)) {N : Nat} {v1 : Int} {s : St} {o : Int × St} (hf : x_Keys_missNone N v1 s = some o) : CtI l (xW G) y_Keys_missNone (wo y_Keys_missNone prog_5_method_5_code 3 (some .boolean)) rm_x_Keys_missNone [.ref ((xW G).h 11), vI v1] s o := by
  refine ct_I (by decide +kernel) hi (Nat.le_of_ble_eq_true rfl) fun X C => ?_
  unfold x_Keys_missNone at hf
  show Rj X (xW G) 3 (qI X (xW G) o) 0 [(0, .ref ((xW G).h 11)), (1, vI v1)] [] s
  refine r_iconst C (q := 1) d_Keys_missNone_0 rfl ?_
  refine r_istore_n C (q := 2) (lv' := [(2, vI 0), (0, .ref ((xW G).h 11)), (1, vI v1)]) d_Keys_missNone_1 rfl (by decide) rfl rfl ?_
  have hL : ∀ (u2 : Int) (z : St), itr (x_Keys_missNone_2 N v1) (fun _ _ => none) N u2 z = some o → Rj X (xW G) 3 (qI X (xW G) o) 2 [(0, .ref ((xW G).h 11)), (1, vI v1), (2, vI u2)] [] z := itr_ind (x_Keys_missNone_2 N v1) (fun _ _ => none) (fun k => ∀ (u2 : Int) (z : St), k u2 z = some o → Rj X (xW G) 3 (qI X (xW G) o) 2 [(0, .ref ((xW G).h 11)), (1, vI v1), (2, vI u2)] [] z) (fun _ _  h => by cases h) (fun k hk u2 z h => s_x_Keys_missNone_2 C hk h) N
  exact r_sub [1, 2, 0] rfl (hL _ _  hf)
def j_Integer_bitCount (N : Nat) (v0 : Int) (s : St) : MM := some (an32 (((an32 (((an32 (v0 - (an32 (us32 v0 1) 1431655765)) 858993459) + (an32 (us32 (v0 - (an32 (us32 v0 1) 1431655765)) 2) 858993459)) + (us32 ((an32 (v0 - (an32 (us32 v0 1) 1431655765)) 858993459) + (an32 (us32 (v0 - (an32 (us32 v0 1) 1431655765)) 2) 858993459)) 4)) 252645135) + (us32 (an32 (((an32 (v0 - (an32 (us32 v0 1) 1431655765)) 858993459) + (an32 (us32 (v0 - (an32 (us32 v0 1) 1431655765)) 2) 858993459)) + (us32 ((an32 (v0 - (an32 (us32 v0 1) 1431655765)) 858993459) + (an32 (us32 (v0 - (an32 (us32 v0 1) 1431655765)) 2) 858993459)) 4)) 252645135) 8)) + (us32 ((an32 (((an32 (v0 - (an32 (us32 v0 1) 1431655765)) 858993459) + (an32 (us32 (v0 - (an32 (us32 v0 1) 1431655765)) 2) 858993459)) + (us32 ((an32 (v0 - (an32 (us32 v0 1) 1431655765)) 858993459) + (an32 (us32 (v0 - (an32 (us32 v0 1) 1431655765)) 2) 858993459)) 4)) 252645135) + (us32 (an32 (((an32 (v0 - (an32 (us32 v0 1) 1431655765)) 858993459) + (an32 (us32 (v0 - (an32 (us32 v0 1) 1431655765)) 2) 858993459)) + (us32 ((an32 (v0 - (an32 (us32 v0 1) 1431655765)) 858993459) + (an32 (us32 (v0 - (an32 (us32 v0 1) 1431655765)) 2) 858993459)) 4)) 252645135) 8)) 16)) 63, s)
abbrev rm_j_Integer_bitCount : Room := { frames := 0, cells := 0, slots := 0, locals := 0 }
theorem c_j_Integer_bitCount {l : Launch} {w : WoT} (hi : wo_i w) {N : Nat} {v0 : Int} {s : St} {o : Int × St} (hf : j_Integer_bitCount N v0 s = some o) : CtI l w y_Integer_bitCount (wo y_Integer_bitCount prog_15_method_49_code 1 (some .int)) rm_j_Integer_bitCount [vI v0] s o := by
  refine ct_I (by decide +kernel) hi (Nat.le_of_ble_eq_true rfl) fun X C => ?_
  unfold j_Integer_bitCount at hf
  show Rj X w 1 (qI X w o) 0 [(0, vI v0)] [] s
  refine r_iload_n C (q := 1) 0 d_Integer_bitCount_0 rfl rfl rfl ?_
  refine r_iload_n C (q := 2) 0 d_Integer_bitCount_1 rfl rfl rfl ?_
  refine r_iconst C (q := 3) d_Integer_bitCount_2 rfl ?_
  refine r_iushr C (q := 4) d_Integer_bitCount_3 rfl ?_
  refine r_ldcw C (q := 7) (x := 1431655765) kc_Integer_265 rfl d_Integer_bitCount_4 rfl ?_
  refine r_iand C (q := 8) d_Integer_bitCount_7 rfl ?_
  refine r_isub C (q := 9) d_Integer_bitCount_8 rfl ?_
  refine r_istore_n C (q := 10) (lv' := [(0, vI (v0 - (an32 (us32 v0 1) 1431655765)))]) d_Integer_bitCount_9 rfl (by decide) rfl rfl ?_
  refine r_iload_n C (q := 11) 0 d_Integer_bitCount_10 rfl rfl rfl ?_
  refine r_ldcw C (q := 14) (x := 858993459) kc_Integer_266 rfl d_Integer_bitCount_11 rfl ?_
  refine r_iand C (q := 15) d_Integer_bitCount_14 rfl ?_
  refine r_iload_n C (q := 16) 0 d_Integer_bitCount_15 rfl rfl rfl ?_
  refine r_iconst C (q := 17) d_Integer_bitCount_16 rfl ?_
  refine r_iushr C (q := 18) d_Integer_bitCount_17 rfl ?_
  refine r_ldcw C (q := 21) (x := 858993459) kc_Integer_266 rfl d_Integer_bitCount_18 rfl ?_
  refine r_iand C (q := 22) d_Integer_bitCount_21 rfl ?_
  refine r_iadd C (q := 23) d_Integer_bitCount_22 rfl ?_
  refine r_istore_n C (q := 24) (lv' := [(0, vI ((an32 (v0 - (an32 (us32 v0 1) 1431655765)) 858993459) + (an32 (us32 (v0 - (an32 (us32 v0 1) 1431655765)) 2) 858993459)))]) d_Integer_bitCount_23 rfl (by decide) rfl rfl ?_
  refine r_iload_n C (q := 25) 0 d_Integer_bitCount_24 rfl rfl rfl ?_
  refine r_iload_n C (q := 26) 0 d_Integer_bitCount_25 rfl rfl rfl ?_
  refine r_iconst C (q := 27) d_Integer_bitCount_26 rfl ?_
  refine r_iushr C (q := 28) d_Integer_bitCount_27 rfl ?_
  refine r_iadd C (q := 29) d_Integer_bitCount_28 rfl ?_
  refine r_ldcw C (q := 32) (x := 252645135) kc_Integer_267 rfl d_Integer_bitCount_29 rfl ?_
  refine r_iand C (q := 33) d_Integer_bitCount_32 rfl ?_
  refine r_istore_n C (q := 34) (lv' := [(0, vI (an32 (((an32 (v0 - (an32 (us32 v0 1) 1431655765)) 858993459) + (an32 (us32 (v0 - (an32 (us32 v0 1) 1431655765)) 2) 858993459)) + (us32 ((an32 (v0 - (an32 (us32 v0 1) 1431655765)) 858993459) + (an32 (us32 (v0 - (an32 (us32 v0 1) 1431655765)) 2) 858993459)) 4)) 252645135))]) d_Integer_bitCount_33 rfl (by decide) rfl rfl ?_
  refine r_iload_n C (q := 35) 0 d_Integer_bitCount_34 rfl rfl rfl ?_
  refine r_iload_n C (q := 36) 0 d_Integer_bitCount_35 rfl rfl rfl ?_
  refine r_bipush C (q := 38) (x := 8) d_Integer_bitCount_36 rfl rfl ?_
  refine r_iushr C (q := 39) d_Integer_bitCount_38 rfl ?_
  refine r_iadd C (q := 40) d_Integer_bitCount_39 rfl ?_
  refine r_istore_n C (q := 41) (lv' := [(0, vI ((an32 (((an32 (v0 - (an32 (us32 v0 1) 1431655765)) 858993459) + (an32 (us32 (v0 - (an32 (us32 v0 1) 1431655765)) 2) 858993459)) + (us32 ((an32 (v0 - (an32 (us32 v0 1) 1431655765)) 858993459) + (an32 (us32 (v0 - (an32 (us32 v0 1) 1431655765)) 2) 858993459)) 4)) 252645135) + (us32 (an32 (((an32 (v0 - (an32 (us32 v0 1) 1431655765)) 858993459) + (an32 (us32 (v0 - (an32 (us32 v0 1) 1431655765)) 2) 858993459)) + (us32 ((an32 (v0 - (an32 (us32 v0 1) 1431655765)) 858993459) + (an32 (us32 (v0 - (an32 (us32 v0 1) 1431655765)) 2) 858993459)) 4)) 252645135) 8)))]) d_Integer_bitCount_40 rfl (by decide) rfl rfl ?_
  refine r_iload_n C (q := 42) 0 d_Integer_bitCount_41 rfl rfl rfl ?_
  refine r_iload_n C (q := 43) 0 d_Integer_bitCount_42 rfl rfl rfl ?_
  refine r_bipush C (q := 45) (x := 16) d_Integer_bitCount_43 rfl rfl ?_
  refine r_iushr C (q := 46) d_Integer_bitCount_45 rfl ?_
  refine r_iadd C (q := 47) d_Integer_bitCount_46 rfl ?_
  refine r_istore_n C (q := 48) (lv' := [(0, vI (((an32 (((an32 (v0 - (an32 (us32 v0 1) 1431655765)) 858993459) + (an32 (us32 (v0 - (an32 (us32 v0 1) 1431655765)) 2) 858993459)) + (us32 ((an32 (v0 - (an32 (us32 v0 1) 1431655765)) 858993459) + (an32 (us32 (v0 - (an32 (us32 v0 1) 1431655765)) 2) 858993459)) 4)) 252645135) + (us32 (an32 (((an32 (v0 - (an32 (us32 v0 1) 1431655765)) 858993459) + (an32 (us32 (v0 - (an32 (us32 v0 1) 1431655765)) 2) 858993459)) + (us32 ((an32 (v0 - (an32 (us32 v0 1) 1431655765)) 858993459) + (an32 (us32 (v0 - (an32 (us32 v0 1) 1431655765)) 2) 858993459)) 4)) 252645135) 8)) + (us32 ((an32 (((an32 (v0 - (an32 (us32 v0 1) 1431655765)) 858993459) + (an32 (us32 (v0 - (an32 (us32 v0 1) 1431655765)) 2) 858993459)) + (us32 ((an32 (v0 - (an32 (us32 v0 1) 1431655765)) 858993459) + (an32 (us32 (v0 - (an32 (us32 v0 1) 1431655765)) 2) 858993459)) 4)) 252645135) + (us32 (an32 (((an32 (v0 - (an32 (us32 v0 1) 1431655765)) 858993459) + (an32 (us32 (v0 - (an32 (us32 v0 1) 1431655765)) 2) 858993459)) + (us32 ((an32 (v0 - (an32 (us32 v0 1) 1431655765)) 858993459) + (an32 (us32 (v0 - (an32 (us32 v0 1) 1431655765)) 2) 858993459)) 4)) 252645135) 8)) 16)))]) d_Integer_bitCount_47 rfl (by decide) rfl rfl ?_
  refine r_iload_n C (q := 49) 0 d_Integer_bitCount_48 rfl rfl rfl ?_
  refine r_bipush C (q := 51) (x := 63) d_Integer_bitCount_49 rfl rfl ?_
  refine r_iand C (q := 52) d_Integer_bitCount_51 rfl ?_
  exact r_ireturn C hf d_Integer_bitCount_52
def x_Keys_isBetter (N : Nat) (v1 v2 : Int) (s : St) : MM := bd (x_Keys_pairsBy N v2 s) (fun r2 s2 => bd (x_Keys_pairsBy N v1 s2) (fun r7 s7 => if eq32 (r2 - r7) 0 then (bd (j_Integer_bitCount N v1 s7) (fun r27 s27 => bd (j_Integer_bitCount N v2 s27) (fun r31 s31 => if le32 r31 r27 then (some (0, s31)) else (some (1, s31))))) else (if le32 (r2 - r7) 0 then (some (0, s7)) else (some (1, s7)))))
abbrev rm_x_Keys_isBetter : Room := { frames := 1, cells := 0, slots := 0, locals := 23 }
theorem c_x_Keys_isBetter {l : Launch} {G : GG} (hi : wo_i (xW G)) {N : Nat} {v1 v2 : Int} {s : St} {o : Int × St} (hf : x_Keys_isBetter N v1 v2 s = some o) : CtI l (xW G) y_Keys_isBetter (wo y_Keys_isBetter prog_5_method_7_code 4 (some .boolean)) rm_x_Keys_isBetter [.ref ((xW G).h 11), vI v1, vI v2] s o := by
  refine ct_I (by decide +kernel) hi (Nat.le_of_ble_eq_true rfl) fun X C => ?_
  unfold x_Keys_isBetter at hf
  show Rj X (xW G) 4 (qI X (xW G) o) 0 [(0, .ref ((xW G).h 11)), (1, vI v1), (2, vI v2)] [] s
  refine r_aload_n C (q := 1) 0 d_Keys_isBetter_0 rfl rfl rfl ?_
  refine r_iload_n C (q := 2) 2 d_Keys_isBetter_1 rfl rfl rfl ?_
  obtain ⟨r2, s2, hg2, hf⟩ := bd_s hf
  refine r_cVI C (q := 5) (As := [vI v2]) (k0 := 11) (c_x_Keys_pairsBy C.i hg2) mt_Keys_pairsBy ml_Keys_67 (Nat.le_of_ble_eq_true rfl) rfl rfl rfl rfl rfl rfl ⟨Nat.le_of_ble_eq_true rfl, Nat.le_of_ble_eq_true rfl⟩ rfl (Nat.le_of_ble_eq_true rfl) d_Keys_isBetter_2 rfl ?_
  refine r_aload_n C (q := 6) 0 d_Keys_isBetter_5 rfl rfl rfl ?_
  refine r_iload_n C (q := 7) 1 d_Keys_isBetter_6 rfl rfl rfl ?_
  obtain ⟨r7, s7, hg7, hf⟩ := bd_s hf
  refine r_cVI C (q := 10) (As := [vI v1]) (k0 := 11) (c_x_Keys_pairsBy C.i hg7) mt_Keys_pairsBy ml_Keys_67 (Nat.le_of_ble_eq_true rfl) rfl rfl rfl rfl rfl rfl ⟨Nat.le_of_ble_eq_true rfl, Nat.le_of_ble_eq_true rfl⟩ rfl (Nat.le_of_ble_eq_true rfl) d_Keys_isBetter_7 rfl ?_
  refine r_isub C (q := 11) d_Keys_isBetter_10 rfl ?_
  refine r_istore_n C (q := 12) (lv' := [(3, vI (r2 - r7)), (0, .ref ((xW G).h 11)), (1, vI v1), (2, vI v2)]) d_Keys_isBetter_11 rfl (by decide) rfl rfl ?_
  refine r_iload_n C (q := 13) 0 d_Keys_isBetter_12 rfl rfl rfl ?_
  refine r_if_eq C (t := 26) (q := 16) d_Keys_isBetter_13 (by decide) rfl (fun c13 => ?_) (fun c13 => ?_)
  · replace hf := ite_t c13 hf
    refine r_iload_n C (q := 27) 2 d_Keys_isBetter_26 rfl rfl rfl ?_
    obtain ⟨r27, s27, hg27, hf⟩ := bd_s hf
    refine r_cSI C (q := 30) (As := [vI v1]) (c_j_Integer_bitCount C.i hg27) mt_Integer_bitCount ml_Keys_71 rfl rfl rfl ⟨Nat.le_of_ble_eq_true rfl, Nat.le_of_ble_eq_true rfl⟩ rfl (Nat.le_of_ble_eq_true rfl) d_Keys_isBetter_27 rfl ?_
    refine r_iload_n C (q := 31) 3 d_Keys_isBetter_30 rfl rfl rfl ?_
    obtain ⟨r31, s31, hg31, hf⟩ := bd_s hf
    refine r_cSI C (q := 34) (As := [vI v2]) (c_j_Integer_bitCount C.i hg31) mt_Integer_bitCount ml_Keys_71 rfl rfl rfl ⟨Nat.le_of_ble_eq_true rfl, Nat.le_of_ble_eq_true rfl⟩ rfl (Nat.le_of_ble_eq_true rfl) d_Keys_isBetter_31 rfl ?_
    refine r_ic_ge C (t := 41) (q := 37) d_Keys_isBetter_34 (by decide) rfl (fun c34 => ?_) (fun c34 => ?_)
    · replace hf := ite_t c34 hf
      refine r_iconst C (q := 42) d_Keys_isBetter_41 rfl ?_
      exact r_zreturn C (by decide) hf d_Keys_isBetter_42
    · replace hf := ite_f c34 hf
      refine r_iconst C (q := 38) d_Keys_isBetter_37 rfl ?_
      refine r_goto C (q := 42) d_Keys_isBetter_38 (by decide) ?_
      exact r_zreturn C (by decide) hf d_Keys_isBetter_42
  · replace hf := ite_f c13 hf
    refine r_iload_n C (q := 17) 0 d_Keys_isBetter_16 rfl rfl rfl ?_
    refine r_if_le C (t := 24) (q := 20) d_Keys_isBetter_17 (by decide) rfl (fun c17 => ?_) (fun c17 => ?_)
    · replace hf := ite_t c17 hf
      refine r_iconst C (q := 25) d_Keys_isBetter_24 rfl ?_
      exact r_zreturn C (by decide) hf d_Keys_isBetter_25
    · replace hf := ite_f c17 hf
      refine r_iconst C (q := 21) d_Keys_isBetter_20 rfl ?_
      refine r_goto C (q := 25) d_Keys_isBetter_21 (by decide) ?_
      exact r_zreturn C (by decide) hf d_Keys_isBetter_25
def x_Keys_best_34 (N : Nat) (k4 : Int → Int → St → MM) (v1 v2 : Int) (s : St) : MM := k4 v1 (v2 + 1) s
def x_Keys_best_32 (N : Nat) (k4 : Int → Int → St → MM) (v2 : Int) (s : St) : MM := x_Keys_best_34 N k4 v2 v2  s
def x_Keys_best_4 (N : Nat) (k4 : Int → Int → St → MM) (v1 v2 : Int) (s : St) : MM := if lt32 63 v2 then (some (v1, s)) else (bd (x_Keys_missNone N v2 s) (fun r12 s12 => if eq32 r12 0 then (x_Keys_best_34 N k4 v1 v2  s12) else (if eq32 v1 ((-1)) then (x_Keys_best_32 N k4 v2  s12) else (bd (x_Keys_isBetter N v2 v1 s12) (fun r26 s26 => if eq32 r26 0 then (x_Keys_best_34 N k4 v1 v2  s26) else (x_Keys_best_32 N k4 v2  s26))))))
def x_Keys_best (N : Nat) (s : St) : MM := itr (x_Keys_best_4 N ) (fun _ _ _ => none) N ((-1)) 0 s
abbrev rm_x_Keys_best : Room := { frames := 2, cells := 0, slots := 0, locals := 46 }
theorem s_x_Keys_best_34 {X : CxT} {l : Launch} {G : GG} (C : Cx X l (xW G) 3 prog_5_method_6_code "OneSelf$Keys" (wo y_Keys_best prog_5_method_6_code 3 (some .int)) (some .int) rm_x_Keys_best) {o : Int × St} {N : Nat} {v1 v2 : Int} {k4 : Int → Int → St → MM} (hk4 : ∀ (u1 u2 : Int) (s : St), k4 u1 u2 s = some o → Rj X (xW G) 3 (qI X (xW G) o) 4 [(0, .ref ((xW G).h 11)), (1, vI u1), (2, vI u2)] [] s) {s : St} (hf : x_Keys_best_34 N k4 v1 v2 s = some o) : Rj X (xW G) 3 (qI X (xW G) o) 34 [(0, .ref ((xW G).h 11)), (1, vI v1), (2, vI v2)] [] s := by
  unfold x_Keys_best_34 at hf
  refine r_iinc C (q := 37) (lv' := [(2, vI (v2 + 1)), (0, .ref ((xW G).h 11)), (1, vI v1)]) 2 d_Keys_best_34 rfl (by decide) rfl rfl ?_
  refine r_goto C (q := 4) d_Keys_best_37 (by decide) ?_
  exact r_sub [1, 2, 0] rfl (hk4 _ _ _  hf)
theorem s_x_Keys_best_32 {X : CxT} {l : Launch} {G : GG} (C : Cx X l (xW G) 3 prog_5_method_6_code "OneSelf$Keys" (wo y_Keys_best prog_5_method_6_code 3 (some .int)) (some .int) rm_x_Keys_best) {o : Int × St} {N : Nat} {v2 : Int} {k4 : Int → Int → St → MM} (hk4 : ∀ (u1 u2 : Int) (s : St), k4 u1 u2 s = some o → Rj X (xW G) 3 (qI X (xW G) o) 4 [(0, .ref ((xW G).h 11)), (1, vI u1), (2, vI u2)] [] s) {s : St} (hf : x_Keys_best_32 N k4 v2 s = some o) : Rj X (xW G) 3 (qI X (xW G) o) 32 [(0, .ref ((xW G).h 11)), (2, vI v2)] [] s := by
  unfold x_Keys_best_32 at hf
  refine r_iload_n C (q := 33) 1 d_Keys_best_32 rfl rfl rfl ?_
  refine r_istore_n C (q := 34) (lv' := [(1, vI v2), (0, .ref ((xW G).h 11)), (2, vI v2)]) d_Keys_best_33 rfl (by decide) rfl rfl ?_
  exact r_sub [1, 0, 2] rfl (s_x_Keys_best_34 C hk4 hf)
theorem s_x_Keys_best_4 {X : CxT} {l : Launch} {G : GG} (C : Cx X l (xW G) 3 prog_5_method_6_code "OneSelf$Keys" (wo y_Keys_best prog_5_method_6_code 3 (some .int)) (some .int) rm_x_Keys_best) {o : Int × St} {N : Nat} {v1 v2 : Int} {k4 : Int → Int → St → MM} (hk4 : ∀ (u1 u2 : Int) (s : St), k4 u1 u2 s = some o → Rj X (xW G) 3 (qI X (xW G) o) 4 [(0, .ref ((xW G).h 11)), (1, vI u1), (2, vI u2)] [] s) {s : St} (hf : x_Keys_best_4 N  k4 v1 v2 s = some o) : Rj X (xW G) 3 (qI X (xW G) o) 4 [(0, .ref ((xW G).h 11)), (1, vI v1), (2, vI v2)] [] s := by
  unfold x_Keys_best_4 at hf
  refine r_iload_n C (q := 5) 2 d_Keys_best_4 rfl rfl rfl ?_
  refine r_bipush C (q := 7) (x := 63) d_Keys_best_5 rfl rfl ?_
  refine r_ic_gt C (t := 40) (q := 10) d_Keys_best_7 (by decide) rfl (fun c7 => ?_) (fun c7 => ?_)
  · replace hf := ite_t c7 hf
    refine r_iload_n C (q := 41) 1 d_Keys_best_40 rfl rfl rfl ?_
    exact r_ireturn C hf d_Keys_best_41
  · replace hf := ite_f c7 hf
    refine r_aload_n C (q := 11) 0 d_Keys_best_10 rfl rfl rfl ?_
    refine r_iload_n C (q := 12) 2 d_Keys_best_11 rfl rfl rfl ?_
    obtain ⟨r12, s12, hg12, hf⟩ := bd_s hf
    refine r_cVI C (q := 15) (As := [vI v2]) (k0 := 11) (c_x_Keys_missNone C.i hg12) mt_Keys_missNone ml_Keys_60 (Nat.le_of_ble_eq_true rfl) rfl rfl rfl rfl rfl rfl ⟨Nat.le_of_ble_eq_true rfl, Nat.le_of_ble_eq_true rfl⟩ rfl (Nat.le_of_ble_eq_true rfl) d_Keys_best_12 rfl ?_
    refine r_if_eq C (t := 34) (q := 18) d_Keys_best_15 (by decide) rfl (fun c15 => ?_) (fun c15 => ?_)
    · replace hf := ite_t c15 hf
      exact r_sub [0, 1, 2] rfl (s_x_Keys_best_34 C hk4 hf)
    · replace hf := ite_f c15 hf
      refine r_iload_n C (q := 19) 1 d_Keys_best_18 rfl rfl rfl ?_
      refine r_iconst C (q := 20) d_Keys_best_19 rfl ?_
      refine r_ic_eq C (t := 32) (q := 23) d_Keys_best_20 (by decide) rfl (fun c20 => ?_) (fun c20 => ?_)
      · replace hf := ite_t c20 hf
        exact r_sub [0, 2] rfl (s_x_Keys_best_32 C hk4 hf)
      · replace hf := ite_f c20 hf
        refine r_aload_n C (q := 24) 0 d_Keys_best_23 rfl rfl rfl ?_
        refine r_iload_n C (q := 25) 2 d_Keys_best_24 rfl rfl rfl ?_
        refine r_iload_n C (q := 26) 1 d_Keys_best_25 rfl rfl rfl ?_
        obtain ⟨r26, s26, hg26, hf⟩ := bd_s hf
        refine r_cVI C (q := 29) (As := [vI v2, vI v1]) (k0 := 11) (c_x_Keys_isBetter C.i hg26) mt_Keys_isBetter ml_Keys_64 (Nat.le_of_ble_eq_true rfl) rfl rfl rfl rfl rfl rfl ⟨Nat.le_of_ble_eq_true rfl, Nat.le_of_ble_eq_true rfl⟩ rfl (Nat.le_of_ble_eq_true rfl) d_Keys_best_26 rfl ?_
        refine r_if_eq C (t := 34) (q := 32) d_Keys_best_29 (by decide) rfl (fun c29 => ?_) (fun c29 => ?_)
        · replace hf := ite_t c29 hf
          exact r_sub [0, 1, 2] rfl (s_x_Keys_best_34 C hk4 hf)
        · replace hf := ite_f c29 hf
          exact r_sub [0, 2] rfl (s_x_Keys_best_32 C hk4 hf)
theorem c_x_Keys_best {l : Launch} {G : GG} (hi : wo_i (xW G)) {N : Nat} {s : St} {o : Int × St} (hf : x_Keys_best N s = some o) : CtI l (xW G) y_Keys_best (wo y_Keys_best prog_5_method_6_code 3 (some .int)) rm_x_Keys_best [.ref ((xW G).h 11)] s o := by
  refine ct_I (by decide +kernel) hi (Nat.le_of_ble_eq_true rfl) fun X C => ?_
  unfold x_Keys_best at hf
  show Rj X (xW G) 3 (qI X (xW G) o) 0 [(0, .ref ((xW G).h 11))] [] s
  refine r_iconst C (q := 1) d_Keys_best_0 rfl ?_
  refine r_istore_n C (q := 2) (lv' := [(1, vI ((-1))), (0, .ref ((xW G).h 11))]) d_Keys_best_1 rfl (by decide) rfl rfl ?_
  refine r_iconst C (q := 3) d_Keys_best_2 rfl ?_
  refine r_istore_n C (q := 4) (lv' := [(2, vI 0), (1, vI ((-1))), (0, .ref ((xW G).h 11))]) d_Keys_best_3 rfl (by decide) rfl rfl ?_
  have hL : ∀ (u1 u2 : Int) (z : St), itr (x_Keys_best_4 N ) (fun _ _ _ => none) N u1 u2 z = some o → Rj X (xW G) 3 (qI X (xW G) o) 4 [(0, .ref ((xW G).h 11)), (1, vI u1), (2, vI u2)] [] z := itr_ind (x_Keys_best_4 N ) (fun _ _ _ => none) (fun k => ∀ (u1 u2 : Int) (z : St), k u1 u2 z = some o → Rj X (xW G) 3 (qI X (xW G) o) 4 [(0, .ref ((xW G).h 11)), (1, vI u1), (2, vI u2)] [] z) (fun _ _ _  h => by cases h) (fun k hk u1 u2 z h => s_x_Keys_best_4 C hk h) N
  exact r_sub [2, 1, 0] rfl (hL _ _ _  hf)
def x_keys (N : Nat) (s : St) : MM := bd (x_Keys_tally N s) (fun r8 s8 => bd (x_Keys_demand N s8) (fun r23 s23 => bd (x_Keys_best N s23) (fun r30 s30 => some (r30, s30))))
abbrev rm_x_keys : Room := { frames := 4, cells := 0, slots := 0, locals := 95 }
theorem c_x_keys {l : Launch} {G : GG} (hi : wo_i (xW G)) {N : Nat} {s : St} {o : Int × St} (hf : x_keys N s = some o) : CtI l (xW G) y_O_keys (wo y_O_keys prog_1_method_34_code 1 (some .int)) rm_x_keys [.ref ((xW G).h 0)] s o := by
  refine ct_I (by decide +kernel) hi (Nat.le_of_ble_eq_true rfl) fun X C => ?_
  unfold x_keys at hf
  show Rj X (xW G) 1 (qI X (xW G) o) 0 [(0, .ref ((xW G).h 0))] [] s
  refine r_aload_n C (q := 1) 0 d_O_keys_0 rfl rfl rfl ?_
  refine gxx_O_keys C (q := 4) fl_O_74 d_O_keys_1 rfl ?_
  refine r_aload_n C (q := 5) 0 d_O_keys_4 rfl rfl rfl ?_
  refine gxx_O_pairs C (q := 8) fl_O_19 d_O_keys_5 rfl ?_
  obtain ⟨r8, s8, hg8, hf⟩ := bd_s hf
  refine r_cVV C (q := 11) (As := [.ref ((xW G).h 2)]) (k0 := 11) (c_x_Keys_tally C.i hg8) mt_Keys_tally ml_O_305 (Nat.le_of_ble_eq_true rfl) rfl rfl rfl rfl rfl rfl ⟨Nat.le_of_ble_eq_true rfl, Nat.le_of_ble_eq_true rfl⟩ rfl (Nat.le_of_ble_eq_true rfl) d_O_keys_8 rfl ?_
  refine r_aload_n C (q := 12) 0 d_O_keys_11 rfl rfl rfl ?_
  refine gxx_O_keys C (q := 15) fl_O_74 d_O_keys_12 rfl ?_
  refine r_aload_n C (q := 16) 0 d_O_keys_15 rfl rfl rfl ?_
  refine gxx_O_pairs C (q := 19) fl_O_19 d_O_keys_16 rfl ?_
  refine r_aload_n C (q := 20) 0 d_O_keys_19 rfl rfl rfl ?_
  refine gxx_O_checks C (q := 23) fl_O_67 d_O_keys_20 rfl ?_
  obtain ⟨r23, s23, hg23, hf⟩ := bd_s hf
  refine r_cVV C (q := 26) (As := [.ref ((xW G).h 2), .ref ((xW G).h 10)]) (k0 := 11) (c_x_Keys_demand C.i hg23) mt_Keys_demand ml_O_311 (Nat.le_of_ble_eq_true rfl) rfl rfl rfl rfl rfl rfl ⟨Nat.le_of_ble_eq_true rfl, Nat.le_of_ble_eq_true rfl⟩ rfl (Nat.le_of_ble_eq_true rfl) d_O_keys_23 rfl ?_
  refine r_aload_n C (q := 27) 0 d_O_keys_26 rfl rfl rfl ?_
  refine gxx_O_keys C (q := 30) fl_O_74 d_O_keys_27 rfl ?_
  obtain ⟨r30, s30, hg30, hf⟩ := bd_s hf
  refine r_cVI C (q := 33) (As := []) (k0 := 11) (c_x_Keys_best C.i hg30) mt_Keys_best ml_O_315 (Nat.le_of_ble_eq_true rfl) rfl rfl rfl rfl rfl rfl ⟨Nat.le_of_ble_eq_true rfl, Nat.le_of_ble_eq_true rfl⟩ rfl (Nat.le_of_ble_eq_true rfl) d_O_keys_30 rfl ?_
  exact r_ireturn C hf d_O_keys_33
def x_Sheets_isType (N : Nat) (v0 : Int) (s : St) : MM := bd (x_isBelow N v0 3 s) (fun r2 s2 => gd (bit1 r2) (some (r2, s2)))
abbrev rm_x_Sheets_isType : Room := { frames := 1, cells := 0, slots := 0, locals := 21 }
theorem c_x_Sheets_isType {l : Launch} {G : GG} (hi : wo_i (xW G)) {N : Nat} {v0 : Int} {s : St} {o : Int × St} (hf : x_Sheets_isType N v0 s = some o) : CtI l (xW G) y_Sheets_isType (wo y_Sheets_isType prog_9_method_3_code 1 (some .boolean)) rm_x_Sheets_isType [vI v0] s o := by
  refine ct_I (by decide +kernel) hi (Nat.le_of_ble_eq_true rfl) fun X C => ?_
  unfold x_Sheets_isType at hf
  show Rj X (xW G) 1 (qI X (xW G) o) 0 [(0, vI v0)] [] s
  refine r_iload_n C (q := 1) 0 d_Sheets_isType_0 rfl rfl rfl ?_
  refine r_iconst C (q := 2) d_Sheets_isType_1 rfl ?_
  obtain ⟨r2, s2, hg2, hf⟩ := bd_s hf
  refine r_cTI C (q := 5) (As := [vI v0, vI 3]) (c_x_isBelow C.i hg2) mt_O_isBelow mn_Sheets_27 rfl rfl rfl ⟨Nat.le_of_ble_eq_true rfl, Nat.le_of_ble_eq_true rfl⟩ rfl (Nat.le_of_ble_eq_true rfl) d_Sheets_isType_2 rfl ?_
  obtain ⟨g5, hf⟩ := gd_s hf
  exact r_zreturn C g5 hf d_Sheets_isType_5
def x_Sheets_renew_17 (N : Nat) (v1 v3 : Int) (k17 : Int → St → MM) (v4 : Int) (s : St) : MM := if le32 v3 v4 then (some (0, s)) else (gd (inb ((v1 * 40) + v4) 160) (k17 (v4 + 1) (su s 14 ((v1 * 40) + v4) 0)))
def x_Sheets_renew (N : Nat) (v1 v2 v3 : Int) (s : St) : MM := gd (inb v1 4) (gd (inb v1 4) (itr (x_Sheets_renew_17 N v1 v3) (fun _ _ => none) N 0 (su (su s 12 v1 v2) 13 v1 v3)))
abbrev rm_x_Sheets_renew : Room := { frames := 0, cells := 0, slots := 0, locals := 0 }
theorem s_x_Sheets_renew_17 {X : CxT} {l : Launch} {G : GG} (C : Cx X l (xW G) 5 prog_9_method_14_code "OneSelf$Sheets" (wo y_Sheets_renew prog_9_method_14_code 5 none) none rm_x_Sheets_renew) {o : Int × St} {N : Nat} {v1 v3 v4 : Int} {k17 : Int → St → MM} (hk17 : ∀ (u4 : Int) (s : St), k17 u4 s = some o → Rj X (xW G) 5 (qV X (xW G) o) 17 [(0, .ref ((xW G).h 1)), (1, vI v1), (3, vI v3), (4, vI u4)] [] s) {s : St} (hf : x_Sheets_renew_17 N v1 v3 k17 v4 s = some o) : Rj X (xW G) 5 (qV X (xW G) o) 17 [(0, .ref ((xW G).h 1)), (1, vI v1), (3, vI v3), (4, vI v4)] [] s := by
  unfold x_Sheets_renew_17 at hf
  refine r_iload C (q := 19) 3 d_Sheets_renew_17 rfl rfl ?_
  refine r_iload_n C (q := 20) 2 d_Sheets_renew_19 rfl rfl rfl ?_
  refine r_ic_ge C (t := 42) (q := 23) d_Sheets_renew_20 (by decide) rfl (fun c20 => ?_) (fun c20 => ?_)
  · replace hf := ite_t c20 hf
    exact r_return C hf d_Sheets_renew_42
  · replace hf := ite_f c20 hf
    refine r_aload_n C (q := 24) 0 d_Sheets_renew_23 rfl rfl rfl ?_
    refine gxx_Sheets_items C (q := 27) fl_Sheets_18 d_Sheets_renew_24 rfl ?_
    refine r_iload_n C (q := 28) 1 d_Sheets_renew_27 rfl rfl rfl ?_
    refine r_bipush C (q := 30) (x := 40) d_Sheets_renew_28 rfl rfl ?_
    refine r_imul C (q := 31) d_Sheets_renew_30 rfl ?_
    refine r_iload C (q := 33) 3 d_Sheets_renew_31 rfl rfl ?_
    refine r_iadd C (q := 34) d_Sheets_renew_33 rfl ?_
    refine r_iconst C (q := 35) d_Sheets_renew_34 rfl ?_
    obtain ⟨g35, hf⟩ := gd_s hf
    refine r_iast C (q := 36) 14 (Nat.le_of_ble_eq_true rfl) (fun _ => rfl) 0 rfl g35 (by decide) d_Sheets_renew_35 rfl ?_
    refine r_iinc C (q := 39) (lv' := [(4, vI (v4 + 1)), (0, .ref ((xW G).h 1)), (1, vI v1), (3, vI v3)]) 3 d_Sheets_renew_36 rfl (by decide) rfl rfl ?_
    refine r_goto C (q := 17) d_Sheets_renew_39 (by decide) ?_
    exact r_sub [1, 2, 3, 0] rfl (hk17 _ _  hf)
theorem c_x_Sheets_renew {l : Launch} {G : GG} (hi : wo_i (xW G)) {N : Nat} {v1 v2 v3 : Int} {s : St} {o : Int × St} (hf : x_Sheets_renew N v1 v2 v3 s = some o) : CtV l (xW G) y_Sheets_renew (wo y_Sheets_renew prog_9_method_14_code 5 none) rm_x_Sheets_renew [.ref ((xW G).h 1), vI v1, vI v2, vI v3] s o := by
  refine ct_V (by decide +kernel) hi (Nat.le_of_ble_eq_true rfl) fun X C => ?_
  unfold x_Sheets_renew at hf
  show Rj X (xW G) 5 (qV X (xW G) o) 0 [(0, .ref ((xW G).h 1)), (1, vI v1), (2, vI v2), (3, vI v3)] [] s
  refine r_aload_n C (q := 1) 0 d_Sheets_renew_0 rfl rfl rfl ?_
  refine gxx_Sheets_types C (q := 4) fl_Sheets_11 d_Sheets_renew_1 rfl ?_
  refine r_iload_n C (q := 5) 1 d_Sheets_renew_4 rfl rfl rfl ?_
  refine r_iload_n C (q := 6) 2 d_Sheets_renew_5 rfl rfl rfl ?_
  obtain ⟨g6, hf⟩ := gd_s hf
  refine r_iast C (q := 7) 12 (Nat.le_of_ble_eq_true rfl) (fun _ => rfl) 0 rfl g6 (by decide) d_Sheets_renew_6 rfl ?_
  refine r_aload_n C (q := 8) 0 d_Sheets_renew_7 rfl rfl rfl ?_
  refine gxx_Sheets_sizes C (q := 11) fl_Sheets_15 d_Sheets_renew_8 rfl ?_
  refine r_iload_n C (q := 12) 1 d_Sheets_renew_11 rfl rfl rfl ?_
  refine r_iload_n C (q := 13) 3 d_Sheets_renew_12 rfl rfl rfl ?_
  obtain ⟨g13, hf⟩ := gd_s hf
  refine r_iast C (q := 14) 13 (Nat.le_of_ble_eq_true rfl) (fun _ => rfl) 0 rfl g13 (by decide) d_Sheets_renew_13 rfl ?_
  refine r_iconst C (q := 15) d_Sheets_renew_14 rfl ?_
  refine r_istore C (q := 17) (lv' := [(4, vI 0), (0, .ref ((xW G).h 1)), (1, vI v1), (2, vI v2), (3, vI v3)]) d_Sheets_renew_15 (by decide) rfl rfl ?_
  have hL : ∀ (u4 : Int) (z : St), itr (x_Sheets_renew_17 N v1 v3) (fun _ _ => none) N u4 z = some o → Rj X (xW G) 5 (qV X (xW G) o) 17 [(0, .ref ((xW G).h 1)), (1, vI v1), (3, vI v3), (4, vI u4)] [] z := itr_ind (x_Sheets_renew_17 N v1 v3) (fun _ _ => none) (fun k => ∀ (u4 : Int) (z : St), k u4 z = some o → Rj X (xW G) 5 (qV X (xW G) o) 17 [(0, .ref ((xW G).h 1)), (1, vI v1), (3, vI v3), (4, vI u4)] [] z) (fun _ _  h => by cases h) (fun k hk u4 z h => s_x_Sheets_renew_17 C hk h) N
  exact r_sub [1, 2, 4, 0] rfl (hL _ _  hf)
def x_sheet (N : Nat) (v1 v2 v3 : Int) (s : St) : MM := bd (x_Sheets_isSheet N v1 s) (fun r1 s1 => if eq32 r1 0 then (some ((-2), s1)) else (bd (x_Sheets_isType N v2 s1) (fun r8 s8 => if eq32 r8 0 then (some ((-2), s8)) else (if le32 v3 40 then (if le32 0 v3 then (bd (x_Sheets_renew N v1 v2 v3 s8) (fun r43 s43 => some (v3, s43))) else (bd (x_Sheets_noteFinding N 5 s8) (fun r32 s32 => some (r32, s32)))) else (some ((-2), s8))))))
abbrev rm_x_sheet : Room := { frames := 2, cells := 0, slots := 0, locals := 41 }
theorem c_x_sheet {l : Launch} {G : GG} (hi : wo_i (xW G)) {N : Nat} {v1 v2 v3 : Int} {s : St} {o : Int × St} (hf : x_sheet N v1 v2 v3 s = some o) : CtI l (xW G) y_O_sheet (wo y_O_sheet prog_1_method_35_code 4 (some .int)) rm_x_sheet [.ref ((xW G).h 0), vI v1, vI v2, vI v3] s o := by
  refine ct_I (by decide +kernel) hi (Nat.le_of_ble_eq_true rfl) fun X C => ?_
  unfold x_sheet at hf
  show Rj X (xW G) 4 (qI X (xW G) o) 0 [(0, .ref ((xW G).h 0)), (1, vI v1), (2, vI v2), (3, vI v3)] [] s
  refine r_iload_n C (q := 1) 1 d_O_sheet_0 rfl rfl rfl ?_
  obtain ⟨r1, s1, hg1, hf⟩ := bd_s hf
  refine r_cSI C (q := 4) (As := [vI v1]) (c_x_Sheets_isSheet C.i hg1) mt_Sheets_isSheet ml_O_92 rfl rfl rfl ⟨Nat.le_of_ble_eq_true rfl, Nat.le_of_ble_eq_true rfl⟩ rfl (Nat.le_of_ble_eq_true rfl) d_O_sheet_1 rfl ?_
  refine r_if_eq C (t := 20) (q := 7) d_O_sheet_4 (by decide) rfl (fun c4 => ?_) (fun c4 => ?_)
  · replace hf := ite_t c4 hf
    refine r_bipush C (q := 22) (x := (-2)) d_O_sheet_20 rfl rfl ?_
    exact r_ireturn C hf d_O_sheet_22
  · replace hf := ite_f c4 hf
    refine r_iload_n C (q := 8) 2 d_O_sheet_7 rfl rfl rfl ?_
    obtain ⟨r8, s8, hg8, hf⟩ := bd_s hf
    refine r_cSI C (q := 11) (As := [vI v2]) (c_x_Sheets_isType C.i hg8) mt_Sheets_isType ml_O_318 rfl rfl rfl ⟨Nat.le_of_ble_eq_true rfl, Nat.le_of_ble_eq_true rfl⟩ rfl (Nat.le_of_ble_eq_true rfl) d_O_sheet_8 rfl ?_
    refine r_if_eq C (t := 20) (q := 14) d_O_sheet_11 (by decide) rfl (fun c11 => ?_) (fun c11 => ?_)
    · replace hf := ite_t c11 hf
      refine r_bipush C (q := 22) (x := (-2)) d_O_sheet_20 rfl rfl ?_
      exact r_ireturn C hf d_O_sheet_22
    · replace hf := ite_f c11 hf
      refine r_iload_n C (q := 15) 3 d_O_sheet_14 rfl rfl rfl ?_
      refine r_bipush C (q := 17) (x := 40) d_O_sheet_15 rfl rfl ?_
      refine r_ic_le C (t := 23) (q := 20) d_O_sheet_17 (by decide) rfl (fun c17 => ?_) (fun c17 => ?_)
      · replace hf := ite_t c17 hf
        refine r_iload_n C (q := 24) 3 d_O_sheet_23 rfl rfl rfl ?_
        refine r_if_ge C (t := 36) (q := 27) d_O_sheet_24 (by decide) rfl (fun c24 => ?_) (fun c24 => ?_)
        · replace hf := ite_t c24 hf
          refine r_aload_n C (q := 37) 0 d_O_sheet_36 rfl rfl rfl ?_
          refine gxx_O_sheets C (q := 40) fl_O_10 d_O_sheet_37 rfl ?_
          refine r_iload_n C (q := 41) 1 d_O_sheet_40 rfl rfl rfl ?_
          refine r_iload_n C (q := 42) 2 d_O_sheet_41 rfl rfl rfl ?_
          refine r_iload_n C (q := 43) 3 d_O_sheet_42 rfl rfl rfl ?_
          obtain ⟨r43, s43, hg43, hf⟩ := bd_s hf
          refine r_cVV C (q := 46) (As := [vI v1, vI v2, vI v3]) (k0 := 1) (c_x_Sheets_renew C.i hg43) mt_Sheets_renew ml_O_321 (Nat.le_of_ble_eq_true rfl) rfl rfl rfl rfl rfl rfl ⟨Nat.le_of_ble_eq_true rfl, Nat.le_of_ble_eq_true rfl⟩ rfl (Nat.le_of_ble_eq_true rfl) d_O_sheet_43 rfl ?_
          refine r_iload_n C (q := 47) 3 d_O_sheet_46 rfl rfl rfl ?_
          exact r_ireturn C hf d_O_sheet_47
        · replace hf := ite_f c24 hf
          refine r_aload_n C (q := 28) 0 d_O_sheet_27 rfl rfl rfl ?_
          refine gxx_O_sheets C (q := 31) fl_O_10 d_O_sheet_28 rfl ?_
          refine r_iconst C (q := 32) d_O_sheet_31 rfl ?_
          obtain ⟨r32, s32, hg32, hf⟩ := bd_s hf
          refine r_cVI C (q := 35) (As := [vI 5]) (k0 := 1) (c_x_Sheets_noteFinding C.i hg32) mt_Sheets_noteFinding ml_O_102 (Nat.le_of_ble_eq_true rfl) rfl rfl rfl rfl rfl rfl ⟨Nat.le_of_ble_eq_true rfl, Nat.le_of_ble_eq_true rfl⟩ rfl (Nat.le_of_ble_eq_true rfl) d_O_sheet_32 rfl ?_
          exact r_ireturn C hf d_O_sheet_35
      · replace hf := ite_f c17 hf
        refine r_bipush C (q := 22) (x := (-2)) d_O_sheet_20 rfl rfl ?_
        exact r_ireturn C hf d_O_sheet_22
def x_Sheets_forget (N : Nat) (v1 : Int) (s : St) : MM := gd (inb v1 4) (gd (inb v1 4) (some ((su s 12 v1 ((-1))) 13 v1, su s 12 v1 ((-1)))))
abbrev rm_x_Sheets_forget : Room := { frames := 0, cells := 0, slots := 0, locals := 0 }
theorem c_x_Sheets_forget {l : Launch} {G : GG} (hi : wo_i (xW G)) {N : Nat} {v1 : Int} {s : St} {o : Int × St} (hf : x_Sheets_forget N v1 s = some o) : CtI l (xW G) y_Sheets_forget (wo y_Sheets_forget prog_9_method_15_code 2 (some .int)) rm_x_Sheets_forget [.ref ((xW G).h 1), vI v1] s o := by
  refine ct_I (by decide +kernel) hi (Nat.le_of_ble_eq_true rfl) fun X C => ?_
  unfold x_Sheets_forget at hf
  show Rj X (xW G) 2 (qI X (xW G) o) 0 [(0, .ref ((xW G).h 1)), (1, vI v1)] [] s
  refine r_aload_n C (q := 1) 0 d_Sheets_forget_0 rfl rfl rfl ?_
  refine gxx_Sheets_types C (q := 4) fl_Sheets_11 d_Sheets_forget_1 rfl ?_
  refine r_iload_n C (q := 5) 1 d_Sheets_forget_4 rfl rfl rfl ?_
  refine r_iconst C (q := 6) d_Sheets_forget_5 rfl ?_
  obtain ⟨g6, hf⟩ := gd_s hf
  refine r_iast C (q := 7) 12 (Nat.le_of_ble_eq_true rfl) (fun _ => rfl) 0 rfl g6 (by decide) d_Sheets_forget_6 rfl ?_
  refine r_aload_n C (q := 8) 0 d_Sheets_forget_7 rfl rfl rfl ?_
  refine gxx_Sheets_sizes C (q := 11) fl_Sheets_15 d_Sheets_forget_8 rfl ?_
  refine r_iload_n C (q := 12) 1 d_Sheets_forget_11 rfl rfl rfl ?_
  obtain ⟨g12, hf⟩ := gd_s hf
  refine r_iald C (q := 13) 13 (Nat.le_of_ble_eq_true rfl) (fun _ => rfl) 0 rfl g12 (by decide) d_Sheets_forget_12 rfl ?_
  exact r_ireturn C hf d_Sheets_forget_13
def x_lose (N : Nat) (v1 : Int) (s : St) : MM := bd (x_Sheets_isSheet N v1 s) (fun r1 s1 => if eq32 r1 0 then (some ((-2), s1)) else (bd (x_Sheets_isLost N v1 s1) (fun r15 s15 => if eq32 r15 0 then (bd (x_Sheets_forget N v1 s15) (fun r35 s35 => some (r35, s35))) else (bd (x_Sheets_noteFinding N 1 s15) (fun r26 s26 => some (r26, s26))))))
abbrev rm_x_lose : Room := { frames := 2, cells := 0, slots := 0, locals := 41 }
theorem c_x_lose {l : Launch} {G : GG} (hi : wo_i (xW G)) {N : Nat} {v1 : Int} {s : St} {o : Int × St} (hf : x_lose N v1 s = some o) : CtI l (xW G) y_O_lose (wo y_O_lose prog_1_method_36_code 2 (some .int)) rm_x_lose [.ref ((xW G).h 0), vI v1] s o := by
  refine ct_I (by decide +kernel) hi (Nat.le_of_ble_eq_true rfl) fun X C => ?_
  unfold x_lose at hf
  show Rj X (xW G) 2 (qI X (xW G) o) 0 [(0, .ref ((xW G).h 0)), (1, vI v1)] [] s
  refine r_iload_n C (q := 1) 1 d_O_lose_0 rfl rfl rfl ?_
  obtain ⟨r1, s1, hg1, hf⟩ := bd_s hf
  refine r_cSI C (q := 4) (As := [vI v1]) (c_x_Sheets_isSheet C.i hg1) mt_Sheets_isSheet ml_O_92 rfl rfl rfl ⟨Nat.le_of_ble_eq_true rfl, Nat.le_of_ble_eq_true rfl⟩ rfl (Nat.le_of_ble_eq_true rfl) d_O_lose_1 rfl ?_
  refine r_if_ne C (t := 10) (q := 7) d_O_lose_4 (by decide) rfl (fun c4 => ?_) (fun c4 => ?_)
  · replace hf := ite_t c4 hf
    refine r_bipush C (q := 9) (x := (-2)) d_O_lose_7 rfl rfl ?_
    exact r_ireturn C hf d_O_lose_9
  · replace hf := ite_f c4 hf
    refine r_aload_n C (q := 11) 0 d_O_lose_10 rfl rfl rfl ?_
    refine gxx_O_sheets C (q := 14) fl_O_10 d_O_lose_11 rfl ?_
    refine r_iload_n C (q := 15) 1 d_O_lose_14 rfl rfl rfl ?_
    obtain ⟨r15, s15, hg15, hf⟩ := bd_s hf
    refine r_cVI C (q := 18) (As := [vI v1]) (k0 := 1) (c_x_Sheets_isLost C.i hg15) mt_Sheets_isLost ml_O_99 (Nat.le_of_ble_eq_true rfl) rfl rfl rfl rfl rfl rfl ⟨Nat.le_of_ble_eq_true rfl, Nat.le_of_ble_eq_true rfl⟩ rfl (Nat.le_of_ble_eq_true rfl) d_O_lose_15 rfl ?_
    refine r_if_eq C (t := 30) (q := 21) d_O_lose_18 (by decide) rfl (fun c18 => ?_) (fun c18 => ?_)
    · replace hf := ite_t c18 hf
      refine r_aload_n C (q := 31) 0 d_O_lose_30 rfl rfl rfl ?_
      refine gxx_O_sheets C (q := 34) fl_O_10 d_O_lose_31 rfl ?_
      refine r_iload_n C (q := 35) 1 d_O_lose_34 rfl rfl rfl ?_
      obtain ⟨r35, s35, hg35, hf⟩ := bd_s hf
      refine r_cVI C (q := 38) (As := [vI v1]) (k0 := 1) (c_x_Sheets_forget C.i hg35) mt_Sheets_forget ml_O_325 (Nat.le_of_ble_eq_true rfl) rfl rfl rfl rfl rfl rfl ⟨Nat.le_of_ble_eq_true rfl, Nat.le_of_ble_eq_true rfl⟩ rfl (Nat.le_of_ble_eq_true rfl) d_O_lose_35 rfl ?_
      exact r_ireturn C hf d_O_lose_38
    · replace hf := ite_f c18 hf
      refine r_aload_n C (q := 22) 0 d_O_lose_21 rfl rfl rfl ?_
      refine gxx_O_sheets C (q := 25) fl_O_10 d_O_lose_22 rfl ?_
      refine r_iconst C (q := 26) d_O_lose_25 rfl ?_
      obtain ⟨r26, s26, hg26, hf⟩ := bd_s hf
      refine r_cVI C (q := 29) (As := [vI 1]) (k0 := 1) (c_x_Sheets_noteFinding C.i hg26) mt_Sheets_noteFinding ml_O_102 (Nat.le_of_ble_eq_true rfl) rfl rfl rfl rfl rfl rfl ⟨Nat.le_of_ble_eq_true rfl, Nat.le_of_ble_eq_true rfl⟩ rfl (Nat.le_of_ble_eq_true rfl) d_O_lose_26 rfl ?_
      exact r_ireturn C hf d_O_lose_29
def x_Sheets_hindrance (N : Nat) (v1 v2 v3 : Int) (s : St) : MM := bd (x_Sheets_isLost N v1 s) (fun r2 s2 => if eq32 r2 0 then (gd (inb v1 4) (if eq32 (s2 12 v1) v2 then (gd (inb v1 4) (bd (x_isBelow N v3 (s2 13 v1) s2) (fun r29 s29 => if eq32 r29 0 then (some (2, s29)) else (some (0, s29))))) else (some (3, s2)))) else (some (1, s2)))
abbrev rm_x_Sheets_hindrance : Room := { frames := 1, cells := 0, slots := 0, locals := 21 }
theorem c_x_Sheets_hindrance {l : Launch} {G : GG} (hi : wo_i (xW G)) {N : Nat} {v1 v2 v3 : Int} {s : St} {o : Int × St} (hf : x_Sheets_hindrance N v1 v2 v3 s = some o) : CtI l (xW G) y_Sheets_hindrance (wo y_Sheets_hindrance prog_9_method_9_code 4 (some .int)) rm_x_Sheets_hindrance [.ref ((xW G).h 1), vI v1, vI v2, vI v3] s o := by
  refine ct_I (by decide +kernel) hi (Nat.le_of_ble_eq_true rfl) fun X C => ?_
  unfold x_Sheets_hindrance at hf
  show Rj X (xW G) 4 (qI X (xW G) o) 0 [(0, .ref ((xW G).h 1)), (1, vI v1), (2, vI v2), (3, vI v3)] [] s
  refine r_aload_n C (q := 1) 0 d_Sheets_hindrance_0 rfl rfl rfl ?_
  refine r_iload_n C (q := 2) 1 d_Sheets_hindrance_1 rfl rfl rfl ?_
  obtain ⟨r2, s2, hg2, hf⟩ := bd_s hf
  refine r_cVI C (q := 5) (As := [vI v1]) (k0 := 1) (c_x_Sheets_isLost C.i hg2) mt_Sheets_isLost ml_Sheets_39 (Nat.le_of_ble_eq_true rfl) rfl rfl rfl rfl rfl rfl ⟨Nat.le_of_ble_eq_true rfl, Nat.le_of_ble_eq_true rfl⟩ rfl (Nat.le_of_ble_eq_true rfl) d_Sheets_hindrance_2 rfl ?_
  refine r_if_eq C (t := 10) (q := 8) d_Sheets_hindrance_5 (by decide) rfl (fun c5 => ?_) (fun c5 => ?_)
  · replace hf := ite_t c5 hf
    refine r_aload_n C (q := 11) 0 d_Sheets_hindrance_10 rfl rfl rfl ?_
    refine gxx_Sheets_types C (q := 14) fl_Sheets_11 d_Sheets_hindrance_11 rfl ?_
    refine r_iload_n C (q := 15) 1 d_Sheets_hindrance_14 rfl rfl rfl ?_
    obtain ⟨g15, hf⟩ := gd_s hf
    refine r_iald C (q := 16) 12 (Nat.le_of_ble_eq_true rfl) (fun _ => rfl) 0 rfl g15 (by decide) d_Sheets_hindrance_15 rfl ?_
    refine r_iload_n C (q := 17) 2 d_Sheets_hindrance_16 rfl rfl rfl ?_
    refine r_ic_eq C (t := 22) (q := 20) d_Sheets_hindrance_17 (by decide) rfl (fun c17 => ?_) (fun c17 => ?_)
    · replace hf := ite_t c17 hf
      refine r_iload_n C (q := 23) 3 d_Sheets_hindrance_22 rfl rfl rfl ?_
      refine r_aload_n C (q := 24) 0 d_Sheets_hindrance_23 rfl rfl rfl ?_
      refine gxx_Sheets_sizes C (q := 27) fl_Sheets_15 d_Sheets_hindrance_24 rfl ?_
      refine r_iload_n C (q := 28) 1 d_Sheets_hindrance_27 rfl rfl rfl ?_
      obtain ⟨g28, hf⟩ := gd_s hf
      refine r_iald C (q := 29) 13 (Nat.le_of_ble_eq_true rfl) (fun _ => rfl) 0 rfl g28 (by decide) d_Sheets_hindrance_28 rfl ?_
      obtain ⟨r29, s29, hg29, hf⟩ := bd_s hf
      refine r_cTI C (q := 32) (As := [vI v3, vI (s2 13 v1)]) (c_x_isBelow C.i hg29) mt_O_isBelow mn_Sheets_27 rfl rfl rfl ⟨Nat.le_of_ble_eq_true rfl, Nat.le_of_ble_eq_true rfl⟩ rfl (Nat.le_of_ble_eq_true rfl) d_Sheets_hindrance_29 rfl ?_
      refine r_if_eq C (t := 39) (q := 35) d_Sheets_hindrance_32 (by decide) rfl (fun c32 => ?_) (fun c32 => ?_)
      · replace hf := ite_t c32 hf
        refine r_iconst C (q := 40) d_Sheets_hindrance_39 rfl ?_
        exact r_ireturn C hf d_Sheets_hindrance_40
      · replace hf := ite_f c32 hf
        refine r_iconst C (q := 36) d_Sheets_hindrance_35 rfl ?_
        refine r_goto C (q := 40) d_Sheets_hindrance_36 (by decide) ?_
        exact r_ireturn C hf d_Sheets_hindrance_40
    · replace hf := ite_f c17 hf
      refine r_iconst C (q := 21) d_Sheets_hindrance_20 rfl ?_
      exact r_ireturn C hf d_Sheets_hindrance_21
  · replace hf := ite_f c5 hf
    refine r_iconst C (q := 9) d_Sheets_hindrance_8 rfl ?_
    exact r_ireturn C hf d_Sheets_hindrance_9
def x_Sheets_setItem_33 (N : Nat) (v1 v2 v4 : Int) (s : St) : MM := gd (inb ((v1 * 40) + v2) 160) (some (0, su s 14 ((v1 * 40) + v2) v4))
def x_Sheets_setItem (N : Nat) (v1 v2 v3 : Int) (s : St) : MM := gd (inb v1 4) (if eq32 (s 12 v1) 0 then (x_Sheets_setItem_33 N v1 v2 (i8 v3)  s) else (gd (inb v1 4) (if eq32 (s 12 v1) 1 then (x_Sheets_setItem_33 N v1 v2 (i16 v3)  s) else (x_Sheets_setItem_33 N v1 v2 v3  s))))
abbrev rm_x_Sheets_setItem : Room := { frames := 0, cells := 0, slots := 0, locals := 0 }
theorem s_x_Sheets_setItem_33 {X : CxT} {l : Launch} {G : GG} (C : Cx X l (xW G) 5 prog_9_method_12_code "OneSelf$Sheets" (wo y_Sheets_setItem prog_9_method_12_code 5 none) none rm_x_Sheets_setItem) {o : Int × St} {N : Nat} {v1 v2 v4 : Int} {s : St} (hf : x_Sheets_setItem_33 N v1 v2 v4 s = some o) : Rj X (xW G) 5 (qV X (xW G) o) 33 [(0, .ref ((xW G).h 1)), (1, vI v1), (2, vI v2), (4, vI v4)] [] s := by
  unfold x_Sheets_setItem_33 at hf
  refine r_aload_n C (q := 34) 0 d_Sheets_setItem_33 rfl rfl rfl ?_
  refine gxx_Sheets_items C (q := 37) fl_Sheets_18 d_Sheets_setItem_34 rfl ?_
  refine r_iload_n C (q := 38) 1 d_Sheets_setItem_37 rfl rfl rfl ?_
  refine r_bipush C (q := 40) (x := 40) d_Sheets_setItem_38 rfl rfl ?_
  refine r_imul C (q := 41) d_Sheets_setItem_40 rfl ?_
  refine r_iload_n C (q := 42) 2 d_Sheets_setItem_41 rfl rfl rfl ?_
  refine r_iadd C (q := 43) d_Sheets_setItem_42 rfl ?_
  refine r_iload C (q := 45) 3 d_Sheets_setItem_43 rfl rfl ?_
  obtain ⟨g45, hf⟩ := gd_s hf
  refine r_iast C (q := 46) 14 (Nat.le_of_ble_eq_true rfl) (fun _ => rfl) 0 rfl g45 (by decide) d_Sheets_setItem_45 rfl ?_
  exact r_return C hf d_Sheets_setItem_46
theorem c_x_Sheets_setItem {l : Launch} {G : GG} (hi : wo_i (xW G)) {N : Nat} {v1 v2 v3 : Int} {s : St} {o : Int × St} (hf : x_Sheets_setItem N v1 v2 v3 s = some o) : CtV l (xW G) y_Sheets_setItem (wo y_Sheets_setItem prog_9_method_12_code 5 none) rm_x_Sheets_setItem [.ref ((xW G).h 1), vI v1, vI v2, vI v3] s o := by
  refine ct_V (by decide +kernel) hi (Nat.le_of_ble_eq_true rfl) fun X C => ?_
  unfold x_Sheets_setItem at hf
  show Rj X (xW G) 5 (qV X (xW G) o) 0 [(0, .ref ((xW G).h 1)), (1, vI v1), (2, vI v2), (3, vI v3)] [] s
  refine r_iload_n C (q := 1) 3 d_Sheets_setItem_0 rfl rfl rfl ?_
  refine r_istore C (q := 3) (lv' := [(4, vI v3), (0, .ref ((xW G).h 1)), (1, vI v1), (2, vI v2), (3, vI v3)]) d_Sheets_setItem_1 (by decide) rfl rfl ?_
  refine r_aload_n C (q := 4) 1 d_Sheets_setItem_3 rfl rfl rfl ?_
  refine gxx_Sheets_types C (q := 7) fl_Sheets_11 d_Sheets_setItem_4 rfl ?_
  refine r_iload_n C (q := 8) 2 d_Sheets_setItem_7 rfl rfl rfl ?_
  obtain ⟨g8, hf⟩ := gd_s hf
  refine r_iald C (q := 9) 12 (Nat.le_of_ble_eq_true rfl) (fun _ => rfl) 0 rfl g8 (by decide) d_Sheets_setItem_8 rfl ?_
  refine r_if_ne C (t := 19) (q := 12) d_Sheets_setItem_9 (by decide) rfl (fun c9 => ?_) (fun c9 => ?_)
  · replace hf := ite_t c9 hf
    refine r_iload_n C (q := 13) 4 d_Sheets_setItem_12 rfl rfl rfl ?_
    refine r_i2b C (q := 14) d_Sheets_setItem_13 rfl ?_
    refine r_istore C (q := 16) (lv' := [(4, vI (i8 v3)), (0, .ref ((xW G).h 1)), (1, vI v1), (2, vI v2), (3, vI v3)]) d_Sheets_setItem_14 (by decide) rfl rfl ?_
    refine r_goto C (q := 33) d_Sheets_setItem_16 (by decide) ?_
    exact r_sub [1, 2, 3, 0] rfl (s_x_Sheets_setItem_33 C hf)
  · replace hf := ite_f c9 hf
    refine r_aload_n C (q := 20) 1 d_Sheets_setItem_19 rfl rfl rfl ?_
    refine gxx_Sheets_types C (q := 23) fl_Sheets_11 d_Sheets_setItem_20 rfl ?_
    refine r_iload_n C (q := 24) 2 d_Sheets_setItem_23 rfl rfl rfl ?_
    obtain ⟨g24, hf⟩ := gd_s hf
    refine r_iald C (q := 25) 12 (Nat.le_of_ble_eq_true rfl) (fun _ => rfl) 0 rfl g24 (by decide) d_Sheets_setItem_24 rfl ?_
    refine r_iconst C (q := 26) d_Sheets_setItem_25 rfl ?_
    refine r_ic_ne C (t := 33) (q := 29) d_Sheets_setItem_26 (by decide) rfl (fun c26 => ?_) (fun c26 => ?_)
    · replace hf := ite_t c26 hf
      refine r_iload_n C (q := 30) 4 d_Sheets_setItem_29 rfl rfl rfl ?_
      refine r_i2s C (q := 31) d_Sheets_setItem_30 rfl ?_
      refine r_istore C (q := 33) (lv' := [(4, vI (i16 v3)), (0, .ref ((xW G).h 1)), (1, vI v1), (2, vI v2), (3, vI v3)]) d_Sheets_setItem_31 (by decide) rfl rfl ?_
      exact r_sub [1, 2, 3, 0] rfl (s_x_Sheets_setItem_33 C hf)
    · replace hf := ite_f c26 hf
      exact r_sub [1, 2, 3, 0] rfl (s_x_Sheets_setItem_33 C hf)
def x_put (N : Nat) (v1 v2 v3 v4 : Int) (s : St) : MM := bd (x_Sheets_isSheet N v1 s) (fun r1 s1 => if eq32 r1 0 then (some ((-2), s1)) else (bd (x_Sheets_isType N v2 s1) (fun r8 s8 => if eq32 r8 0 then (some ((-2), s8)) else (bd (x_Sheets_hindrance N v1 v2 v3 s8) (fun r24 s24 => if eq32 r24 0 then (bd (x_Sheets_setItem N v1 v3 v4 s24) (fun r52 s52 => some (1, s52))) else (bd (x_Sheets_noteFinding N r24 s24) (fun r40 s40 => some (r40, s40))))))))
abbrev rm_x_put : Room := { frames := 2, cells := 0, slots := 0, locals := 44 }
theorem c_x_put {l : Launch} {G : GG} (hi : wo_i (xW G)) {N : Nat} {v1 v2 v3 v4 : Int} {s : St} {o : Int × St} (hf : x_put N v1 v2 v3 v4 s = some o) : CtI l (xW G) y_O_put (wo y_O_put prog_1_method_37_code 6 (some .int)) rm_x_put [.ref ((xW G).h 0), vI v1, vI v2, vI v3, vI v4] s o := by
  refine ct_I (by decide +kernel) hi (Nat.le_of_ble_eq_true rfl) fun X C => ?_
  unfold x_put at hf
  show Rj X (xW G) 6 (qI X (xW G) o) 0 [(0, .ref ((xW G).h 0)), (1, vI v1), (2, vI v2), (3, vI v3), (4, vI v4)] [] s
  refine r_iload_n C (q := 1) 1 d_O_put_0 rfl rfl rfl ?_
  obtain ⟨r1, s1, hg1, hf⟩ := bd_s hf
  refine r_cSI C (q := 4) (As := [vI v1]) (c_x_Sheets_isSheet C.i hg1) mt_Sheets_isSheet ml_O_92 rfl rfl rfl ⟨Nat.le_of_ble_eq_true rfl, Nat.le_of_ble_eq_true rfl⟩ rfl (Nat.le_of_ble_eq_true rfl) d_O_put_1 rfl ?_
  refine r_if_eq C (t := 14) (q := 7) d_O_put_4 (by decide) rfl (fun c4 => ?_) (fun c4 => ?_)
  · replace hf := ite_t c4 hf
    refine r_bipush C (q := 16) (x := (-2)) d_O_put_14 rfl rfl ?_
    exact r_ireturn C hf d_O_put_16
  · replace hf := ite_f c4 hf
    refine r_iload_n C (q := 8) 2 d_O_put_7 rfl rfl rfl ?_
    obtain ⟨r8, s8, hg8, hf⟩ := bd_s hf
    refine r_cSI C (q := 11) (As := [vI v2]) (c_x_Sheets_isType C.i hg8) mt_Sheets_isType ml_O_318 rfl rfl rfl ⟨Nat.le_of_ble_eq_true rfl, Nat.le_of_ble_eq_true rfl⟩ rfl (Nat.le_of_ble_eq_true rfl) d_O_put_8 rfl ?_
    refine r_if_ne C (t := 17) (q := 14) d_O_put_11 (by decide) rfl (fun c11 => ?_) (fun c11 => ?_)
    · replace hf := ite_t c11 hf
      refine r_bipush C (q := 16) (x := (-2)) d_O_put_14 rfl rfl ?_
      exact r_ireturn C hf d_O_put_16
    · replace hf := ite_f c11 hf
      refine r_aload_n C (q := 18) 0 d_O_put_17 rfl rfl rfl ?_
      refine gxx_O_sheets C (q := 21) fl_O_10 d_O_put_18 rfl ?_
      refine r_iload_n C (q := 22) 1 d_O_put_21 rfl rfl rfl ?_
      refine r_iload_n C (q := 23) 2 d_O_put_22 rfl rfl rfl ?_
      refine r_iload_n C (q := 24) 3 d_O_put_23 rfl rfl rfl ?_
      obtain ⟨r24, s24, hg24, hf⟩ := bd_s hf
      refine r_cVI C (q := 27) (As := [vI v1, vI v2, vI v3]) (k0 := 1) (c_x_Sheets_hindrance C.i hg24) mt_Sheets_hindrance ml_O_328 (Nat.le_of_ble_eq_true rfl) rfl rfl rfl rfl rfl rfl ⟨Nat.le_of_ble_eq_true rfl, Nat.le_of_ble_eq_true rfl⟩ rfl (Nat.le_of_ble_eq_true rfl) d_O_put_24 rfl ?_
      refine r_istore C (q := 29) (lv' := [(5, vI r24), (0, .ref ((xW G).h 0)), (1, vI v1), (2, vI v2), (3, vI v3), (4, vI v4)]) d_O_put_27 (by decide) rfl rfl ?_
      refine r_iload C (q := 31) 0 d_O_put_29 rfl rfl ?_
      refine r_if_eq C (t := 44) (q := 34) d_O_put_31 (by decide) rfl (fun c31 => ?_) (fun c31 => ?_)
      · replace hf := ite_t c31 hf
        refine r_aload_n C (q := 45) 1 d_O_put_44 rfl rfl rfl ?_
        refine gxx_O_sheets C (q := 48) fl_O_10 d_O_put_45 rfl ?_
        refine r_iload_n C (q := 49) 2 d_O_put_48 rfl rfl rfl ?_
        refine r_iload_n C (q := 50) 4 d_O_put_49 rfl rfl rfl ?_
        refine r_iload C (q := 52) 5 d_O_put_50 rfl rfl ?_
        obtain ⟨r52, s52, hg52, hf⟩ := bd_s hf
        refine r_cVV C (q := 55) (As := [vI v1, vI v3, vI v4]) (k0 := 1) (c_x_Sheets_setItem C.i hg52) mt_Sheets_setItem ml_O_331 (Nat.le_of_ble_eq_true rfl) rfl rfl rfl rfl rfl rfl ⟨Nat.le_of_ble_eq_true rfl, Nat.le_of_ble_eq_true rfl⟩ rfl (Nat.le_of_ble_eq_true rfl) d_O_put_52 rfl ?_
        refine r_iconst C (q := 56) d_O_put_55 rfl ?_
        exact r_ireturn C hf d_O_put_56
      · replace hf := ite_f c31 hf
        refine r_aload_n C (q := 35) 1 d_O_put_34 rfl rfl rfl ?_
        refine gxx_O_sheets C (q := 38) fl_O_10 d_O_put_35 rfl ?_
        refine r_iload C (q := 40) 0 d_O_put_38 rfl rfl ?_
        obtain ⟨r40, s40, hg40, hf⟩ := bd_s hf
        refine r_cVI C (q := 43) (As := [vI r24]) (k0 := 1) (c_x_Sheets_noteFinding C.i hg40) mt_Sheets_noteFinding ml_O_102 (Nat.le_of_ble_eq_true rfl) rfl rfl rfl rfl rfl rfl ⟨Nat.le_of_ble_eq_true rfl, Nat.le_of_ble_eq_true rfl⟩ rfl (Nat.le_of_ble_eq_true rfl) d_O_put_40 rfl ?_
        exact r_ireturn C hf d_O_put_43
def x_get (N : Nat) (v1 v2 v3 : Int) (s : St) : MM := bd (x_Sheets_isSheet N v1 s) (fun r1 s1 => if eq32 r1 0 then (some ((-2147483648), s1)) else (bd (x_Sheets_isType N v2 s1) (fun r8 s8 => if eq32 r8 0 then (some ((-2147483648), s8)) else (bd (x_Sheets_hindrance N v1 v2 v3 s8) (fun r25 s25 => if eq32 r25 0 then (bd (x_Sheets_itemAt N v1 v3 s25) (fun r55 s55 => some (r55, s55))) else (bd (x_Sheets_noteFinding N r25 s25) (fun r41 s41 => some ((-2147483648), s41))))))))
abbrev rm_x_get : Room := { frames := 2, cells := 0, slots := 0, locals := 44 }
theorem c_x_get {l : Launch} {G : GG} (hi : wo_i (xW G)) {N : Nat} {v1 v2 v3 : Int} {s : St} {o : Int × St} (hf : x_get N v1 v2 v3 s = some o) : CtI l (xW G) y_O_get (wo y_O_get prog_1_method_38_code 5 (some .int)) rm_x_get [.ref ((xW G).h 0), vI v1, vI v2, vI v3] s o := by
  refine ct_I (by decide +kernel) hi (Nat.le_of_ble_eq_true rfl) fun X C => ?_
  unfold x_get at hf
  show Rj X (xW G) 5 (qI X (xW G) o) 0 [(0, .ref ((xW G).h 0)), (1, vI v1), (2, vI v2), (3, vI v3)] [] s
  refine r_iload_n C (q := 1) 1 d_O_get_0 rfl rfl rfl ?_
  obtain ⟨r1, s1, hg1, hf⟩ := bd_s hf
  refine r_cSI C (q := 4) (As := [vI v1]) (c_x_Sheets_isSheet C.i hg1) mt_Sheets_isSheet ml_O_92 rfl rfl rfl ⟨Nat.le_of_ble_eq_true rfl, Nat.le_of_ble_eq_true rfl⟩ rfl (Nat.le_of_ble_eq_true rfl) d_O_get_1 rfl ?_
  refine r_if_eq C (t := 14) (q := 7) d_O_get_4 (by decide) rfl (fun c4 => ?_) (fun c4 => ?_)
  · replace hf := ite_t c4 hf
    refine r_ldcw C (q := 17) (x := (-2147483648)) kc_O_334 rfl d_O_get_14 rfl ?_
    exact r_ireturn C hf d_O_get_17
  · replace hf := ite_f c4 hf
    refine r_iload_n C (q := 8) 2 d_O_get_7 rfl rfl rfl ?_
    obtain ⟨r8, s8, hg8, hf⟩ := bd_s hf
    refine r_cSI C (q := 11) (As := [vI v2]) (c_x_Sheets_isType C.i hg8) mt_Sheets_isType ml_O_318 rfl rfl rfl ⟨Nat.le_of_ble_eq_true rfl, Nat.le_of_ble_eq_true rfl⟩ rfl (Nat.le_of_ble_eq_true rfl) d_O_get_8 rfl ?_
    refine r_if_ne C (t := 18) (q := 14) d_O_get_11 (by decide) rfl (fun c11 => ?_) (fun c11 => ?_)
    · replace hf := ite_t c11 hf
      refine r_ldcw C (q := 17) (x := (-2147483648)) kc_O_334 rfl d_O_get_14 rfl ?_
      exact r_ireturn C hf d_O_get_17
    · replace hf := ite_f c11 hf
      refine r_aload_n C (q := 19) 0 d_O_get_18 rfl rfl rfl ?_
      refine gxx_O_sheets C (q := 22) fl_O_10 d_O_get_19 rfl ?_
      refine r_iload_n C (q := 23) 1 d_O_get_22 rfl rfl rfl ?_
      refine r_iload_n C (q := 24) 2 d_O_get_23 rfl rfl rfl ?_
      refine r_iload_n C (q := 25) 3 d_O_get_24 rfl rfl rfl ?_
      obtain ⟨r25, s25, hg25, hf⟩ := bd_s hf
      refine r_cVI C (q := 28) (As := [vI v1, vI v2, vI v3]) (k0 := 1) (c_x_Sheets_hindrance C.i hg25) mt_Sheets_hindrance ml_O_328 (Nat.le_of_ble_eq_true rfl) rfl rfl rfl rfl rfl rfl ⟨Nat.le_of_ble_eq_true rfl, Nat.le_of_ble_eq_true rfl⟩ rfl (Nat.le_of_ble_eq_true rfl) d_O_get_25 rfl ?_
      refine r_istore C (q := 30) (lv' := [(4, vI r25), (0, .ref ((xW G).h 0)), (1, vI v1), (2, vI v2), (3, vI v3)]) d_O_get_28 (by decide) rfl rfl ?_
      refine r_iload C (q := 32) 0 d_O_get_30 rfl rfl ?_
      refine r_if_eq C (t := 49) (q := 35) d_O_get_32 (by decide) rfl (fun c32 => ?_) (fun c32 => ?_)
      · replace hf := ite_t c32 hf
        refine r_aload_n C (q := 50) 1 d_O_get_49 rfl rfl rfl ?_
        refine gxx_O_sheets C (q := 53) fl_O_10 d_O_get_50 rfl ?_
        refine r_iload_n C (q := 54) 2 d_O_get_53 rfl rfl rfl ?_
        refine r_iload_n C (q := 55) 4 d_O_get_54 rfl rfl rfl ?_
        obtain ⟨r55, s55, hg55, hf⟩ := bd_s hf
        refine r_cVI C (q := 58) (As := [vI v1, vI v3]) (k0 := 1) (c_x_Sheets_itemAt C.i hg55) mt_Sheets_itemAt ml_O_119 (Nat.le_of_ble_eq_true rfl) rfl rfl rfl rfl rfl rfl ⟨Nat.le_of_ble_eq_true rfl, Nat.le_of_ble_eq_true rfl⟩ rfl (Nat.le_of_ble_eq_true rfl) d_O_get_55 rfl ?_
        exact r_ireturn C hf d_O_get_58
      · replace hf := ite_f c32 hf
        refine r_aload_n C (q := 36) 1 d_O_get_35 rfl rfl rfl ?_
        refine gxx_O_sheets C (q := 39) fl_O_10 d_O_get_36 rfl ?_
        refine r_iload C (q := 41) 0 d_O_get_39 rfl rfl ?_
        obtain ⟨r41, s41, hg41, hf⟩ := bd_s hf
        refine r_cVI C (q := 44) (As := [vI r25]) (k0 := 1) (c_x_Sheets_noteFinding C.i hg41) mt_Sheets_noteFinding ml_O_102 (Nat.le_of_ble_eq_true rfl) rfl rfl rfl rfl rfl rfl ⟨Nat.le_of_ble_eq_true rfl, Nat.le_of_ble_eq_true rfl⟩ rfl (Nat.le_of_ble_eq_true rfl) d_O_get_41 rfl ?_
        refine r_pop C (q := 45) d_O_get_44 rfl rfl ?_
        refine r_ldcw C (q := 48) (x := (-2147483648)) kc_O_334 rfl d_O_get_45 rfl ?_
        exact r_ireturn C hf d_O_get_48
def x_Sheets_areOfOneType (N : Nat) (v1 v2 : Int) (s : St) : MM := gd (inb v1 4) (gd (inb v2 4) (if eq32 (s 12 v1) (s 12 v2) then (some (1, s)) else (some (0, s))))
abbrev rm_x_Sheets_areOfOneType : Room := { frames := 0, cells := 0, slots := 0, locals := 0 }
theorem c_x_Sheets_areOfOneType {l : Launch} {G : GG} (hi : wo_i (xW G)) {N : Nat} {v1 v2 : Int} {s : St} {o : Int × St} (hf : x_Sheets_areOfOneType N v1 v2 s = some o) : CtI l (xW G) y_Sheets_areOfOneType (wo y_Sheets_areOfOneType prog_9_method_5_code 3 (some .boolean)) rm_x_Sheets_areOfOneType [.ref ((xW G).h 1), vI v1, vI v2] s o := by
  refine ct_I (by decide +kernel) hi (Nat.le_of_ble_eq_true rfl) fun X C => ?_
  unfold x_Sheets_areOfOneType at hf
  show Rj X (xW G) 3 (qI X (xW G) o) 0 [(0, .ref ((xW G).h 1)), (1, vI v1), (2, vI v2)] [] s
  refine r_aload_n C (q := 1) 0 d_Sheets_areOfOneType_0 rfl rfl rfl ?_
  refine gxx_Sheets_types C (q := 4) fl_Sheets_11 d_Sheets_areOfOneType_1 rfl ?_
  refine r_iload_n C (q := 5) 1 d_Sheets_areOfOneType_4 rfl rfl rfl ?_
  obtain ⟨g5, hf⟩ := gd_s hf
  refine r_iald C (q := 6) 12 (Nat.le_of_ble_eq_true rfl) (fun _ => rfl) 0 rfl g5 (by decide) d_Sheets_areOfOneType_5 rfl ?_
  refine r_aload_n C (q := 7) 0 d_Sheets_areOfOneType_6 rfl rfl rfl ?_
  refine gxx_Sheets_types C (q := 10) fl_Sheets_11 d_Sheets_areOfOneType_7 rfl ?_
  refine r_iload_n C (q := 11) 2 d_Sheets_areOfOneType_10 rfl rfl rfl ?_
  obtain ⟨g11, hf⟩ := gd_s hf
  refine r_iald C (q := 12) 12 (Nat.le_of_ble_eq_true rfl) (fun _ => rfl) 0 rfl g11 (by decide) d_Sheets_areOfOneType_11 rfl ?_
  refine r_ic_ne C (t := 19) (q := 15) d_Sheets_areOfOneType_12 (by decide) rfl (fun c12 => ?_) (fun c12 => ?_)
  · replace hf := ite_t c12 hf
    refine r_iconst C (q := 16) d_Sheets_areOfOneType_15 rfl ?_
    refine r_goto C (q := 20) d_Sheets_areOfOneType_16 (by decide) ?_
    exact r_zreturn C (by decide) hf d_Sheets_areOfOneType_20
  · replace hf := ite_f c12 hf
    refine r_iconst C (q := 20) d_Sheets_areOfOneType_19 rfl ?_
    exact r_zreturn C (by decide) hf d_Sheets_areOfOneType_20
def x_Sheets_moveItems (N : Nat) (v1 v2 v3 v4 v5 : Int) (s : St) : MM := gd (0 ≤ ((v1 * 40) + v2) ∧ 0 ≤ ((v3 * 40) + v4) ∧ 0 ≤ v5 ∧ ((v1 * 40) + v2) + v5 ≤ 160 ∧ ((v3 * 40) + v4) + v5 ≤ 160) (some (0, cpy s 14 14 ((v1 * 40) + v2) ((v3 * 40) + v4) v5))
abbrev rm_x_Sheets_moveItems : Room := { frames := 1, cells := 0, slots := 0, locals := 26 }
theorem c_x_Sheets_moveItems {l : Launch} {G : GG} (hi : wo_i (xW G)) {N : Nat} {v1 v2 v3 v4 v5 : Int} {s : St} {o : Int × St} (hf : x_Sheets_moveItems N v1 v2 v3 v4 v5 s = some o) : CtV l (xW G) y_Sheets_moveItems (wo y_Sheets_moveItems prog_9_method_13_code 6 none) rm_x_Sheets_moveItems [.ref ((xW G).h 1), vI v1, vI v2, vI v3, vI v4, vI v5] s o := by
  refine ct_V (by decide +kernel) hi (Nat.le_of_ble_eq_true rfl) fun X C => ?_
  unfold x_Sheets_moveItems at hf
  show Rj X (xW G) 6 (qV X (xW G) o) 0 [(0, .ref ((xW G).h 1)), (1, vI v1), (2, vI v2), (3, vI v3), (4, vI v4), (5, vI v5)] [] s
  refine r_aload_n C (q := 1) 0 d_Sheets_moveItems_0 rfl rfl rfl ?_
  refine gxx_Sheets_items C (q := 4) fl_Sheets_18 d_Sheets_moveItems_1 rfl ?_
  refine r_iload_n C (q := 5) 1 d_Sheets_moveItems_4 rfl rfl rfl ?_
  refine r_bipush C (q := 7) (x := 40) d_Sheets_moveItems_5 rfl rfl ?_
  refine r_imul C (q := 8) d_Sheets_moveItems_7 rfl ?_
  refine r_iload_n C (q := 9) 2 d_Sheets_moveItems_8 rfl rfl rfl ?_
  refine r_iadd C (q := 10) d_Sheets_moveItems_9 rfl ?_
  refine r_aload_n C (q := 11) 0 d_Sheets_moveItems_10 rfl rfl rfl ?_
  refine gxx_Sheets_items C (q := 14) fl_Sheets_18 d_Sheets_moveItems_11 rfl ?_
  refine r_iload_n C (q := 15) 3 d_Sheets_moveItems_14 rfl rfl rfl ?_
  refine r_bipush C (q := 17) (x := 40) d_Sheets_moveItems_15 rfl rfl ?_
  refine r_imul C (q := 18) d_Sheets_moveItems_17 rfl ?_
  refine r_iload C (q := 20) 4 d_Sheets_moveItems_18 rfl rfl ?_
  refine r_iadd C (q := 21) d_Sheets_moveItems_20 rfl ?_
  refine r_iload C (q := 23) 5 d_Sheets_moveItems_21 rfl rfl ?_
  obtain ⟨g23, hf⟩ := gd_s hf
  refine r_acopy C (q := 26) 14 14 (Nat.le_of_ble_eq_true rfl) (Nat.le_of_ble_eq_true rfl) (fun _ => rfl) (fun _ => rfl) 0 0 rfl rfl g23 (by decide) (by decide) ml_Sheets_46 ac_nat (Nat.le_of_ble_eq_true rfl) (Nat.le_of_ble_eq_true rfl) (Nat.le_of_ble_eq_true rfl) d_Sheets_moveItems_23 rfl ?_
  exact r_return C hf d_Sheets_moveItems_26
