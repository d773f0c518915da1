def x_Sounds_areAlike_19 (N : Nat) (v1 v2 : Int) (k19 : Int → St → MM) (v3 : Int) (s : St) : MM := gd (inb v1 36) (if le32 (s 22 v1) v3 then (some (1, s)) else (gd (inb ((v1 * 10) + v3) 360) (gd (inb ((v2 * 10) + v3) 360) (if eq32 (s 21 ((v1 * 10) + v3)) (s 21 ((v2 * 10) + v3)) then (k19 (v3 + 1) s) else (some (0, s))))))
def x_Sounds_areAlike (N : Nat) (v1 v2 : Int) (s : St) : MM := gd (inb v1 36) (gd (inb v2 36) (if eq32 (s 22 v1) (s 22 v2) then (itr (x_Sounds_areAlike_19 N v1 v2) (fun _ _ => none) N 0 s) else (some (0, s))))
abbrev rm_x_Sounds_areAlike : Room := { frames := 0, cells := 0, slots := 0, locals := 0 }
theorem s_x_Sounds_areAlike_19 {X : CxT} {l : Launch} {G : GG} (C : Cx X l (xW G) 4 prog_11_method_12_code "OneSelf$Sounds" (wo y_Sounds_areAlike prog_11_method_12_code 4 (some .boolean)) (some .boolean) rm_x_Sounds_areAlike) {o : Int × St} {N : Nat} {v1 v2 v3 : Int} {k19 : Int → St → MM} (hk19 : ∀ (u3 : Int) (s : St), k19 u3 s = some o → Rj X (xW G) 4 (qI X (xW G) o) 19 [(0, .ref ((xW G).h 5)), (1, vI v1), (2, vI v2), (3, vI u3)] [] s) {s : St} (hf : x_Sounds_areAlike_19 N v1 v2 k19 v3 s = some o) : Rj X (xW G) 4 (qI X (xW G) o) 19 [(0, .ref ((xW G).h 5)), (1, vI v1), (2, vI v2), (3, vI v3)] [] s := by
  unfold x_Sounds_areAlike_19 at hf
  refine r_iload_n C (q := 20) 3 d_Sounds_areAlike_19 rfl rfl rfl ?_
  refine r_aload_n C (q := 21) 0 d_Sounds_areAlike_20 rfl rfl rfl ?_
  refine gxx_Sounds_lengths C (q := 24) fl_Sounds_21 d_Sounds_areAlike_21 rfl ?_
  refine r_iload_n C (q := 25) 1 d_Sounds_areAlike_24 rfl rfl rfl ?_
  obtain ⟨g25, hf⟩ := gd_s hf
  refine r_iald C (q := 26) 22 (Nat.le_of_ble_eq_true rfl) (fun _ => rfl) 0 rfl g25 (by decide) d_Sounds_areAlike_25 rfl ?_
  refine r_ic_ge C (t := 62) (q := 29) d_Sounds_areAlike_26 (by decide) rfl (fun c26 => ?_) (fun c26 => ?_)
  · replace hf := ite_t c26 hf
    refine r_iconst C (q := 63) d_Sounds_areAlike_62 rfl ?_
    exact r_zreturn C (by decide) hf d_Sounds_areAlike_63
  · replace hf := ite_f c26 hf
    refine r_aload_n C (q := 30) 0 d_Sounds_areAlike_29 rfl rfl rfl ?_
    refine gxx_Sounds_signs C (q := 33) fl_Sounds_18 d_Sounds_areAlike_30 rfl ?_
    refine r_iload_n C (q := 34) 1 d_Sounds_areAlike_33 rfl rfl rfl ?_
    refine r_bipush C (q := 36) (x := 10) d_Sounds_areAlike_34 rfl rfl ?_
    refine r_imul C (q := 37) d_Sounds_areAlike_36 rfl ?_
    refine r_iload_n C (q := 38) 3 d_Sounds_areAlike_37 rfl rfl rfl ?_
    refine r_iadd C (q := 39) d_Sounds_areAlike_38 rfl ?_
    obtain ⟨g39, hf⟩ := gd_s hf
    refine r_iald C (q := 40) 21 (Nat.le_of_ble_eq_true rfl) (fun _ => rfl) 0 rfl g39 (by decide) d_Sounds_areAlike_39 rfl ?_
    refine r_aload_n C (q := 41) 0 d_Sounds_areAlike_40 rfl rfl rfl ?_
    refine gxx_Sounds_signs C (q := 44) fl_Sounds_18 d_Sounds_areAlike_41 rfl ?_
    refine r_iload_n C (q := 45) 2 d_Sounds_areAlike_44 rfl rfl rfl ?_
    refine r_bipush C (q := 47) (x := 10) d_Sounds_areAlike_45 rfl rfl ?_
    refine r_imul C (q := 48) d_Sounds_areAlike_47 rfl ?_
    refine r_iload_n C (q := 49) 3 d_Sounds_areAlike_48 rfl rfl rfl ?_
    refine r_iadd C (q := 50) d_Sounds_areAlike_49 rfl ?_
    obtain ⟨g50, hf⟩ := gd_s hf
    refine r_iald C (q := 51) 21 (Nat.le_of_ble_eq_true rfl) (fun _ => rfl) 0 rfl g50 (by decide) d_Sounds_areAlike_50 rfl ?_
    refine r_ic_eq C (t := 56) (q := 54) d_Sounds_areAlike_51 (by decide) rfl (fun c51 => ?_) (fun c51 => ?_)
    · replace hf := ite_t c51 hf
      refine r_iinc C (q := 59) (lv' := [(3, vI (v3 + 1)), (0, .ref ((xW G).h 5)), (1, vI v1), (2, vI v2)]) 3 d_Sounds_areAlike_56 rfl (by decide) rfl rfl ?_
      refine r_goto C (q := 19) d_Sounds_areAlike_59 (by decide) ?_
      exact r_sub [1, 2, 3, 0] rfl (hk19 _ _  hf)
    · replace hf := ite_f c51 hf
      refine r_iconst C (q := 55) d_Sounds_areAlike_54 rfl ?_
      exact r_zreturn C (by decide) hf d_Sounds_areAlike_55
theorem c_x_Sounds_areAlike {l : Launch} {G : GG} (hi : wo_i (xW G)) {N : Nat} {v1 v2 : Int} {s : St} {o : Int × St} (hf : x_Sounds_areAlike N v1 v2 s = some o) : CtI l (xW G) y_Sounds_areAlike (wo y_Sounds_areAlike prog_11_method_12_code 4 (some .boolean)) rm_x_Sounds_areAlike [.ref ((xW G).h 5), vI v1, vI v2] s o := by
  refine ct_I (by decide +kernel) hi (Nat.le_of_ble_eq_true rfl) fun X C => ?_
  unfold x_Sounds_areAlike at hf
  show Rj X (xW G) 4 (qI X (xW G) o) 0 [(0, .ref ((xW G).h 5)), (1, vI v1), (2, vI v2)] [] s
  refine r_aload_n C (q := 1) 0 d_Sounds_areAlike_0 rfl rfl rfl ?_
  refine gxx_Sounds_lengths C (q := 4) fl_Sounds_21 d_Sounds_areAlike_1 rfl ?_
  refine r_iload_n C (q := 5) 1 d_Sounds_areAlike_4 rfl rfl rfl ?_
  obtain ⟨g5, hf⟩ := gd_s hf
  refine r_iald C (q := 6) 22 (Nat.le_of_ble_eq_true rfl) (fun _ => rfl) 0 rfl g5 (by decide) d_Sounds_areAlike_5 rfl ?_
  refine r_aload_n C (q := 7) 0 d_Sounds_areAlike_6 rfl rfl rfl ?_
  refine gxx_Sounds_lengths C (q := 10) fl_Sounds_21 d_Sounds_areAlike_7 rfl ?_
  refine r_iload_n C (q := 11) 2 d_Sounds_areAlike_10 rfl rfl rfl ?_
  obtain ⟨g11, hf⟩ := gd_s hf
  refine r_iald C (q := 12) 22 (Nat.le_of_ble_eq_true rfl) (fun _ => rfl) 0 rfl g11 (by decide) d_Sounds_areAlike_11 rfl ?_
  refine r_ic_eq C (t := 17) (q := 15) d_Sounds_areAlike_12 (by decide) rfl (fun c12 => ?_) (fun c12 => ?_)
  · replace hf := ite_t c12 hf
    refine r_iconst C (q := 18) d_Sounds_areAlike_17 rfl ?_
    refine r_istore_n C (q := 19) (lv' := [(3, vI 0), (0, .ref ((xW G).h 5)), (1, vI v1), (2, vI v2)]) d_Sounds_areAlike_18 rfl (by decide) rfl rfl ?_
    have hL : ∀ (u3 : Int) (z : St), itr (x_Sounds_areAlike_19 N v1 v2) (fun _ _ => none) N u3 z = some o → Rj X (xW G) 4 (qI X (xW G) o) 19 [(0, .ref ((xW G).h 5)), (1, vI v1), (2, vI v2), (3, vI u3)] [] z := itr_ind (x_Sounds_areAlike_19 N v1 v2) (fun _ _ => none) (fun k => ∀ (u3 : Int) (z : St), k u3 z = some o → Rj X (xW G) 4 (qI X (xW G) o) 19 [(0, .ref ((xW G).h 5)), (1, vI v1), (2, vI v2), (3, vI u3)] [] z) (fun _ _  h => by cases h) (fun k hk u3 z h => s_x_Sounds_areAlike_19 C hk h) N
    exact r_sub [1, 2, 3, 0] rfl (hL _ _  hf)
  · replace hf := ite_f c12 hf
    refine r_iconst C (q := 16) d_Sounds_areAlike_15 rfl ?_
    exact r_zreturn C (by decide) hf d_Sounds_areAlike_16
def x_Weights_wayBetween (N : Nat) (v1 v2 : Int) (s : St) : MM := gd (inb ((v1 * 8) + v2) 64) (some (s 23 ((v1 * 8) + v2), s))
abbrev rm_x_Weights_wayBetween : Room := { frames := 0, cells := 0, slots := 0, locals := 0 }
theorem c_x_Weights_wayBetween {l : Launch} {G : GG} (hi : wo_i (xW G)) {N : Nat} {v1 v2 : Int} {s : St} {o : Int × St} (hf : x_Weights_wayBetween N v1 v2 s = some o) : CtI l (xW G) y_Weights_wayBetween (wo y_Weights_wayBetween prog_12_method_3_code 3 (some .int)) rm_x_Weights_wayBetween [.ref ((xW G).h 6), vI v1, vI v2] s o := by
  refine ct_I (by decide +kernel) hi (Nat.le_of_ble_eq_true rfl) fun X C => ?_
  unfold x_Weights_wayBetween at hf
  show Rj X (xW G) 3 (qI X (xW G) o) 0 [(0, .ref ((xW G).h 6)), (1, vI v1), (2, vI v2)] [] s
  refine r_aload_n C (q := 1) 0 d_Weights_wayBetween_0 rfl rfl rfl ?_
  refine gxx_Weights_ways C (q := 4) fl_Weights_9 d_Weights_wayBetween_1 rfl ?_
  refine r_iload_n C (q := 5) 1 d_Weights_wayBetween_4 rfl rfl rfl ?_
  refine r_bipush C (q := 7) (x := 8) d_Weights_wayBetween_5 rfl rfl ?_
  refine r_imul C (q := 8) d_Weights_wayBetween_7 rfl ?_
  refine r_iload_n C (q := 9) 2 d_Weights_wayBetween_8 rfl rfl rfl ?_
  refine r_iadd C (q := 10) d_Weights_wayBetween_9 rfl ?_
  obtain ⟨g10, hf⟩ := gd_s hf
  refine r_iald C (q := 11) 23 (Nat.le_of_ble_eq_true rfl) (fun _ => rfl) 0 rfl g10 (by decide) d_Weights_wayBetween_10 rfl ?_
  exact r_ireturn C hf d_Weights_wayBetween_11
def x_Pairs_levelOf (N : Nat) (v1 v2 v3 : Int) (s : St) : MM := if eq32 v3 0 then (bd (x_Slips_between N v1 v2 s) (fun r10 s10 => if lt32 2 r10 then (bd (x_Sounds_areAlike N v1 v2 s10) (fun r32 s32 => if eq32 r32 0 then (some (3, s32)) else (some (2, s32)))) else (some (r10, s10)))) else (bd (x_Rows_fact N v1 v3 s) (fun r50 s50 => bd (x_Rows_fact N v2 v3 s50) (fun r61 s61 => if eq32 r50 ((-1)) then (some ((-1), s61)) else (if eq32 r61 ((-1)) then (some ((-1), s61)) else (if eq32 r50 r61 then (some (0, s61)) else (if eq32 v3 1 then (if eq32 (ab32 (r50 - r61)) 1 then (some (1, s61)) else (if lt32 5 (ab32 (r50 - r61)) then (some (3, s61)) else (some (2, s61)))) else (if eq32 v3 2 then (bd (x_Weights_wayBetween N r50 r61 s61) (fun r139 s139 => if lt32 5 r139 then (if lt32 20 r139 then (some (3, s139)) else (some (2, s139))) else (some (1, s139)))) else (some (3, s61)))))))))
abbrev rm_x_Pairs_levelOf : Room := { frames := 1, cells := 0, slots := 0, locals := 23 }
theorem c_x_Pairs_levelOf {l : Launch} {G : GG} (hi : wo_i (xW G)) {N : Nat} {v1 v2 v3 : Int} {s : St} {o : Int × St} (hf : x_Pairs_levelOf N v1 v2 v3 s = some o) : CtI l (xW G) y_Pairs_levelOf (wo y_Pairs_levelOf prog_7_method_2_code 7 (some .int)) rm_x_Pairs_levelOf [.ref ((xW G).h 2), vI v1, vI v2, vI v3] s o := by
  refine ct_I (by decide +kernel) hi (Nat.le_of_ble_eq_true rfl) fun X C => ?_
  unfold x_Pairs_levelOf at hf
  show Rj X (xW G) 7 (qI X (xW G) o) 0 [(0, .ref ((xW G).h 2)), (1, vI v1), (2, vI v2), (3, vI v3)] [] s
  refine r_iload_n C (q := 1) 3 d_Pairs_levelOf_0 rfl rfl rfl ?_
  refine r_if_ne C (t := 44) (q := 4) d_Pairs_levelOf_1 (by decide) rfl (fun c1 => ?_) (fun c1 => ?_)
  · replace hf := ite_t c1 hf
    refine r_aload_n C (q := 5) 0 d_Pairs_levelOf_4 rfl rfl rfl ?_
    refine gxx_Pairs_slips C (q := 8) fl_Pairs_21 d_Pairs_levelOf_5 rfl ?_
    refine r_iload_n C (q := 9) 1 d_Pairs_levelOf_8 rfl rfl rfl ?_
    refine r_iload_n C (q := 10) 2 d_Pairs_levelOf_9 rfl rfl rfl ?_
    obtain ⟨r10, s10, hg10, hf⟩ := bd_s hf
    refine r_cVI C (q := 13) (As := [vI v1, vI v2]) (k0 := 4) (c_x_Slips_between C.i hg10) mt_Slips_between ml_Pairs_39 (Nat.le_of_ble_eq_true rfl) rfl rfl rfl rfl rfl rfl ⟨Nat.le_of_ble_eq_true rfl, Nat.le_of_ble_eq_true rfl⟩ rfl (Nat.le_of_ble_eq_true rfl) d_Pairs_levelOf_10 rfl ?_
    refine r_istore C (q := 15) (lv' := [(4, vI r10), (0, .ref ((xW G).h 2)), (1, vI v1), (2, vI v2), (3, vI v3)]) d_Pairs_levelOf_13 (by decide) rfl rfl ?_
    refine r_iload C (q := 17) 0 d_Pairs_levelOf_15 rfl rfl ?_
    refine r_iconst C (q := 18) d_Pairs_levelOf_17 rfl ?_
    refine r_ic_gt C (t := 26) (q := 21) d_Pairs_levelOf_18 (by decide) rfl (fun c18 => ?_) (fun c18 => ?_)
    · replace hf := ite_t c18 hf
      refine r_aload_n C (q := 27) 1 d_Pairs_levelOf_26 rfl rfl rfl ?_
      refine gxx_Pairs_sounds C (q := 30) fl_Pairs_28 d_Pairs_levelOf_27 rfl ?_
      refine r_iload_n C (q := 31) 2 d_Pairs_levelOf_30 rfl rfl rfl ?_
      refine r_iload_n C (q := 32) 3 d_Pairs_levelOf_31 rfl rfl rfl ?_
      obtain ⟨r32, s32, hg32, hf⟩ := bd_s hf
      refine r_cVI C (q := 35) (As := [vI v1, vI v2]) (k0 := 5) (c_x_Sounds_areAlike C.i hg32) mt_Sounds_areAlike ml_Pairs_43 (Nat.le_of_ble_eq_true rfl) rfl rfl rfl rfl rfl rfl ⟨Nat.le_of_ble_eq_true rfl, Nat.le_of_ble_eq_true rfl⟩ rfl (Nat.le_of_ble_eq_true rfl) d_Pairs_levelOf_32 rfl ?_
      refine r_if_eq C (t := 42) (q := 38) d_Pairs_levelOf_35 (by decide) rfl (fun c35 => ?_) (fun c35 => ?_)
      · replace hf := ite_t c35 hf
        refine r_iconst C (q := 43) d_Pairs_levelOf_42 rfl ?_
        exact r_ireturn C hf d_Pairs_levelOf_43
      · replace hf := ite_f c35 hf
        refine r_iconst C (q := 39) d_Pairs_levelOf_38 rfl ?_
        refine r_goto C (q := 43) d_Pairs_levelOf_39 (by decide) ?_
        exact r_ireturn C hf d_Pairs_levelOf_43
    · replace hf := ite_f c18 hf
      refine r_iload C (q := 23) 0 d_Pairs_levelOf_21 rfl rfl ?_
      refine r_goto C (q := 43) d_Pairs_levelOf_23 (by decide) ?_
      exact r_ireturn C hf d_Pairs_levelOf_43
  · replace hf := ite_f c1 hf
    refine r_aload_n C (q := 45) 0 d_Pairs_levelOf_44 rfl rfl rfl ?_
    refine gxx_Pairs_rows C (q := 48) fl_Pairs_12 d_Pairs_levelOf_45 rfl ?_
    refine r_iload_n C (q := 49) 1 d_Pairs_levelOf_48 rfl rfl rfl ?_
    refine r_iload_n C (q := 50) 3 d_Pairs_levelOf_49 rfl rfl rfl ?_
    obtain ⟨r50, s50, hg50, hf⟩ := bd_s hf
    refine r_cVI C (q := 53) (As := [vI v1, vI v3]) (k0 := 3) (c_x_Rows_fact C.i hg50) mt_Rows_fact ml_Pairs_47 (Nat.le_of_ble_eq_true rfl) rfl rfl rfl rfl rfl rfl ⟨Nat.le_of_ble_eq_true rfl, Nat.le_of_ble_eq_true rfl⟩ rfl (Nat.le_of_ble_eq_true rfl) d_Pairs_levelOf_50 rfl ?_
    refine r_istore C (q := 55) (lv' := [(4, vI r50), (0, .ref ((xW G).h 2)), (1, vI v1), (2, vI v2), (3, vI v3)]) d_Pairs_levelOf_53 (by decide) rfl rfl ?_
    refine r_aload_n C (q := 56) 1 d_Pairs_levelOf_55 rfl rfl rfl ?_
    refine gxx_Pairs_rows C (q := 59) fl_Pairs_12 d_Pairs_levelOf_56 rfl ?_
    refine r_iload_n C (q := 60) 3 d_Pairs_levelOf_59 rfl rfl rfl ?_
    refine r_iload_n C (q := 61) 4 d_Pairs_levelOf_60 rfl rfl rfl ?_
    obtain ⟨r61, s61, hg61, hf⟩ := bd_s hf
    refine r_cVI C (q := 64) (As := [vI v2, vI v3]) (k0 := 3) (c_x_Rows_fact C.i hg61) mt_Rows_fact ml_Pairs_47 (Nat.le_of_ble_eq_true rfl) rfl rfl rfl rfl rfl rfl ⟨Nat.le_of_ble_eq_true rfl, Nat.le_of_ble_eq_true rfl⟩ rfl (Nat.le_of_ble_eq_true rfl) d_Pairs_levelOf_61 rfl ?_
    refine r_istore C (q := 66) (lv' := [(5, vI r61), (4, vI r50), (0, .ref ((xW G).h 2)), (1, vI v1), (2, vI v2), (3, vI v3)]) d_Pairs_levelOf_64 (by decide) rfl rfl ?_
    refine r_iload C (q := 68) 1 d_Pairs_levelOf_66 rfl rfl ?_
    refine r_iconst C (q := 69) d_Pairs_levelOf_68 rfl ?_
    refine r_ic_eq C (t := 78) (q := 72) d_Pairs_levelOf_69 (by decide) rfl (fun c69 => ?_) (fun c69 => ?_)
    · replace hf := ite_t c69 hf
      refine r_iconst C (q := 79) d_Pairs_levelOf_78 rfl ?_
      exact r_ireturn C hf d_Pairs_levelOf_79
    · replace hf := ite_f c69 hf
      refine r_iload C (q := 74) 0 d_Pairs_levelOf_72 rfl rfl ?_
      refine r_iconst C (q := 75) d_Pairs_levelOf_74 rfl ?_
      refine r_ic_ne C (t := 80) (q := 78) d_Pairs_levelOf_75 (by decide) rfl (fun c75 => ?_) (fun c75 => ?_)
      · replace hf := ite_t c75 hf
        refine r_iconst C (q := 79) d_Pairs_levelOf_78 rfl ?_
        exact r_ireturn C hf d_Pairs_levelOf_79
      · replace hf := ite_f c75 hf
        refine r_iload C (q := 82) 1 d_Pairs_levelOf_80 rfl rfl ?_
        refine r_iload C (q := 84) 0 d_Pairs_levelOf_82 rfl rfl ?_
        refine r_ic_ne C (t := 89) (q := 87) d_Pairs_levelOf_84 (by decide) rfl (fun c84 => ?_) (fun c84 => ?_)
        · replace hf := ite_t c84 hf
          refine r_iconst C (q := 88) d_Pairs_levelOf_87 rfl ?_
          exact r_ireturn C hf d_Pairs_levelOf_88
        · replace hf := ite_f c84 hf
          refine r_iload_n C (q := 90) 5 d_Pairs_levelOf_89 rfl rfl rfl ?_
          refine r_iconst C (q := 91) d_Pairs_levelOf_90 rfl ?_
          refine r_ic_ne C (t := 126) (q := 94) d_Pairs_levelOf_91 (by decide) rfl (fun c91 => ?_) (fun c91 => ?_)
          · replace hf := ite_t c91 hf
            refine r_iload C (q := 96) 1 d_Pairs_levelOf_94 rfl rfl ?_
            refine r_iload C (q := 98) 0 d_Pairs_levelOf_96 rfl rfl ?_
            refine r_isub C (q := 99) d_Pairs_levelOf_98 rfl ?_
            refine r_mabs C (q := 102) ml_Pairs_50 mM_abs (Nat.le_of_ble_eq_true rfl) (Nat.le_of_ble_eq_true rfl) (Nat.le_of_ble_eq_true rfl) d_Pairs_levelOf_99 rfl ?_
            refine r_istore C (q := 104) (lv' := [(6, vI (ab32 (r50 - r61))), (5, vI r61), (4, vI r50), (0, .ref ((xW G).h 2)), (1, vI v1), (2, vI v2), (3, vI v3)]) d_Pairs_levelOf_102 (by decide) rfl rfl ?_
            refine r_iload C (q := 106) 0 d_Pairs_levelOf_104 rfl rfl ?_
            refine r_iconst C (q := 107) d_Pairs_levelOf_106 rfl ?_
            refine r_ic_ne C (t := 114) (q := 110) d_Pairs_levelOf_107 (by decide) rfl (fun c107 => ?_) (fun c107 => ?_)
            · replace hf := ite_t c107 hf
              refine r_iconst C (q := 111) d_Pairs_levelOf_110 rfl ?_
              refine r_goto C (q := 125) d_Pairs_levelOf_111 (by decide) ?_
              exact r_ireturn C hf d_Pairs_levelOf_125
            · replace hf := ite_f c107 hf
              refine r_iload C (q := 116) 0 d_Pairs_levelOf_114 rfl rfl ?_
              refine r_iconst C (q := 117) d_Pairs_levelOf_116 rfl ?_
              refine r_ic_gt C (t := 124) (q := 120) d_Pairs_levelOf_117 (by decide) rfl (fun c117 => ?_) (fun c117 => ?_)
              · replace hf := ite_t c117 hf
                refine r_iconst C (q := 125) d_Pairs_levelOf_124 rfl ?_
                exact r_ireturn C hf d_Pairs_levelOf_125
              · replace hf := ite_f c117 hf
                refine r_iconst C (q := 121) d_Pairs_levelOf_120 rfl ?_
                refine r_goto C (q := 125) d_Pairs_levelOf_121 (by decide) ?_
                exact r_ireturn C hf d_Pairs_levelOf_125
          · replace hf := ite_f c91 hf
            refine r_iload_n C (q := 127) 5 d_Pairs_levelOf_126 rfl rfl rfl ?_
            refine r_iconst C (q := 128) d_Pairs_levelOf_127 rfl ?_
            refine r_ic_ne C (t := 167) (q := 131) d_Pairs_levelOf_128 (by decide) rfl (fun c128 => ?_) (fun c128 => ?_)
            · replace hf := ite_t c128 hf
              refine r_aload_n C (q := 132) 2 d_Pairs_levelOf_131 rfl rfl rfl ?_
              refine gxx_Pairs_weights C (q := 135) fl_Pairs_35 d_Pairs_levelOf_132 rfl ?_
              refine r_iload C (q := 137) 1 d_Pairs_levelOf_135 rfl rfl ?_
              refine r_iload C (q := 139) 0 d_Pairs_levelOf_137 rfl rfl ?_
              obtain ⟨r139, s139, hg139, hf⟩ := bd_s hf
              refine r_cVI C (q := 142) (As := [vI r50, vI r61]) (k0 := 6) (c_x_Weights_wayBetween C.i hg139) mt_Weights_wayBetween ml_Pairs_56 (Nat.le_of_ble_eq_true rfl) rfl rfl rfl rfl rfl rfl ⟨Nat.le_of_ble_eq_true rfl, Nat.le_of_ble_eq_true rfl⟩ rfl (Nat.le_of_ble_eq_true rfl) d_Pairs_levelOf_139 rfl ?_
              refine r_istore C (q := 144) (lv' := [(6, vI r139), (5, vI r61), (4, vI r50), (0, .ref ((xW G).h 2)), (1, vI v1), (2, vI v2), (3, vI v3)]) d_Pairs_levelOf_142 (by decide) rfl rfl ?_
              refine r_iload C (q := 146) 0 d_Pairs_levelOf_144 rfl rfl ?_
              refine r_iconst C (q := 147) d_Pairs_levelOf_146 rfl ?_
              refine r_ic_gt C (t := 154) (q := 150) d_Pairs_levelOf_147 (by decide) rfl (fun c147 => ?_) (fun c147 => ?_)
              · replace hf := ite_t c147 hf
                refine r_iload C (q := 156) 0 d_Pairs_levelOf_154 rfl rfl ?_
                refine r_bipush C (q := 158) (x := 20) d_Pairs_levelOf_156 rfl rfl ?_
                refine r_ic_gt C (t := 165) (q := 161) d_Pairs_levelOf_158 (by decide) rfl (fun c158 => ?_) (fun c158 => ?_)
                · replace hf := ite_t c158 hf
                  refine r_iconst C (q := 166) d_Pairs_levelOf_165 rfl ?_
                  exact r_ireturn C hf d_Pairs_levelOf_166
                · replace hf := ite_f c158 hf
                  refine r_iconst C (q := 162) d_Pairs_levelOf_161 rfl ?_
                  refine r_goto C (q := 166) d_Pairs_levelOf_162 (by decide) ?_
                  exact r_ireturn C hf d_Pairs_levelOf_166
              · replace hf := ite_f c147 hf
                refine r_iconst C (q := 151) d_Pairs_levelOf_150 rfl ?_
                refine r_goto C (q := 166) d_Pairs_levelOf_151 (by decide) ?_
                exact r_ireturn C hf d_Pairs_levelOf_166
            · replace hf := ite_f c128 hf
              refine r_iconst C (q := 168) d_Pairs_levelOf_167 rfl ?_
              exact r_ireturn C hf d_Pairs_levelOf_168
def x_level (N : Nat) (v1 v2 v3 : Int) (s : St) : MM := bd (x_Rows_arePair N v1 v2 s) (fun r6 s6 => if eq32 r6 0 then (some ((-2), s6)) else (bd (x_isBelow N v3 4 s6) (fun r14 s14 => if eq32 r14 0 then (some ((-2), s14)) else (bd (x_Pairs_levelOf N v1 v2 v3 s14) (fun r30 s30 => some (r30, s30))))))
abbrev rm_x_level : Room := { frames := 3, cells := 0, slots := 0, locals := 64 }
theorem c_x_level {l : Launch} {G : GG} (hi : wo_i (xW G)) {N : Nat} {v1 v2 v3 : Int} {s : St} {o : Int × St} (hf : x_level N v1 v2 v3 s = some o) : CtI l (xW G) y_O_level (wo y_O_level prog_1_method_14_code 4 (some .int)) rm_x_level [.ref ((xW G).h 0), vI v1, vI v2, vI v3] s o := by
  refine ct_I (by decide +kernel) hi (Nat.le_of_ble_eq_true rfl) fun X C => ?_
  unfold x_level at hf
  show Rj X (xW G) 4 (qI X (xW G) o) 0 [(0, .ref ((xW G).h 0)), (1, vI v1), (2, vI v2), (3, vI v3)] [] s
  refine r_aload_n C (q := 1) 0 d_O_level_0 rfl rfl rfl ?_
  refine gxx_O_rows C (q := 4) fl_O_27 d_O_level_1 rfl ?_
  refine r_iload_n C (q := 5) 1 d_O_level_4 rfl rfl rfl ?_
  refine r_iload_n C (q := 6) 2 d_O_level_5 rfl rfl rfl ?_
  obtain ⟨r6, s6, hg6, hf⟩ := bd_s hf
  refine r_cVI C (q := 9) (As := [vI v1, vI v2]) (k0 := 3) (c_x_Rows_arePair C.i hg6) mt_Rows_arePair ml_O_190 (Nat.le_of_ble_eq_true rfl) rfl rfl rfl rfl rfl rfl ⟨Nat.le_of_ble_eq_true rfl, Nat.le_of_ble_eq_true rfl⟩ rfl (Nat.le_of_ble_eq_true rfl) d_O_level_6 rfl ?_
  refine r_if_eq C (t := 20) (q := 12) d_O_level_9 (by decide) rfl (fun c9 => ?_) (fun c9 => ?_)
  · replace hf := ite_t c9 hf
    refine r_bipush C (q := 22) (x := (-2)) d_O_level_20 rfl rfl ?_
    exact r_ireturn C hf d_O_level_22
  · replace hf := ite_f c9 hf
    refine r_iload_n C (q := 13) 3 d_O_level_12 rfl rfl rfl ?_
    refine r_iconst C (q := 14) d_O_level_13 rfl ?_
    obtain ⟨r14, s14, hg14, hf⟩ := bd_s hf
    refine r_cSI C (q := 17) (As := [vI v3, vI 4]) (c_x_isBelow C.i hg14) mt_O_isBelow ml_O_88 rfl rfl rfl ⟨Nat.le_of_ble_eq_true rfl, Nat.le_of_ble_eq_true rfl⟩ rfl (Nat.le_of_ble_eq_true rfl) d_O_level_14 rfl ?_
    refine r_if_ne C (t := 23) (q := 20) d_O_level_17 (by decide) rfl (fun c17 => ?_) (fun c17 => ?_)
    · replace hf := ite_t c17 hf
      refine r_bipush C (q := 22) (x := (-2)) d_O_level_20 rfl rfl ?_
      exact r_ireturn C hf d_O_level_22
    · replace hf := ite_f c17 hf
      refine r_aload_n C (q := 24) 0 d_O_level_23 rfl rfl rfl ?_
      refine gxx_O_pairs C (q := 27) fl_O_19 d_O_level_24 rfl ?_
      refine r_iload_n C (q := 28) 1 d_O_level_27 rfl rfl rfl ?_
      refine r_iload_n C (q := 29) 2 d_O_level_28 rfl rfl rfl ?_
      refine r_iload_n C (q := 30) 3 d_O_level_29 rfl rfl rfl ?_
      obtain ⟨r30, s30, hg30, hf⟩ := bd_s hf
      refine r_cVI C (q := 33) (As := [vI v1, vI v2, vI v3]) (k0 := 2) (c_x_Pairs_levelOf C.i hg30) mt_Pairs_levelOf ml_O_193 (Nat.le_of_ble_eq_true rfl) rfl rfl rfl rfl rfl rfl ⟨Nat.le_of_ble_eq_true rfl, Nat.le_of_ble_eq_true rfl⟩ rfl (Nat.le_of_ble_eq_true rfl) d_O_level_30 rfl ?_
      exact r_ireturn C hf d_O_level_33
def x_Weights_pointsFor (N : Nat) (v1 v2 : Int) (s : St) : MM := gd (inb ((v1 * 4) + v2) 16) (some (s 24 ((v1 * 4) + v2), s))
abbrev rm_x_Weights_pointsFor : Room := { frames := 0, cells := 0, slots := 0, locals := 0 }
theorem c_x_Weights_pointsFor {l : Launch} {G : GG} (hi : wo_i (xW G)) {N : Nat} {v1 v2 : Int} {s : St} {o : Int × St} (hf : x_Weights_pointsFor N v1 v2 s = some o) : CtI l (xW G) y_Weights_pointsFor (wo y_Weights_pointsFor prog_12_method_5_code 3 (some .int)) rm_x_Weights_pointsFor [.ref ((xW G).h 6), vI v1, vI v2] s o := by
  refine ct_I (by decide +kernel) hi (Nat.le_of_ble_eq_true rfl) fun X C => ?_
  unfold x_Weights_pointsFor at hf
  show Rj X (xW G) 3 (qI X (xW G) o) 0 [(0, .ref ((xW G).h 6)), (1, vI v1), (2, vI v2)] [] s
  refine r_aload_n C (q := 1) 0 d_Weights_pointsFor_0 rfl rfl rfl ?_
  refine gxx_Weights_points C (q := 4) fl_Weights_15 d_Weights_pointsFor_1 rfl ?_
  refine r_iload_n C (q := 5) 1 d_Weights_pointsFor_4 rfl rfl rfl ?_
  refine r_iconst C (q := 6) d_Weights_pointsFor_5 rfl ?_
  refine r_imul C (q := 7) d_Weights_pointsFor_6 rfl ?_
  refine r_iload_n C (q := 8) 2 d_Weights_pointsFor_7 rfl rfl rfl ?_
  refine r_iadd C (q := 9) d_Weights_pointsFor_8 rfl ?_
  obtain ⟨g9, hf⟩ := gd_s hf
  refine r_iald C (q := 10) 24 (Nat.le_of_ble_eq_true rfl) (fun _ => rfl) 0 rfl g9 (by decide) d_Weights_pointsFor_9 rfl ?_
  exact r_ireturn C hf d_Weights_pointsFor_10
def x_Weights_tellPoints (N : Nat) (v1 v2 v3 : Int) (s : St) : MM := bd (x_Weights_pointsFor N v1 v2 s) (fun r3 s3 => gd (inb ((v1 * 4) + v2) 16) (some (r3, su s3 24 ((v1 * 4) + v2) v3)))
abbrev rm_x_Weights_tellPoints : Room := { frames := 1, cells := 0, slots := 0, locals := 22 }
theorem c_x_Weights_tellPoints {l : Launch} {G : GG} (hi : wo_i (xW G)) {N : Nat} {v1 v2 v3 : Int} {s : St} {o : Int × St} (hf : x_Weights_tellPoints N v1 v2 v3 s = some o) : CtI l (xW G) y_Weights_tellPoints (wo y_Weights_tellPoints prog_12_method_4_code 5 (some .int)) rm_x_Weights_tellPoints [.ref ((xW G).h 6), vI v1, vI v2, vI v3] s o := by
  refine ct_I (by decide +kernel) hi (Nat.le_of_ble_eq_true rfl) fun X C => ?_
  unfold x_Weights_tellPoints at hf
  show Rj X (xW G) 5 (qI X (xW G) o) 0 [(0, .ref ((xW G).h 6)), (1, vI v1), (2, vI v2), (3, vI v3)] [] s
  refine r_aload_n C (q := 1) 0 d_Weights_tellPoints_0 rfl rfl rfl ?_
  refine r_iload_n C (q := 2) 1 d_Weights_tellPoints_1 rfl rfl rfl ?_
  refine r_iload_n C (q := 3) 2 d_Weights_tellPoints_2 rfl rfl rfl ?_
  obtain ⟨r3, s3, hg3, hf⟩ := bd_s hf
  refine r_cVI C (q := 6) (As := [vI v1, vI v2]) (k0 := 6) (c_x_Weights_pointsFor C.i hg3) mt_Weights_pointsFor ml_Weights_43 (Nat.le_of_ble_eq_true rfl) rfl rfl rfl rfl rfl rfl ⟨Nat.le_of_ble_eq_true rfl, Nat.le_of_ble_eq_true rfl⟩ rfl (Nat.le_of_ble_eq_true rfl) d_Weights_tellPoints_3 rfl ?_
  refine r_istore C (q := 8) (lv' := [(4, vI r3), (0, .ref ((xW G).h 6)), (1, vI v1), (2, vI v2), (3, vI v3)]) d_Weights_tellPoints_6 (by decide) rfl rfl ?_
  refine r_aload_n C (q := 9) 1 d_Weights_tellPoints_8 rfl rfl rfl ?_
  refine gxx_Weights_points C (q := 12) fl_Weights_15 d_Weights_tellPoints_9 rfl ?_
  refine r_iload_n C (q := 13) 2 d_Weights_tellPoints_12 rfl rfl rfl ?_
  refine r_iconst C (q := 14) d_Weights_tellPoints_13 rfl ?_
  refine r_imul C (q := 15) d_Weights_tellPoints_14 rfl ?_
  refine r_iload_n C (q := 16) 3 d_Weights_tellPoints_15 rfl rfl rfl ?_
  refine r_iadd C (q := 17) d_Weights_tellPoints_16 rfl ?_
  refine r_iload_n C (q := 18) 4 d_Weights_tellPoints_17 rfl rfl rfl ?_
  obtain ⟨g18, hf⟩ := gd_s hf
  refine r_iast C (q := 19) 24 (Nat.le_of_ble_eq_true rfl) (fun _ => rfl) 0 rfl g18 (by decide) d_Weights_tellPoints_18 rfl ?_
  refine r_iload C (q := 21) 0 d_Weights_tellPoints_19 rfl rfl ?_
  exact r_ireturn C hf d_Weights_tellPoints_21
def x_points (N : Nat) (v1 v2 v3 : Int) (s : St) : MM := bd (x_isBelow N v1 4 s) (fun r2 s2 => if eq32 r2 0 then (some ((-1000), s2)) else (bd (x_isBelow N v2 4 s2) (fun r10 s10 => if eq32 r10 0 then (some ((-1000), s10)) else (bd (x_isWithin N v3 ((-100)) 100 s10) (fun r21 s21 => if eq32 r21 0 then (some ((-1000), s21)) else (bd (x_Weights_tellPoints N v1 v2 v3 s21) (fun r38 s38 => some (r38, s38))))))))
abbrev rm_x_points : Room := { frames := 2, cells := 0, slots := 0, locals := 46 }
theorem c_x_points {l : Launch} {G : GG} (hi : wo_i (xW G)) {N : Nat} {v1 v2 v3 : Int} {s : St} {o : Int × St} (hf : x_points N v1 v2 v3 s = some o) : CtI l (xW G) y_O_points (wo y_O_points prog_1_method_15_code 4 (some .int)) rm_x_points [.ref ((xW G).h 0), vI v1, vI v2, vI v3] s o := by
  refine ct_I (by decide +kernel) hi (Nat.le_of_ble_eq_true rfl) fun X C => ?_
  unfold x_points at hf
  show Rj X (xW G) 4 (qI X (xW G) o) 0 [(0, .ref ((xW G).h 0)), (1, vI v1), (2, vI v2), (3, vI v3)] [] s
  refine r_iload_n C (q := 1) 1 d_O_points_0 rfl rfl rfl ?_
  refine r_iconst C (q := 2) d_O_points_1 rfl ?_
  obtain ⟨r2, s2, hg2, hf⟩ := bd_s hf
  refine r_cSI C (q := 5) (As := [vI v1, vI 4]) (c_x_isBelow C.i hg2) mt_O_isBelow ml_O_88 rfl rfl rfl ⟨Nat.le_of_ble_eq_true rfl, Nat.le_of_ble_eq_true rfl⟩ rfl (Nat.le_of_ble_eq_true rfl) d_O_points_2 rfl ?_
  refine r_if_eq C (t := 27) (q := 8) d_O_points_5 (by decide) rfl (fun c5 => ?_) (fun c5 => ?_)
  · replace hf := ite_t c5 hf
    refine r_sipush C (q := 30) (x := (-1000)) d_O_points_27 rfl rfl ?_
    exact r_ireturn C hf d_O_points_30
  · replace hf := ite_f c5 hf
    refine r_iload_n C (q := 9) 2 d_O_points_8 rfl rfl rfl ?_
    refine r_iconst C (q := 10) d_O_points_9 rfl ?_
    obtain ⟨r10, s10, hg10, hf⟩ := bd_s hf
    refine r_cSI C (q := 13) (As := [vI v2, vI 4]) (c_x_isBelow C.i hg10) mt_O_isBelow ml_O_88 rfl rfl rfl ⟨Nat.le_of_ble_eq_true rfl, Nat.le_of_ble_eq_true rfl⟩ rfl (Nat.le_of_ble_eq_true rfl) d_O_points_10 rfl ?_
    refine r_if_eq C (t := 27) (q := 16) d_O_points_13 (by decide) rfl (fun c13 => ?_) (fun c13 => ?_)
    · replace hf := ite_t c13 hf
      refine r_sipush C (q := 30) (x := (-1000)) d_O_points_27 rfl rfl ?_
      exact r_ireturn C hf d_O_points_30
    · replace hf := ite_f c13 hf
      refine r_iload_n C (q := 17) 3 d_O_points_16 rfl rfl rfl ?_
      refine r_bipush C (q := 19) (x := (-100)) d_O_points_17 rfl rfl ?_
      refine r_bipush C (q := 21) (x := 100) d_O_points_19 rfl rfl ?_
      obtain ⟨r21, s21, hg21, hf⟩ := bd_s hf
      refine r_cSI C (q := 24) (As := [vI v3, vI ((-100)), vI 100]) (c_x_isWithin C.i hg21) mt_O_isWithin ml_O_78 rfl rfl rfl ⟨Nat.le_of_ble_eq_true rfl, Nat.le_of_ble_eq_true rfl⟩ rfl (Nat.le_of_ble_eq_true rfl) d_O_points_21 rfl ?_
      refine r_if_ne C (t := 31) (q := 27) d_O_points_24 (by decide) rfl (fun c24 => ?_) (fun c24 => ?_)
      · replace hf := ite_t c24 hf
        refine r_sipush C (q := 30) (x := (-1000)) d_O_points_27 rfl rfl ?_
        exact r_ireturn C hf d_O_points_30
      · replace hf := ite_f c24 hf
        refine r_aload_n C (q := 32) 0 d_O_points_31 rfl rfl rfl ?_
        refine gxx_O_weights C (q := 35) fl_O_42 d_O_points_32 rfl ?_
        refine r_iload_n C (q := 36) 1 d_O_points_35 rfl rfl rfl ?_
        refine r_iload_n C (q := 37) 2 d_O_points_36 rfl rfl rfl ?_
        refine r_iload_n C (q := 38) 3 d_O_points_37 rfl rfl rfl ?_
        obtain ⟨r38, s38, hg38, hf⟩ := bd_s hf
        refine r_cVI C (q := 41) (As := [vI v1, vI v2, vI v3]) (k0 := 6) (c_x_Weights_tellPoints C.i hg38) mt_Weights_tellPoints ml_O_196 (Nat.le_of_ble_eq_true rfl) rfl rfl rfl rfl rfl rfl ⟨Nat.le_of_ble_eq_true rfl, Nat.le_of_ble_eq_true rfl⟩ rfl (Nat.le_of_ble_eq_true rfl) d_O_points_38 rfl ?_
        exact r_ireturn C hf d_O_points_41
def x_Pairs_scoreOf_41 (N : Nat) (k5 : Int → Int → St → MM) (v1 v2 v3 v4 : Int) (s : St) : MM := k5 v3 (v4 + 1) s
def x_Pairs_scoreOf_5 (N : Nat) (v1 v2 : Int) (k5 : Int → Int → St → MM) (v3 v4 : Int) (s : St) : MM := if le32 4 v4 then (some (v3, s)) else (bd (x_Pairs_levelOf N v1 v2 v4 s) (fun r16 s16 => if eq32 r16 ((-1)) then (x_Pairs_scoreOf_41 N k5 v1 v2 v3 v4  s16) else (bd (x_Weights_pointsFor N v4 r16 s16) (fun r36 s36 => x_Pairs_scoreOf_41 N k5 v1 v2 (v3 + r36) v4  s36))))
def x_Pairs_scoreOf (N : Nat) (v1 v2 : Int) (s : St) : MM := itr (x_Pairs_scoreOf_5 N v1 v2) (fun _ _ _ => none) N 0 0 s
abbrev rm_x_Pairs_scoreOf : Room := { frames := 2, cells := 0, slots := 0, locals := 49 }
theorem s_x_Pairs_scoreOf_41 {X : CxT} {l : Launch} {G : GG} (C : Cx X l (xW G) 6 prog_7_method_3_code "OneSelf$Pairs" (wo y_Pairs_scoreOf prog_7_method_3_code 6 (some .int)) (some .int) rm_x_Pairs_scoreOf) {o : Int × St} {N : Nat} {v1 v2 v3 v4 : Int} {k5 : Int → Int → St → MM} (hk5 : ∀ (u3 u4 : Int) (s : St), k5 u3 u4 s = some o → Rj X (xW G) 6 (qI X (xW G) o) 5 [(0, .ref ((xW G).h 2)), (1, vI v1), (2, vI v2), (3, vI u3), (4, vI u4)] [] s) {s : St} (hf : x_Pairs_scoreOf_41 N k5 v1 v2 v3 v4 s = some o) : Rj X (xW G) 6 (qI X (xW G) o) 41 [(0, .ref ((xW G).h 2)), (1, vI v1), (2, vI v2), (3, vI v3), (4, vI v4)] [] s := by
  unfold x_Pairs_scoreOf_41 at hf
  refine r_iinc C (q := 44) (lv' := [(4, vI (v4 + 1)), (0, .ref ((xW G).h 2)), (1, vI v1), (2, vI v2), (3, vI v3)]) 4 d_Pairs_scoreOf_41 rfl (by decide) rfl rfl ?_
  refine r_goto C (q := 5) d_Pairs_scoreOf_44 (by decide) ?_
  exact r_sub [1, 2, 3, 4, 0] rfl (hk5 _ _ _  hf)
theorem s_x_Pairs_scoreOf_5 {X : CxT} {l : Launch} {G : GG} (C : Cx X l (xW G) 6 prog_7_method_3_code "OneSelf$Pairs" (wo y_Pairs_scoreOf prog_7_method_3_code 6 (some .int)) (some .int) rm_x_Pairs_scoreOf) {o : Int × St} {N : Nat} {v1 v2 v3 v4 : Int} {k5 : Int → Int → St → MM} (hk5 : ∀ (u3 u4 : Int) (s : St), k5 u3 u4 s = some o → Rj X (xW G) 6 (qI X (xW G) o) 5 [(0, .ref ((xW G).h 2)), (1, vI v1), (2, vI v2), (3, vI u3), (4, vI u4)] [] s) {s : St} (hf : x_Pairs_scoreOf_5 N v1 v2 k5 v3 v4 s = some o) : Rj X (xW G) 6 (qI X (xW G) o) 5 [(0, .ref ((xW G).h 2)), (1, vI v1), (2, vI v2), (3, vI v3), (4, vI v4)] [] s := by
  unfold x_Pairs_scoreOf_5 at hf
  refine r_iload C (q := 7) 4 d_Pairs_scoreOf_5 rfl rfl ?_
  refine r_iconst C (q := 8) d_Pairs_scoreOf_7 rfl ?_
  refine r_ic_ge C (t := 47) (q := 11) d_Pairs_scoreOf_8 (by decide) rfl (fun c8 => ?_) (fun c8 => ?_)
  · replace hf := ite_t c8 hf
    refine r_iload_n C (q := 48) 3 d_Pairs_scoreOf_47 rfl rfl rfl ?_
    exact r_ireturn C hf d_Pairs_scoreOf_48
  · replace hf := ite_f c8 hf
    refine r_aload_n C (q := 12) 0 d_Pairs_scoreOf_11 rfl rfl rfl ?_
    refine r_iload_n C (q := 13) 1 d_Pairs_scoreOf_12 rfl rfl rfl ?_
    refine r_iload_n C (q := 14) 2 d_Pairs_scoreOf_13 rfl rfl rfl ?_
    refine r_iload C (q := 16) 4 d_Pairs_scoreOf_14 rfl rfl ?_
    obtain ⟨r16, s16, hg16, hf⟩ := bd_s hf
    refine r_cVI C (q := 19) (As := [vI v1, vI v2, vI v4]) (k0 := 2) (c_x_Pairs_levelOf C.i hg16) mt_Pairs_levelOf ml_Pairs_59 (Nat.le_of_ble_eq_true rfl) rfl rfl rfl rfl rfl rfl ⟨Nat.le_of_ble_eq_true rfl, Nat.le_of_ble_eq_true rfl⟩ rfl (Nat.le_of_ble_eq_true rfl) d_Pairs_scoreOf_16 rfl ?_
    refine r_istore C (q := 21) (lv' := [(5, vI r16), (0, .ref ((xW G).h 2)), (1, vI v1), (2, vI v2), (3, vI v3), (4, vI v4)]) d_Pairs_scoreOf_19 (by decide) rfl rfl ?_
    refine r_iload C (q := 23) 0 d_Pairs_scoreOf_21 rfl rfl ?_
    refine r_iconst C (q := 24) d_Pairs_scoreOf_23 rfl ?_
    refine r_ic_eq C (t := 41) (q := 27) d_Pairs_scoreOf_24 (by decide) rfl (fun c24 => ?_) (fun c24 => ?_)
    · replace hf := ite_t c24 hf
      exact r_sub [1, 2, 3, 4, 5] rfl (s_x_Pairs_scoreOf_41 C hk5 hf)
    · replace hf := ite_f c24 hf
      refine r_iload_n C (q := 28) 4 d_Pairs_scoreOf_27 rfl rfl rfl ?_
      refine r_aload_n C (q := 29) 1 d_Pairs_scoreOf_28 rfl rfl rfl ?_
      refine gxx_Pairs_weights C (q := 32) fl_Pairs_35 d_Pairs_scoreOf_29 rfl ?_
      refine r_iload C (q := 34) 5 d_Pairs_scoreOf_32 rfl rfl ?_
      refine r_iload C (q := 36) 0 d_Pairs_scoreOf_34 rfl rfl ?_
      obtain ⟨r36, s36, hg36, hf⟩ := bd_s hf
      refine r_cVI C (q := 39) (As := [vI v4, vI r16]) (k0 := 6) (c_x_Weights_pointsFor C.i hg36) mt_Weights_pointsFor ml_Pairs_63 (Nat.le_of_ble_eq_true rfl) rfl rfl rfl rfl rfl rfl ⟨Nat.le_of_ble_eq_true rfl, Nat.le_of_ble_eq_true rfl⟩ rfl (Nat.le_of_ble_eq_true rfl) d_Pairs_scoreOf_36 rfl ?_
      refine r_iadd C (q := 40) d_Pairs_scoreOf_39 rfl ?_
      refine r_istore_n C (q := 41) (lv' := [(3, vI (v3 + r36)), (5, vI r16), (0, .ref ((xW G).h 2)), (1, vI v1), (2, vI v2), (4, vI v4)]) d_Pairs_scoreOf_40 rfl (by decide) rfl rfl ?_
      exact r_sub [2, 3, 4, 0, 5] rfl (s_x_Pairs_scoreOf_41 C hk5 hf)
theorem c_x_Pairs_scoreOf {l : Launch} {G : GG} (hi : wo_i (xW G)) {N : Nat} {v1 v2 : Int} {s : St} {o : Int × St} (hf : x_Pairs_scoreOf N v1 v2 s = some o) : CtI l (xW G) y_Pairs_scoreOf (wo y_Pairs_scoreOf prog_7_method_3_code 6 (some .int)) rm_x_Pairs_scoreOf [.ref ((xW G).h 2), vI v1, vI v2] s o := by
  refine ct_I (by decide +kernel) hi (Nat.le_of_ble_eq_true rfl) fun X C => ?_
  unfold x_Pairs_scoreOf at hf
  show Rj X (xW G) 6 (qI X (xW G) o) 0 [(0, .ref ((xW G).h 2)), (1, vI v1), (2, vI v2)] [] s
  refine r_iconst C (q := 1) d_Pairs_scoreOf_0 rfl ?_
  refine r_istore_n C (q := 2) (lv' := [(3, vI 0), (0, .ref ((xW G).h 2)), (1, vI v1), (2, vI v2)]) d_Pairs_scoreOf_1 rfl (by decide) rfl rfl ?_
  refine r_iconst C (q := 3) d_Pairs_scoreOf_2 rfl ?_
  refine r_istore C (q := 5) (lv' := [(4, vI 0), (3, vI 0), (0, .ref ((xW G).h 2)), (1, vI v1), (2, vI v2)]) d_Pairs_scoreOf_3 (by decide) rfl rfl ?_
  have hL : ∀ (u3 u4 : Int) (z : St), itr (x_Pairs_scoreOf_5 N v1 v2) (fun _ _ _ => none) N u3 u4 z = some o → Rj X (xW G) 6 (qI X (xW G) o) 5 [(0, .ref ((xW G).h 2)), (1, vI v1), (2, vI v2), (3, vI u3), (4, vI u4)] [] z := itr_ind (x_Pairs_scoreOf_5 N v1 v2) (fun _ _ _ => none) (fun k => ∀ (u3 u4 : Int) (z : St), k u3 u4 z = some o → Rj X (xW G) 6 (qI X (xW G) o) 5 [(0, .ref ((xW G).h 2)), (1, vI v1), (2, vI v2), (3, vI u3), (4, vI u4)] [] z) (fun _ _ _  h => by cases h) (fun k hk u3 u4 z h => s_x_Pairs_scoreOf_5 C hk h) N
  exact r_sub [2, 3, 4, 1, 0] rfl (hL _ _ _  hf)
def x_score (N : Nat) (v1 v2 : Int) (s : St) : MM := bd (x_Rows_arePair N v1 v2 s) (fun r6 s6 => if eq32 r6 0 then (some ((-1000), s6)) else (bd (x_Pairs_scoreOf N v1 v2 s6) (fun r22 s22 => some (r22, s22))))
abbrev rm_x_score : Room := { frames := 3, cells := 0, slots := 0, locals := 74 }
theorem c_x_score {l : Launch} {G : GG} (hi : wo_i (xW G)) {N : Nat} {v1 v2 : Int} {s : St} {o : Int × St} (hf : x_score N v1 v2 s = some o) : CtI l (xW G) y_O_score (wo y_O_score prog_1_method_16_code 3 (some .int)) rm_x_score [.ref ((xW G).h 0), vI v1, vI v2] s o := by
  refine ct_I (by decide +kernel) hi (Nat.le_of_ble_eq_true rfl) fun X C => ?_
  unfold x_score at hf
  show Rj X (xW G) 3 (qI X (xW G) o) 0 [(0, .ref ((xW G).h 0)), (1, vI v1), (2, vI v2)] [] s
  refine r_aload_n C (q := 1) 0 d_O_score_0 rfl rfl rfl ?_
  refine gxx_O_rows C (q := 4) fl_O_27 d_O_score_1 rfl ?_
  refine r_iload_n C (q := 5) 1 d_O_score_4 rfl rfl rfl ?_
  refine r_iload_n C (q := 6) 2 d_O_score_5 rfl rfl rfl ?_
  obtain ⟨r6, s6, hg6, hf⟩ := bd_s hf
  refine r_cVI C (q := 9) (As := [vI v1, vI v2]) (k0 := 3) (c_x_Rows_arePair C.i hg6) mt_Rows_arePair ml_O_190 (Nat.le_of_ble_eq_true rfl) rfl rfl rfl rfl rfl rfl ⟨Nat.le_of_ble_eq_true rfl, Nat.le_of_ble_eq_true rfl⟩ rfl (Nat.le_of_ble_eq_true rfl) d_O_score_6 rfl ?_
  refine r_if_ne C (t := 16) (q := 12) d_O_score_9 (by decide) rfl (fun c9 => ?_) (fun c9 => ?_)
  · replace hf := ite_t c9 hf
    refine r_sipush C (q := 15) (x := (-1000)) d_O_score_12 rfl rfl ?_
    exact r_ireturn C hf d_O_score_15
  · replace hf := ite_f c9 hf
    refine r_aload_n C (q := 17) 0 d_O_score_16 rfl rfl rfl ?_
    refine gxx_O_pairs C (q := 20) fl_O_19 d_O_score_17 rfl ?_
    refine r_iload_n C (q := 21) 1 d_O_score_20 rfl rfl rfl ?_
    refine r_iload_n C (q := 22) 2 d_O_score_21 rfl rfl rfl ?_
    obtain ⟨r22, s22, hg22, hf⟩ := bd_s hf
    refine r_cVI C (q := 25) (As := [vI v1, vI v2]) (k0 := 2) (c_x_Pairs_scoreOf C.i hg22) mt_Pairs_scoreOf ml_O_199 (Nat.le_of_ble_eq_true rfl) rfl rfl rfl rfl rfl rfl ⟨Nat.le_of_ble_eq_true rfl, Nat.le_of_ble_eq_true rfl⟩ rfl (Nat.le_of_ble_eq_true rfl) d_O_score_22 rfl ?_
    exact r_ireturn C hf d_O_score_25
def x_Weights_chanceFor (N : Nat) (v1 v2 v3 : Int) (s : St) : MM := if eq32 v1 0 then (gd (inb ((v2 * 4) + v3) 16) (some (s 26 ((v2 * 4) + v3), s))) else (gd (inb ((v2 * 4) + v3) 16) (some (s 25 ((v2 * 4) + v3), s)))
abbrev rm_x_Weights_chanceFor : Room := { frames := 0, cells := 0, slots := 0, locals := 0 }
theorem c_x_Weights_chanceFor {l : Launch} {G : GG} (hi : wo_i (xW G)) {N : Nat} {v1 v2 v3 : Int} {s : St} {o : Int × St} (hf : x_Weights_chanceFor N v1 v2 v3 s = some o) : CtI l (xW G) y_Weights_chanceFor (wo y_Weights_chanceFor prog_12_method_7_code 5 (some .int)) rm_x_Weights_chanceFor [.ref ((xW G).h 6), vI v1, vI v2, vI v3] s o := by
  refine ct_I (by decide +kernel) hi (Nat.le_of_ble_eq_true rfl) fun X C => ?_
  unfold x_Weights_chanceFor at hf
  show Rj X (xW G) 5 (qI X (xW G) o) 0 [(0, .ref ((xW G).h 6)), (1, vI v1), (2, vI v2), (3, vI v3)] [] s
  refine r_iload_n C (q := 1) 2 d_Weights_chanceFor_0 rfl rfl rfl ?_
  refine r_iconst C (q := 2) d_Weights_chanceFor_1 rfl ?_
  refine r_imul C (q := 3) d_Weights_chanceFor_2 rfl ?_
  refine r_iload_n C (q := 4) 3 d_Weights_chanceFor_3 rfl rfl rfl ?_
  refine r_iadd C (q := 5) d_Weights_chanceFor_4 rfl ?_
  refine r_istore C (q := 7) (lv' := [(4, vI ((v2 * 4) + v3)), (0, .ref ((xW G).h 6)), (1, vI v1), (2, vI v2), (3, vI v3)]) d_Weights_chanceFor_5 (by decide) rfl rfl ?_
  refine r_iload_n C (q := 8) 2 d_Weights_chanceFor_7 rfl rfl rfl ?_
  refine r_if_eq C (t := 21) (q := 11) d_Weights_chanceFor_8 (by decide) rfl (fun c8 => ?_) (fun c8 => ?_)
  · replace hf := ite_t c8 hf
    refine r_aload_n C (q := 22) 1 d_Weights_chanceFor_21 rfl rfl rfl ?_
    refine gxx_Weights_chancesOfNot C (q := 25) fl_Weights_21 d_Weights_chanceFor_22 rfl ?_
    refine r_iload C (q := 27) 0 d_Weights_chanceFor_25 rfl rfl ?_
    obtain ⟨g27, hf⟩ := gd_s hf
    refine r_iald C (q := 28) 26 (Nat.le_of_ble_eq_true rfl) (fun _ => rfl) 0 rfl g27 (by decide) d_Weights_chanceFor_27 rfl ?_
    exact r_ireturn C hf d_Weights_chanceFor_28
  · replace hf := ite_f c8 hf
    refine r_aload_n C (q := 12) 1 d_Weights_chanceFor_11 rfl rfl rfl ?_
    refine gxx_Weights_chancesOfOne C (q := 15) fl_Weights_18 d_Weights_chanceFor_12 rfl ?_
    refine r_iload C (q := 17) 0 d_Weights_chanceFor_15 rfl rfl ?_
    obtain ⟨g17, hf⟩ := gd_s hf
    refine r_iald C (q := 18) 25 (Nat.le_of_ble_eq_true rfl) (fun _ => rfl) 0 rfl g17 (by decide) d_Weights_chanceFor_17 rfl ?_
    refine r_goto C (q := 28) d_Weights_chanceFor_18 (by decide) ?_
    exact r_ireturn C hf d_Weights_chanceFor_28
def x_Weights_tellChance (N : Nat) (v1 v2 v3 v4 : Int) (s : St) : MM := bd (x_Weights_chanceFor N v1 v2 v3 s) (fun r4 s4 => if eq32 v1 0 then (gd (inb ((v2 * 4) + v3) 16) (some (r4, su s4 26 ((v2 * 4) + v3) v4))) else (gd (inb ((v2 * 4) + v3) 16) (some (r4, su s4 25 ((v2 * 4) + v3) v4))))
abbrev rm_x_Weights_tellChance : Room := { frames := 1, cells := 0, slots := 0, locals := 24 }
theorem c_x_Weights_tellChance {l : Launch} {G : GG} (hi : wo_i (xW G)) {N : Nat} {v1 v2 v3 v4 : Int} {s : St} {o : Int × St} (hf : x_Weights_tellChance N v1 v2 v3 v4 s = some o) : CtI l (xW G) y_Weights_tellChance (wo y_Weights_tellChance prog_12_method_6_code 6 (some .int)) rm_x_Weights_tellChance [.ref ((xW G).h 6), vI v1, vI v2, vI v3, vI v4] s o := by
  refine ct_I (by decide +kernel) hi (Nat.le_of_ble_eq_true rfl) fun X C => ?_
  unfold x_Weights_tellChance at hf
  show Rj X (xW G) 6 (qI X (xW G) o) 0 [(0, .ref ((xW G).h 6)), (1, vI v1), (2, vI v2), (3, vI v3), (4, vI v4)] [] s
  refine r_aload_n C (q := 1) 0 d_Weights_tellChance_0 rfl rfl rfl ?_
  refine r_iload_n C (q := 2) 1 d_Weights_tellChance_1 rfl rfl rfl ?_
  refine r_iload_n C (q := 3) 2 d_Weights_tellChance_2 rfl rfl rfl ?_
  refine r_iload_n C (q := 4) 3 d_Weights_tellChance_3 rfl rfl rfl ?_
  obtain ⟨r4, s4, hg4, hf⟩ := bd_s hf
  refine r_cVI C (q := 7) (As := [vI v1, vI v2, vI v3]) (k0 := 6) (c_x_Weights_chanceFor C.i hg4) mt_Weights_chanceFor ml_Weights_47 (Nat.le_of_ble_eq_true rfl) rfl rfl rfl rfl rfl rfl ⟨Nat.le_of_ble_eq_true rfl, Nat.le_of_ble_eq_true rfl⟩ rfl (Nat.le_of_ble_eq_true rfl) d_Weights_tellChance_4 rfl ?_
  refine r_istore C (q := 9) (lv' := [(5, vI r4), (0, .ref ((xW G).h 6)), (1, vI v1), (2, vI v2), (3, vI v3), (4, vI v4)]) d_Weights_tellChance_7 (by decide) rfl rfl ?_
  refine r_iload_n C (q := 10) 2 d_Weights_tellChance_9 rfl rfl rfl ?_
  refine r_if_eq C (t := 28) (q := 13) d_Weights_tellChance_10 (by decide) rfl (fun c10 => ?_) (fun c10 => ?_)
  · replace hf := ite_t c10 hf
    refine r_aload_n C (q := 29) 1 d_Weights_tellChance_28 rfl rfl rfl ?_
    refine gxx_Weights_chancesOfNot C (q := 32) fl_Weights_21 d_Weights_tellChance_29 rfl ?_
    refine r_iload_n C (q := 33) 3 d_Weights_tellChance_32 rfl rfl rfl ?_
    refine r_iconst C (q := 34) d_Weights_tellChance_33 rfl ?_
    refine r_imul C (q := 35) d_Weights_tellChance_34 rfl ?_
    refine r_iload_n C (q := 36) 4 d_Weights_tellChance_35 rfl rfl rfl ?_
    refine r_iadd C (q := 37) d_Weights_tellChance_36 rfl ?_
    refine r_iload C (q := 39) 5 d_Weights_tellChance_37 rfl rfl ?_
    obtain ⟨g39, hf⟩ := gd_s hf
    refine r_iast C (q := 40) 26 (Nat.le_of_ble_eq_true rfl) (fun _ => rfl) 0 rfl g39 (by decide) d_Weights_tellChance_39 rfl ?_
    refine r_iload C (q := 42) 0 d_Weights_tellChance_40 rfl rfl ?_
    exact r_ireturn C hf d_Weights_tellChance_42
  · replace hf := ite_f c10 hf
    refine r_aload_n C (q := 14) 1 d_Weights_tellChance_13 rfl rfl rfl ?_
    refine gxx_Weights_chancesOfOne C (q := 17) fl_Weights_18 d_Weights_tellChance_14 rfl ?_
    refine r_iload_n C (q := 18) 3 d_Weights_tellChance_17 rfl rfl rfl ?_
    refine r_iconst C (q := 19) d_Weights_tellChance_18 rfl ?_
    refine r_imul C (q := 20) d_Weights_tellChance_19 rfl ?_
    refine r_iload_n C (q := 21) 4 d_Weights_tellChance_20 rfl rfl rfl ?_
    refine r_iadd C (q := 22) d_Weights_tellChance_21 rfl ?_
    refine r_iload C (q := 24) 5 d_Weights_tellChance_22 rfl rfl ?_
    obtain ⟨g24, hf⟩ := gd_s hf
    refine r_iast C (q := 25) 25 (Nat.le_of_ble_eq_true rfl) (fun _ => rfl) 0 rfl g24 (by decide) d_Weights_tellChance_24 rfl ?_
    refine r_goto C (q := 40) d_Weights_tellChance_25 (by decide) ?_
    refine r_iload C (q := 42) 0 d_Weights_tellChance_40 rfl rfl ?_
    exact r_ireturn C hf d_Weights_tellChance_42
def x_chance (N : Nat) (v1 v2 v3 v4 : Int) (s : St) : MM := bd (x_isBelow N v2 4 s) (fun r2 s2 => if eq32 r2 0 then (some ((-2), s2)) else (bd (x_isBelow N v3 4 s2) (fun r10 s10 => if eq32 r10 0 then (some ((-2), s10)) else (bd (x_isWithin N v4 1 1000 s10) (fun r22 s22 => if eq32 r22 0 then (some ((-2), s22)) else (bd (x_Weights_tellChance N v1 v2 v3 v4 s22) (fun r40 s40 => some (r40, s40))))))))
abbrev rm_x_chance : Room := { frames := 2, cells := 0, slots := 0, locals := 49 }
theorem c_x_chance {l : Launch} {G : GG} (hi : wo_i (xW G)) {N : Nat} {v1 v2 v3 v4 : Int} {s : St} {o : Int × St} (hf : x_chance N v1 v2 v3 v4 s = some o) : CtI l (xW G) y_O_chance (wo y_O_chance prog_1_method_17_code 5 (some .int)) rm_x_chance [.ref ((xW G).h 0), vI v1, vI v2, vI v3, vI v4] s o := by
  refine ct_I (by decide +kernel) hi (Nat.le_of_ble_eq_true rfl) fun X C => ?_
  unfold x_chance at hf
  show Rj X (xW G) 5 (qI X (xW G) o) 0 [(0, .ref ((xW G).h 0)), (1, vI v1), (2, vI v2), (3, vI v3), (4, vI v4)] [] s
  refine r_iload_n C (q := 1) 2 d_O_chance_0 rfl rfl rfl ?_
  refine r_iconst C (q := 2) d_O_chance_1 rfl ?_
  obtain ⟨r2, s2, hg2, hf⟩ := bd_s hf
  refine r_cSI C (q := 5) (As := [vI v2, vI 4]) (c_x_isBelow C.i hg2) mt_O_isBelow ml_O_88 rfl rfl rfl ⟨Nat.le_of_ble_eq_true rfl, Nat.le_of_ble_eq_true rfl⟩ rfl (Nat.le_of_ble_eq_true rfl) d_O_chance_2 rfl ?_
  refine r_if_eq C (t := 28) (q := 8) d_O_chance_5 (by decide) rfl (fun c5 => ?_) (fun c5 => ?_)
  · replace hf := ite_t c5 hf
    refine r_bipush C (q := 30) (x := (-2)) d_O_chance_28 rfl rfl ?_
    exact r_ireturn C hf d_O_chance_30
  · replace hf := ite_f c5 hf
    refine r_iload_n C (q := 9) 3 d_O_chance_8 rfl rfl rfl ?_
    refine r_iconst C (q := 10) d_O_chance_9 rfl ?_
    obtain ⟨r10, s10, hg10, hf⟩ := bd_s hf
    refine r_cSI C (q := 13) (As := [vI v3, vI 4]) (c_x_isBelow C.i hg10) mt_O_isBelow ml_O_88 rfl rfl rfl ⟨Nat.le_of_ble_eq_true rfl, Nat.le_of_ble_eq_true rfl⟩ rfl (Nat.le_of_ble_eq_true rfl) d_O_chance_10 rfl ?_
    refine r_if_eq C (t := 28) (q := 16) d_O_chance_13 (by decide) rfl (fun c13 => ?_) (fun c13 => ?_)
    · replace hf := ite_t c13 hf
      refine r_bipush C (q := 30) (x := (-2)) d_O_chance_28 rfl rfl ?_
      exact r_ireturn C hf d_O_chance_30
    · replace hf := ite_f c13 hf
      refine r_iload C (q := 18) 4 d_O_chance_16 rfl rfl ?_
      refine r_iconst C (q := 19) d_O_chance_18 rfl ?_
      refine r_sipush C (q := 22) (x := 1000) d_O_chance_19 rfl rfl ?_
      obtain ⟨r22, s22, hg22, hf⟩ := bd_s hf
      refine r_cSI C (q := 25) (As := [vI v4, vI 1, vI 1000]) (c_x_isWithin C.i hg22) mt_O_isWithin ml_O_78 rfl rfl rfl ⟨Nat.le_of_ble_eq_true rfl, Nat.le_of_ble_eq_true rfl⟩ rfl (Nat.le_of_ble_eq_true rfl) d_O_chance_22 rfl ?_
      refine r_if_ne C (t := 31) (q := 28) d_O_chance_25 (by decide) rfl (fun c25 => ?_) (fun c25 => ?_)
      · replace hf := ite_t c25 hf
        refine r_bipush C (q := 30) (x := (-2)) d_O_chance_28 rfl rfl ?_
        exact r_ireturn C hf d_O_chance_30
      · replace hf := ite_f c25 hf
        refine r_aload_n C (q := 32) 0 d_O_chance_31 rfl rfl rfl ?_
        refine gxx_O_weights C (q := 35) fl_O_42 d_O_chance_32 rfl ?_
        refine r_iload_n C (q := 36) 1 d_O_chance_35 rfl rfl rfl ?_
        refine r_iload_n C (q := 37) 2 d_O_chance_36 rfl rfl rfl ?_
        refine r_iload_n C (q := 38) 3 d_O_chance_37 rfl rfl rfl ?_
        refine r_iload C (q := 40) 4 d_O_chance_38 rfl rfl ?_
        obtain ⟨r40, s40, hg40, hf⟩ := bd_s hf
        refine r_cVI C (q := 43) (As := [vI v1, vI v2, vI v3, vI v4]) (k0 := 6) (c_x_Weights_tellChance C.i hg40) mt_Weights_tellChance ml_O_202 (Nat.le_of_ble_eq_true rfl) rfl rfl rfl rfl rfl rfl ⟨Nat.le_of_ble_eq_true rfl, Nat.le_of_ble_eq_true rfl⟩ rfl (Nat.le_of_ble_eq_true rfl) d_O_chance_40 rfl ?_
        exact r_ireturn C hf d_O_chance_43
def x_Pairs_chancesOf_46 (N : Nat) (k6 : Int → Int → St → MM) (v1 v2 v3 v4 v6 : Int) (s : St) : MM := k6 v4 (v6 + 1) s
def x_Pairs_chancesOf_6 (N : Nat) (v1 v2 v3 : Int) (k6 : Int → Int → St → MM) (v4 v6 : Int) (s : St) : MM := if le32 4 v6 then (some (v4, s)) else (bd (x_Pairs_levelOf N v1 v2 v6 s) (fun r17 s17 => if eq32 r17 ((-1)) then (x_Pairs_chancesOf_46 N k6 v1 v2 v3 v4 v6  s17) else (bd (x_Weights_chanceFor N v3 v6 r17 s17) (fun r39 s39 => x_Pairs_chancesOf_46 N k6 v1 v2 v3 (v4 * (s32 r39)) v6  s39))))
def x_Pairs_chancesOf (N : Nat) (v1 v2 v3 : Int) (s : St) : MM := itr (x_Pairs_chancesOf_6 N v1 v2 v3) (fun _ _ _ => none) N 1 0 s
abbrev rm_x_Pairs_chancesOf : Room := { frames := 2, cells := 0, slots := 0, locals := 49 }
theorem s_x_Pairs_chancesOf_46 {X : CxT} {l : Launch} {G : GG} (C : Cx X l (xW G) 8 prog_7_method_4_code "OneSelf$Pairs" (wo y_Pairs_chancesOf prog_7_method_4_code 8 (some .long)) (some .long) rm_x_Pairs_chancesOf) {o : Int × St} {N : Nat} {v1 v2 v3 v4 v6 : Int} {k6 : Int → Int → St → MM} (hk6 : ∀ (u4 u6 : Int) (s : St), k6 u4 u6 s = some o → Rj X (xW G) 8 (qL X (xW G) o) 6 [(0, .ref ((xW G).h 2)), (1, vI v1), (2, vI v2), (3, vI v3), (4, vJ u4), (6, vI u6)] [] s) {s : St} (hf : x_Pairs_chancesOf_46 N k6 v1 v2 v3 v4 v6 s = some o) : Rj X (xW G) 8 (qL X (xW G) o) 46 [(0, .ref ((xW G).h 2)), (1, vI v1), (2, vI v2), (3, vI v3), (4, vJ v4), (6, vI v6)] [] s := by
  unfold x_Pairs_chancesOf_46 at hf
  refine r_iinc C (q := 49) (lv' := [(6, vI (v6 + 1)), (0, .ref ((xW G).h 2)), (1, vI v1), (2, vI v2), (3, vI v3), (4, vJ v4)]) 5 d_Pairs_chancesOf_46 rfl (by decide) rfl rfl ?_
  refine r_goto C (q := 6) d_Pairs_chancesOf_49 (by decide) ?_
  exact r_sub [1, 2, 3, 4, 5, 0] rfl (hk6 _ _ _  hf)
theorem s_x_Pairs_chancesOf_6 {X : CxT} {l : Launch} {G : GG} (C : Cx X l (xW G) 8 prog_7_method_4_code "OneSelf$Pairs" (wo y_Pairs_chancesOf prog_7_method_4_code 8 (some .long)) (some .long) rm_x_Pairs_chancesOf) {o : Int × St} {N : Nat} {v1 v2 v3 v4 v6 : Int} {k6 : Int → Int → St → MM} (hk6 : ∀ (u4 u6 : Int) (s : St), k6 u4 u6 s = some o → Rj X (xW G) 8 (qL X (xW G) o) 6 [(0, .ref ((xW G).h 2)), (1, vI v1), (2, vI v2), (3, vI v3), (4, vJ u4), (6, vI u6)] [] s) {s : St} (hf : x_Pairs_chancesOf_6 N v1 v2 v3 k6 v4 v6 s = some o) : Rj X (xW G) 8 (qL X (xW G) o) 6 [(0, .ref ((xW G).h 2)), (1, vI v1), (2, vI v2), (3, vI v3), (4, vJ v4), (6, vI v6)] [] s := by
  unfold x_Pairs_chancesOf_6 at hf
  refine r_iload C (q := 8) 5 d_Pairs_chancesOf_6 rfl rfl ?_
  refine r_iconst C (q := 9) d_Pairs_chancesOf_8 rfl ?_
  refine r_ic_ge C (t := 52) (q := 12) d_Pairs_chancesOf_9 (by decide) rfl (fun c9 => ?_) (fun c9 => ?_)
  · replace hf := ite_t c9 hf
    refine r_lload C (q := 54) 4 d_Pairs_chancesOf_52 rfl rfl ?_
    exact r_lreturn C hf d_Pairs_chancesOf_54
  · replace hf := ite_f c9 hf
    refine r_aload_n C (q := 13) 0 d_Pairs_chancesOf_12 rfl rfl rfl ?_
    refine r_iload_n C (q := 14) 1 d_Pairs_chancesOf_13 rfl rfl rfl ?_
    refine r_iload_n C (q := 15) 2 d_Pairs_chancesOf_14 rfl rfl rfl ?_
    refine r_iload C (q := 17) 5 d_Pairs_chancesOf_15 rfl rfl ?_
    obtain ⟨r17, s17, hg17, hf⟩ := bd_s hf
    refine r_cVI C (q := 20) (As := [vI v1, vI v2, vI v6]) (k0 := 2) (c_x_Pairs_levelOf C.i hg17) mt_Pairs_levelOf ml_Pairs_59 (Nat.le_of_ble_eq_true rfl) rfl rfl rfl rfl rfl rfl ⟨Nat.le_of_ble_eq_true rfl, Nat.le_of_ble_eq_true rfl⟩ rfl (Nat.le_of_ble_eq_true rfl) d_Pairs_chancesOf_17 rfl ?_
    refine r_istore C (q := 22) (lv' := [(7, vI r17), (0, .ref ((xW G).h 2)), (1, vI v1), (2, vI v2), (3, vI v3), (4, vJ v4), (6, vI v6)]) d_Pairs_chancesOf_20 (by decide) rfl rfl ?_
    refine r_iload C (q := 24) 0 d_Pairs_chancesOf_22 rfl rfl ?_
    refine r_iconst C (q := 25) d_Pairs_chancesOf_24 rfl ?_
    refine r_ic_eq C (t := 46) (q := 28) d_Pairs_chancesOf_25 (by decide) rfl (fun c25 => ?_) (fun c25 => ?_)
    · replace hf := ite_t c25 hf
      exact r_sub [1, 2, 3, 4, 5, 6] rfl (s_x_Pairs_chancesOf_46 C hk6 hf)
    · replace hf := ite_f c25 hf
      refine r_lload C (q := 30) 5 d_Pairs_chancesOf_28 rfl rfl ?_
      refine r_aload_n C (q := 31) 1 d_Pairs_chancesOf_30 rfl rfl rfl ?_
      refine gxx_Pairs_weights C (q := 34) fl_Pairs_35 d_Pairs_chancesOf_31 rfl ?_
      refine r_iload_n C (q := 35) 4 d_Pairs_chancesOf_34 rfl rfl rfl ?_
      refine r_iload C (q := 37) 6 d_Pairs_chancesOf_35 rfl rfl ?_
      refine r_iload C (q := 39) 0 d_Pairs_chancesOf_37 rfl rfl ?_
      obtain ⟨r39, s39, hg39, hf⟩ := bd_s hf
      refine r_cVI C (q := 42) (As := [vI v3, vI v6, vI r17]) (k0 := 6) (c_x_Weights_chanceFor C.i hg39) mt_Weights_chanceFor ml_Pairs_66 (Nat.le_of_ble_eq_true rfl) rfl rfl rfl rfl rfl rfl ⟨Nat.le_of_ble_eq_true rfl, Nat.le_of_ble_eq_true rfl⟩ rfl (Nat.le_of_ble_eq_true rfl) d_Pairs_chancesOf_39 rfl ?_
      refine r_i2l C (q := 43) d_Pairs_chancesOf_42 rfl ?_
      refine r_lmul C (q := 44) d_Pairs_chancesOf_43 rfl ?_
      refine r_lstore C (q := 46) (lv' := [(4, vJ (v4 * (s32 r39))), (7, vI r17), (0, .ref ((xW G).h 2)), (1, vI v1), (2, vI v2), (3, vI v3), (6, vI v6)]) d_Pairs_chancesOf_44 (by decide) rfl rfl ?_
      exact r_sub [2, 3, 4, 5, 0, 6] rfl (s_x_Pairs_chancesOf_46 C hk6 hf)
theorem c_x_Pairs_chancesOf {l : Launch} {G : GG} (hi : wo_i (xW G)) {N : Nat} {v1 v2 v3 : Int} {s : St} {o : Int × St} (hf : x_Pairs_chancesOf N v1 v2 v3 s = some o) : CtL l (xW G) y_Pairs_chancesOf (wo y_Pairs_chancesOf prog_7_method_4_code 8 (some .long)) rm_x_Pairs_chancesOf [.ref ((xW G).h 2), vI v1, vI v2, vI v3] s o := by
  refine ct_L (by decide +kernel) hi (Nat.le_of_ble_eq_true rfl) fun X C => ?_
  unfold x_Pairs_chancesOf at hf
  show Rj X (xW G) 8 (qL X (xW G) o) 0 [(0, .ref ((xW G).h 2)), (1, vI v1), (2, vI v2), (3, vI v3)] [] s
  refine r_lconst C (q := 1) (x := 1) d_Pairs_chancesOf_0 rfl rfl ?_
  refine r_lstore C (q := 3) (lv' := [(4, vJ 1), (0, .ref ((xW G).h 2)), (1, vI v1), (2, vI v2), (3, vI v3)]) d_Pairs_chancesOf_1 (by decide) rfl rfl ?_
  refine r_iconst C (q := 4) d_Pairs_chancesOf_3 rfl ?_
  refine r_istore C (q := 6) (lv' := [(6, vI 0), (4, vJ 1), (0, .ref ((xW G).h 2)), (1, vI v1), (2, vI v2), (3, vI v3)]) d_Pairs_chancesOf_4 (by decide) rfl rfl ?_
  have hL : ∀ (u4 u6 : Int) (z : St), itr (x_Pairs_chancesOf_6 N v1 v2 v3) (fun _ _ _ => none) N u4 u6 z = some o → Rj X (xW G) 8 (qL X (xW G) o) 6 [(0, .ref ((xW G).h 2)), (1, vI v1), (2, vI v2), (3, vI v3), (4, vJ u4), (6, vI u6)] [] z := itr_ind (x_Pairs_chancesOf_6 N v1 v2 v3) (fun _ _ _ => none) (fun k => ∀ (u4 u6 : Int) (z : St), k u4 u6 z = some o → Rj X (xW G) 8 (qL X (xW G) o) 6 [(0, .ref ((xW G).h 2)), (1, vI v1), (2, vI v2), (3, vI v3), (4, vJ u4), (6, vI u6)] [] z) (fun _ _ _  h => by cases h) (fun k hk u4 u6 z h => s_x_Pairs_chancesOf_6 C hk h) N
  exact r_sub [2, 3, 4, 5, 1, 0] rfl (hL _ _ _  hf)
def x_Pairs_greatestDivisor_45 (N : Nat) (v4 : Int) (s : St) : MM := some (mx64 1 v4, s)
def x_Pairs_greatestDivisor_9 (N : Nat) (k9 : Int → Int → Int → St → MM) (v4 v6 v8 : Int) (s : St) : MM := if le32 200 v8 then (x_Pairs_greatestDivisor_45 N v4  s) else (if eq64 v6 0 then (x_Pairs_greatestDivisor_45 N v4  s) else (gd (¬ eq64 v6 0) (k9 v6 (v4 - dv64 v4 v6 * v6) (v8 + 1) s)))
def x_Pairs_greatestDivisor (N : Nat) (v0 v2 : Int) (s : St) : MM := itr (x_Pairs_greatestDivisor_9 N ) (fun _ _ _ _ => none) N v0 v2 0 s
abbrev rm_x_Pairs_greatestDivisor : Room := { frames := 1, cells := 0, slots := 0, locals := 23 }
theorem s_x_Pairs_greatestDivisor_45 {X : CxT} {l : Launch} {G : GG} (C : Cx X l (xW G) 11 prog_7_method_5_code "OneSelf$Pairs" (wo y_Pairs_greatestDivisor prog_7_method_5_code 11 (some .long)) (some .long) rm_x_Pairs_greatestDivisor) {o : Int × St} {N : Nat} {v4 : Int} {s : St} (hf : x_Pairs_greatestDivisor_45 N v4 s = some o) : Rj X (xW G) 11 (qL X (xW G) o) 45 [(4, vJ v4)] [] s := by
  unfold x_Pairs_greatestDivisor_45 at hf
  refine r_lconst C (q := 46) (x := 1) d_Pairs_greatestDivisor_45 rfl rfl ?_
  refine r_lload C (q := 48) 0 d_Pairs_greatestDivisor_46 rfl rfl ?_
  refine r_mmax_long C (q := 51) ml_Pairs_70 mM_max_long (Nat.le_of_ble_eq_true rfl) (Nat.le_of_ble_eq_true rfl) (Nat.le_of_ble_eq_true rfl) d_Pairs_greatestDivisor_48 rfl ?_
  exact r_lreturn C hf d_Pairs_greatestDivisor_51
theorem s_x_Pairs_greatestDivisor_9 {X : CxT} {l : Launch} {G : GG} (C : Cx X l (xW G) 11 prog_7_method_5_code "OneSelf$Pairs" (wo y_Pairs_greatestDivisor prog_7_method_5_code 11 (some .long)) (some .long) rm_x_Pairs_greatestDivisor) {o : Int × St} {N : Nat} {v4 v6 v8 : Int} {k9 : Int → Int → Int → St → MM} (hk9 : ∀ (u4 u6 u8 : Int) (s : St), k9 u4 u6 u8 s = some o → Rj X (xW G) 11 (qL X (xW G) o) 9 [(4, vJ u4), (6, vJ u6), (8, vI u8)] [] s) {s : St} (hf : x_Pairs_greatestDivisor_9 N  k9 v4 v6 v8 s = some o) : Rj X (xW G) 11 (qL X (xW G) o) 9 [(4, vJ v4), (6, vJ v6), (8, vI v8)] [] s := by
  unfold x_Pairs_greatestDivisor_9 at hf
  refine r_iload C (q := 11) 2 d_Pairs_greatestDivisor_9 rfl rfl ?_
  refine r_sipush C (q := 14) (x := 200) d_Pairs_greatestDivisor_11 rfl rfl ?_
  refine r_ic_ge C (t := 45) (q := 17) d_Pairs_greatestDivisor_14 (by decide) rfl (fun c14 => ?_) (fun c14 => ?_)
  · replace hf := ite_t c14 hf
    exact r_sub [0] rfl (s_x_Pairs_greatestDivisor_45 C hf)
  · replace hf := ite_f c14 hf
    refine r_lload C (q := 19) 1 d_Pairs_greatestDivisor_17 rfl rfl ?_
    refine r_lconst C (q := 20) (x := 0) d_Pairs_greatestDivisor_19 rfl rfl ?_
    refine r_lc_eq C (t := 45) (q := 21) (q2 := 24) d_Pairs_greatestDivisor_20 rfl d_Pairs_greatestDivisor_21 (by decide) rfl (fun c20 => ?_) (fun c20 => ?_)
    · replace hf := ite_t c20 hf
      exact r_sub [0] rfl (s_x_Pairs_greatestDivisor_45 C hf)
    · replace hf := ite_f c20 hf
      refine r_lload C (q := 26) 0 d_Pairs_greatestDivisor_24 rfl rfl ?_
      refine r_lload C (q := 28) 1 d_Pairs_greatestDivisor_26 rfl rfl ?_
      obtain ⟨g28, hf⟩ := gd_s hf
      refine r_lrem C (q := 29) g28 d_Pairs_greatestDivisor_28 rfl ?_
      refine r_lstore C (q := 31) (lv' := [(9, vJ (v4 - dv64 v4 v6 * v6)), (4, vJ v4), (6, vJ v6), (8, vI v8)]) d_Pairs_greatestDivisor_29 (by decide) rfl rfl ?_
      refine r_lload C (q := 33) 2 d_Pairs_greatestDivisor_31 rfl rfl ?_
      refine r_lstore C (q := 35) (lv' := [(4, vJ v6), (9, vJ (v4 - dv64 v4 v6 * v6)), (6, vJ v6), (8, vI v8)]) d_Pairs_greatestDivisor_33 (by decide) rfl rfl ?_
      refine r_lload C (q := 37) 1 d_Pairs_greatestDivisor_35 rfl rfl ?_
      refine r_lstore C (q := 39) (lv' := [(6, vJ (v4 - dv64 v4 v6 * v6)), (4, vJ v6), (9, vJ (v4 - dv64 v4 v6 * v6)), (8, vI v8)]) d_Pairs_greatestDivisor_37 (by decide) rfl rfl ?_
      refine r_iinc C (q := 42) (lv' := [(8, vI (v8 + 1)), (6, vJ (v4 - dv64 v4 v6 * v6)), (4, vJ v6), (9, vJ (v4 - dv64 v4 v6 * v6))]) 3 d_Pairs_greatestDivisor_39 rfl (by decide) rfl rfl ?_
      refine r_goto C (q := 9) d_Pairs_greatestDivisor_42 (by decide) ?_
      exact r_sub [2, 1, 0] rfl (hk9 _ _ _ _  hf)
theorem c_x_Pairs_greatestDivisor {l : Launch} {G : GG} (hi : wo_i (xW G)) {N : Nat} {v0 v2 : Int} {s : St} {o : Int × St} (hf : x_Pairs_greatestDivisor N v0 v2 s = some o) : CtL l (xW G) y_Pairs_greatestDivisor (wo y_Pairs_greatestDivisor prog_7_method_5_code 11 (some .long)) rm_x_Pairs_greatestDivisor [vJ v0, vJ v2] s o := by
  refine ct_L (by decide +kernel) hi (Nat.le_of_ble_eq_true rfl) fun X C => ?_
  unfold x_Pairs_greatestDivisor at hf
  show Rj X (xW G) 11 (qL X (xW G) o) 0 [(0, vJ v0), (2, vJ v2)] [] s
  refine r_lload_n C (q := 1) 0 d_Pairs_greatestDivisor_0 rfl rfl rfl ?_
  refine r_lstore C (q := 3) (lv' := [(4, vJ v0), (0, vJ v0), (2, vJ v2)]) d_Pairs_greatestDivisor_1 (by decide) rfl rfl ?_
  refine r_lload_n C (q := 4) 2 d_Pairs_greatestDivisor_3 rfl rfl rfl ?_
  refine r_lstore C (q := 6) (lv' := [(6, vJ v2), (4, vJ v0), (0, vJ v0), (2, vJ v2)]) d_Pairs_greatestDivisor_4 (by decide) rfl rfl ?_
  refine r_iconst C (q := 7) d_Pairs_greatestDivisor_6 rfl ?_
  refine r_istore C (q := 9) (lv' := [(8, vI 0), (6, vJ v2), (4, vJ v0), (0, vJ v0), (2, vJ v2)]) d_Pairs_greatestDivisor_7 (by decide) rfl rfl ?_
  have hL : ∀ (u4 u6 u8 : Int) (z : St), itr (x_Pairs_greatestDivisor_9 N ) (fun _ _ _ _ => none) N u4 u6 u8 z = some o → Rj X (xW G) 11 (qL X (xW G) o) 9 [(4, vJ u4), (6, vJ u6), (8, vI u8)] [] z := itr_ind (x_Pairs_greatestDivisor_9 N ) (fun _ _ _ _ => none) (fun k => ∀ (u4 u6 u8 : Int) (z : St), k u4 u6 u8 z = some o → Rj X (xW G) 11 (qL X (xW G) o) 9 [(4, vJ u4), (6, vJ u6), (8, vI u8)] [] z) (fun _ _ _ _  h => by cases h) (fun k hk u4 u6 u8 z h => s_x_Pairs_greatestDivisor_9 C hk h) N
  exact r_sub [2, 1, 0] rfl (hL _ _ _ _  hf)
def x_odds (N : Nat) (v1 v2 v3 : Int) (s : St) : MM := bd (x_Rows_arePair N v1 v2 s) (fun r6 s6 => if eq32 r6 0 then (some ((-9223372036854775808), s6)) else (bd (x_isBelow N v3 2 s6) (fun r14 s14 => if eq32 r14 0 then (some ((-9223372036854775808), s14)) else (bd (x_Pairs_chancesOf N v1 v2 1 s14) (fun r31 s31 => bd (x_Pairs_chancesOf N v1 v2 0 s31) (fun r43 s43 => bd (x_Pairs_greatestDivisor N r31 r43 s43) (fun r52 s52 => if eq32 v3 0 then (gd (¬ eq64 r52 0) (some (dv64 r31 r52, s52))) else (gd (¬ eq64 r52 0) (some (dv64 r43 r52, s52))))))))))
abbrev rm_x_odds : Room := { frames := 3, cells := 0, slots := 0, locals := 76 }
theorem c_x_odds {l : Launch} {G : GG} (hi : wo_i (xW G)) {N : Nat} {v1 v2 v3 : Int} {s : St} {o : Int × St} (hf : x_odds N v1 v2 v3 s = some o) : CtL l (xW G) y_O_odds (wo y_O_odds prog_1_method_18_code 10 (some .long)) rm_x_odds [.ref ((xW G).h 0), vI v1, vI v2, vI v3] s o := by
  refine ct_L (by decide +kernel) hi (Nat.le_of_ble_eq_true rfl) fun X C => ?_
  unfold x_odds at hf
  show Rj X (xW G) 10 (qL X (xW G) o) 0 [(0, .ref ((xW G).h 0)), (1, vI v1), (2, vI v2), (3, vI v3)] [] s
  refine r_aload_n C (q := 1) 0 d_O_odds_0 rfl rfl rfl ?_
  refine gxx_O_rows C (q := 4) fl_O_27 d_O_odds_1 rfl ?_
  refine r_iload_n C (q := 5) 1 d_O_odds_4 rfl rfl rfl ?_
  refine r_iload_n C (q := 6) 2 d_O_odds_5 rfl rfl rfl ?_
  obtain ⟨r6, s6, hg6, hf⟩ := bd_s hf
  refine r_cVI C (q := 9) (As := [vI v1, vI v2]) (k0 := 3) (c_x_Rows_arePair C.i hg6) mt_Rows_arePair ml_O_190 (Nat.le_of_ble_eq_true rfl) rfl rfl rfl rfl rfl rfl ⟨Nat.le_of_ble_eq_true rfl, Nat.le_of_ble_eq_true rfl⟩ rfl (Nat.le_of_ble_eq_true rfl) d_O_odds_6 rfl ?_
  refine r_if_eq C (t := 20) (q := 12) d_O_odds_9 (by decide) rfl (fun c9 => ?_) (fun c9 => ?_)
  · replace hf := ite_t c9 hf
    refine r_ldc2 C (q := 23) (x := (-9223372036854775808)) kc_O_206 rfl d_O_odds_20 rfl ?_
    exact r_lreturn C hf d_O_odds_23
  · replace hf := ite_f c9 hf
    refine r_iload_n C (q := 13) 3 d_O_odds_12 rfl rfl rfl ?_
    refine r_iconst C (q := 14) d_O_odds_13 rfl ?_
    obtain ⟨r14, s14, hg14, hf⟩ := bd_s hf
    refine r_cSI C (q := 17) (As := [vI v3, vI 2]) (c_x_isBelow C.i hg14) mt_O_isBelow ml_O_88 rfl rfl rfl ⟨Nat.le_of_ble_eq_true rfl, Nat.le_of_ble_eq_true rfl⟩ rfl (Nat.le_of_ble_eq_true rfl) d_O_odds_14 rfl ?_
    refine r_if_ne C (t := 24) (q := 20) d_O_odds_17 (by decide) rfl (fun c17 => ?_) (fun c17 => ?_)
    · replace hf := ite_t c17 hf
      refine r_ldc2 C (q := 23) (x := (-9223372036854775808)) kc_O_206 rfl d_O_odds_20 rfl ?_
      exact r_lreturn C hf d_O_odds_23
    · replace hf := ite_f c17 hf
      refine r_aload_n C (q := 25) 0 d_O_odds_24 rfl rfl rfl ?_
      refine gxx_O_pairs C (q := 28) fl_O_19 d_O_odds_25 rfl ?_
      refine r_iload_n C (q := 29) 1 d_O_odds_28 rfl rfl rfl ?_
      refine r_iload_n C (q := 30) 2 d_O_odds_29 rfl rfl rfl ?_
      refine r_iconst C (q := 31) d_O_odds_30 rfl ?_
      obtain ⟨r31, s31, hg31, hf⟩ := bd_s hf
      refine r_cVL C (q := 34) (As := [vI v1, vI v2, vI 1]) (k0 := 2) (c_x_Pairs_chancesOf C.i hg31) mt_Pairs_chancesOf ml_O_208 (Nat.le_of_ble_eq_true rfl) rfl rfl rfl rfl rfl rfl ⟨Nat.le_of_ble_eq_true rfl, Nat.le_of_ble_eq_true rfl⟩ rfl (Nat.le_of_ble_eq_true rfl) d_O_odds_31 rfl ?_
      refine r_lstore C (q := 36) (lv' := [(4, vJ r31), (0, .ref ((xW G).h 0)), (1, vI v1), (2, vI v2), (3, vI v3)]) d_O_odds_34 (by decide) rfl rfl ?_
      refine r_aload_n C (q := 37) 1 d_O_odds_36 rfl rfl rfl ?_
      refine gxx_O_pairs C (q := 40) fl_O_19 d_O_odds_37 rfl ?_
      refine r_iload_n C (q := 41) 2 d_O_odds_40 rfl rfl rfl ?_
      refine r_iload_n C (q := 42) 3 d_O_odds_41 rfl rfl rfl ?_
      refine r_iconst C (q := 43) d_O_odds_42 rfl ?_
      obtain ⟨r43, s43, hg43, hf⟩ := bd_s hf
      refine r_cVL C (q := 46) (As := [vI v1, vI v2, vI 0]) (k0 := 2) (c_x_Pairs_chancesOf C.i hg43) mt_Pairs_chancesOf ml_O_208 (Nat.le_of_ble_eq_true rfl) rfl rfl rfl rfl rfl rfl ⟨Nat.le_of_ble_eq_true rfl, Nat.le_of_ble_eq_true rfl⟩ rfl (Nat.le_of_ble_eq_true rfl) d_O_odds_43 rfl ?_
      refine r_lstore C (q := 48) (lv' := [(6, vJ r43), (4, vJ r31), (0, .ref ((xW G).h 0)), (1, vI v1), (2, vI v2), (3, vI v3)]) d_O_odds_46 (by decide) rfl rfl ?_
      refine r_lload C (q := 50) 1 d_O_odds_48 rfl rfl ?_
      refine r_lload C (q := 52) 0 d_O_odds_50 rfl rfl ?_
      obtain ⟨r52, s52, hg52, hf⟩ := bd_s hf
      refine r_cSL C (q := 55) (As := [vJ r31, vJ r43]) (c_x_Pairs_greatestDivisor C.i hg52) mt_Pairs_greatestDivisor ml_O_212 rfl rfl rfl ⟨Nat.le_of_ble_eq_true rfl, Nat.le_of_ble_eq_true rfl⟩ rfl (Nat.le_of_ble_eq_true rfl) d_O_odds_52 rfl ?_
      refine r_lstore C (q := 57) (lv' := [(8, vJ r52), (6, vJ r43), (4, vJ r31), (0, .ref ((xW G).h 0)), (1, vI v1), (2, vI v2), (3, vI v3)]) d_O_odds_55 (by decide) rfl rfl ?_
      refine r_iload_n C (q := 58) 6 d_O_odds_57 rfl rfl rfl ?_
      refine r_if_ne C (t := 66) (q := 61) d_O_odds_58 (by decide) rfl (fun c58 => ?_) (fun c58 => ?_)
      · replace hf := ite_t c58 hf
        refine r_lload C (q := 63) 2 d_O_odds_61 rfl rfl ?_
        refine r_goto C (q := 68) d_O_odds_63 (by decide) ?_
        refine r_lload C (q := 70) 0 d_O_odds_68 rfl rfl ?_
        obtain ⟨g70, hf⟩ := gd_s hf
        refine r_ldiv C (q := 71) g70 d_O_odds_70 rfl ?_
        exact r_lreturn C hf d_O_odds_71
      · replace hf := ite_f c58 hf
        refine r_lload C (q := 68) 1 d_O_odds_66 rfl rfl ?_
        refine r_lload C (q := 70) 0 d_O_odds_68 rfl rfl ?_
        obtain ⟨g70, hf⟩ := gd_s hf
        refine r_ldiv C (q := 71) g70 d_O_odds_70 rfl ?_
        exact r_lreturn C hf d_O_odds_71
def x_Pairs_millionths_17 (N : Nat) (v2 : Int) (k17 : Int → Int → Int → St → MM) (v4 v5 v7 : Int) (s : St) : MM := if le32 6 v7 then (some (v4, s)) else (gd (¬ eq64 v2 0) (gd (¬ eq64 v2 0) (k17 ((v4 * 10) + (dv64 (v5 * 10) v2)) ((v5 * 10) - dv64 (v5 * 10) v2 * v2) (v7 + 1) s)))
def x_Pairs_millionths (N : Nat) (v0 v2 : Int) (s : St) : MM := if le64 1 v2 then (itr (x_Pairs_millionths_17 N v2) (fun _ _ _ _ => none) N 0 v0 0 s) else (some (0, s))
abbrev rm_x_Pairs_millionths : Room := { frames := 0, cells := 0, slots := 0, locals := 0 }
theorem s_x_Pairs_millionths_17 {X : CxT} {l : Launch} {G : GG} (C : Cx X l (xW G) 8 prog_7_method_6_code "OneSelf$Pairs" (wo y_Pairs_millionths prog_7_method_6_code 8 (some .int)) (some .int) rm_x_Pairs_millionths) {o : Int × St} {N : Nat} {v2 v4 v5 v7 : Int} {k17 : Int → Int → Int → St → MM} (hk17 : ∀ (u4 u5 u7 : Int) (s : St), k17 u4 u5 u7 s = some o → Rj X (xW G) 8 (qI X (xW G) o) 17 [(2, vJ v2), (4, vI u4), (5, vJ u5), (7, vI u7)] [] s) {s : St} (hf : x_Pairs_millionths_17 N v2 k17 v4 v5 v7 s = some o) : Rj X (xW G) 8 (qI X (xW G) o) 17 [(2, vJ v2), (4, vI v4), (5, vJ v5), (7, vI v7)] [] s := by
  unfold x_Pairs_millionths_17 at hf
  refine r_iload C (q := 19) 3 d_Pairs_millionths_17 rfl rfl ?_
  refine r_bipush C (q := 21) (x := 6) d_Pairs_millionths_19 rfl rfl ?_
  refine r_ic_ge C (t := 57) (q := 24) d_Pairs_millionths_21 (by decide) rfl (fun c21 => ?_) (fun c21 => ?_)
  · replace hf := ite_t c21 hf
    refine r_iload C (q := 59) 1 d_Pairs_millionths_57 rfl rfl ?_
    exact r_ireturn C hf d_Pairs_millionths_59
  · replace hf := ite_f c21 hf
    refine r_lload C (q := 26) 2 d_Pairs_millionths_24 rfl rfl ?_
    refine r_ldc2 C (q := 29) (x := 10) kc_Pairs_74 rfl d_Pairs_millionths_26 rfl ?_
    refine r_lmul C (q := 30) d_Pairs_millionths_29 rfl ?_
    refine r_lstore C (q := 32) (lv' := [(5, vJ (v5 * 10)), (2, vJ v2), (4, vI v4), (7, vI v7)]) d_Pairs_millionths_30 (by decide) rfl rfl ?_
    refine r_iload C (q := 34) 2 d_Pairs_millionths_32 rfl rfl ?_
    refine r_bipush C (q := 36) (x := 10) d_Pairs_millionths_34 rfl rfl ?_
    refine r_imul C (q := 37) d_Pairs_millionths_36 rfl ?_
    refine r_lload C (q := 39) 0 d_Pairs_millionths_37 rfl rfl ?_
    refine r_lload_n C (q := 40) 1 d_Pairs_millionths_39 rfl rfl rfl ?_
    obtain ⟨g40, hf⟩ := gd_s hf
    refine r_ldiv C (q := 41) g40 d_Pairs_millionths_40 rfl ?_
    refine r_l2i C (q := 42) d_Pairs_millionths_41 rfl ?_
    refine r_iadd C (q := 43) d_Pairs_millionths_42 rfl ?_
    refine r_istore C (q := 45) (lv' := [(4, vI ((v4 * 10) + (dv64 (v5 * 10) v2))), (5, vJ (v5 * 10)), (2, vJ v2), (7, vI v7)]) d_Pairs_millionths_43 (by decide) rfl rfl ?_
    refine r_lload C (q := 47) 1 d_Pairs_millionths_45 rfl rfl ?_
    refine r_lload_n C (q := 48) 2 d_Pairs_millionths_47 rfl rfl rfl ?_
    obtain ⟨g48, hf⟩ := gd_s hf
    refine r_lrem C (q := 49) g48 d_Pairs_millionths_48 rfl ?_
    refine r_lstore C (q := 51) (lv' := [(5, vJ ((v5 * 10) - dv64 (v5 * 10) v2 * v2)), (4, vI ((v4 * 10) + (dv64 (v5 * 10) v2))), (2, vJ v2), (7, vI v7)]) d_Pairs_millionths_49 (by decide) rfl rfl ?_
    refine r_iinc C (q := 54) (lv' := [(7, vI (v7 + 1)), (5, vJ ((v5 * 10) - dv64 (v5 * 10) v2 * v2)), (4, vI ((v4 * 10) + (dv64 (v5 * 10) v2))), (2, vJ v2)]) 3 d_Pairs_millionths_51 rfl (by decide) rfl rfl ?_
    refine r_goto C (q := 17) d_Pairs_millionths_54 (by decide) ?_
    exact r_sub [3, 2, 1, 0] rfl (hk17 _ _ _ _  hf)
theorem c_x_Pairs_millionths {l : Launch} {G : GG} (hi : wo_i (xW G)) {N : Nat} {v0 v2 : Int} {s : St} {o : Int × St} (hf : x_Pairs_millionths N v0 v2 s = some o) : CtI l (xW G) y_Pairs_millionths (wo y_Pairs_millionths prog_7_method_6_code 8 (some .int)) rm_x_Pairs_millionths [vJ v0, vJ v2] s o := by
  refine ct_I (by decide +kernel) hi (Nat.le_of_ble_eq_true rfl) fun X C => ?_
  unfold x_Pairs_millionths at hf
  show Rj X (xW G) 8 (qI X (xW G) o) 0 [(0, vJ v0), (2, vJ v2)] [] s
  refine r_lload_n C (q := 1) 1 d_Pairs_millionths_0 rfl rfl rfl ?_
  refine r_lconst C (q := 2) (x := 1) d_Pairs_millionths_1 rfl rfl ?_
  refine r_lc_ge C (t := 8) (q := 3) (q2 := 6) d_Pairs_millionths_2 rfl d_Pairs_millionths_3 (by decide) rfl (fun c2 => ?_) (fun c2 => ?_)
  · replace hf := ite_t c2 hf
    refine r_iconst C (q := 9) d_Pairs_millionths_8 rfl ?_
    refine r_istore C (q := 11) (lv' := [(4, vI 0), (0, vJ v0), (2, vJ v2)]) d_Pairs_millionths_9 (by decide) rfl rfl ?_
    refine r_lload_n C (q := 12) 1 d_Pairs_millionths_11 rfl rfl rfl ?_
    refine r_lstore C (q := 14) (lv' := [(5, vJ v0), (4, vI 0), (0, vJ v0), (2, vJ v2)]) d_Pairs_millionths_12 (by decide) rfl rfl ?_
    refine r_iconst C (q := 15) d_Pairs_millionths_14 rfl ?_
    refine r_istore C (q := 17) (lv' := [(7, vI 0), (5, vJ v0), (4, vI 0), (0, vJ v0), (2, vJ v2)]) d_Pairs_millionths_15 (by decide) rfl rfl ?_
    have hL : ∀ (u4 u5 u7 : Int) (z : St), itr (x_Pairs_millionths_17 N v2) (fun _ _ _ _ => none) N u4 u5 u7 z = some o → Rj X (xW G) 8 (qI X (xW G) o) 17 [(2, vJ v2), (4, vI u4), (5, vJ u5), (7, vI u7)] [] z := itr_ind (x_Pairs_millionths_17 N v2) (fun _ _ _ _ => none) (fun k => ∀ (u4 u5 u7 : Int) (z : St), k u4 u5 u7 z = some o → Rj X (xW G) 8 (qI X (xW G) o) 17 [(2, vJ v2), (4, vI u4), (5, vJ u5), (7, vI u7)] [] z) (fun _ _ _ _  h => by cases h) (fun k hk u4 u5 u7 z h => s_x_Pairs_millionths_17 C hk h) N
    exact r_sub [4, 2, 1, 0] rfl (hL _ _ _ _  hf)
  · replace hf := ite_f c2 hf
    refine r_iconst C (q := 7) d_Pairs_millionths_6 rfl ?_
    exact r_ireturn C hf d_Pairs_millionths_7
def x_belief (N : Nat) (v1 v2 v3 v4 : Int) (s : St) : MM := bd (x_Rows_arePair N v1 v2 s) (fun r6 s6 => if eq32 r6 0 then (some ((-2), s6)) else (bd (x_isWithin N v3 1 1000 s6) (fun r17 s17 => if eq32 r17 0 then (some ((-2), s17)) else (bd (x_isWithin N v4 (v3 + 1) 100000 s17) (fun r30 s30 => if eq32 r30 0 then (some ((-2), s30)) else (bd (x_Pairs_chancesOf N v1 v2 1 s30) (fun r48 s48 => bd (x_Pairs_chancesOf N v1 v2 0 s48) (fun r66 s66 => bd (x_Pairs_millionths N ((s32 v3) * r48) (((s32 v3) * r48) + ((s32 (v4 - v3)) * r66)) s66) (fun r79 s79 => some (r79, s79))))))))))
abbrev rm_x_belief : Room := { frames := 3, cells := 0, slots := 0, locals := 76 }
theorem c_x_belief {l : Launch} {G : GG} (hi : wo_i (xW G)) {N : Nat} {v1 v2 v3 v4 : Int} {s : St} {o : Int × St} (hf : x_belief N v1 v2 v3 v4 s = some o) : CtI l (xW G) y_O_belief (wo y_O_belief prog_1_method_19_code 9 (some .int)) rm_x_belief [.ref ((xW G).h 0), vI v1, vI v2, vI v3, vI v4] s o := by
  refine ct_I (by decide +kernel) hi (Nat.le_of_ble_eq_true rfl) fun X C => ?_
  unfold x_belief at hf
  show Rj X (xW G) 9 (qI X (xW G) o) 0 [(0, .ref ((xW G).h 0)), (1, vI v1), (2, vI v2), (3, vI v3), (4, vI v4)] [] s
  refine r_aload_n C (q := 1) 0 d_O_belief_0 rfl rfl rfl ?_
  refine gxx_O_rows C (q := 4) fl_O_27 d_O_belief_1 rfl ?_
  refine r_iload_n C (q := 5) 1 d_O_belief_4 rfl rfl rfl ?_
  refine r_iload_n C (q := 6) 2 d_O_belief_5 rfl rfl rfl ?_
  obtain ⟨r6, s6, hg6, hf⟩ := bd_s hf
  refine r_cVI C (q := 9) (As := [vI v1, vI v2]) (k0 := 3) (c_x_Rows_arePair C.i hg6) mt_Rows_arePair ml_O_190 (Nat.le_of_ble_eq_true rfl) rfl rfl rfl rfl rfl rfl ⟨Nat.le_of_ble_eq_true rfl, Nat.le_of_ble_eq_true rfl⟩ rfl (Nat.le_of_ble_eq_true rfl) d_O_belief_6 rfl ?_
  refine r_if_eq C (t := 36) (q := 12) d_O_belief_9 (by decide) rfl (fun c9 => ?_) (fun c9 => ?_)
  · replace hf := ite_t c9 hf
    refine r_bipush C (q := 38) (x := (-2)) d_O_belief_36 rfl rfl ?_
    exact r_ireturn C hf d_O_belief_38
  · replace hf := ite_f c9 hf
    refine r_iload_n C (q := 13) 3 d_O_belief_12 rfl rfl rfl ?_
    refine r_iconst C (q := 14) d_O_belief_13 rfl ?_
    refine r_sipush C (q := 17) (x := 1000) d_O_belief_14 rfl rfl ?_
    obtain ⟨r17, s17, hg17, hf⟩ := bd_s hf
    refine r_cSI C (q := 20) (As := [vI v3, vI 1, vI 1000]) (c_x_isWithin C.i hg17) mt_O_isWithin ml_O_78 rfl rfl rfl ⟨Nat.le_of_ble_eq_true rfl, Nat.le_of_ble_eq_true rfl⟩ rfl (Nat.le_of_ble_eq_true rfl) d_O_belief_17 rfl ?_
    refine r_if_eq C (t := 36) (q := 23) d_O_belief_20 (by decide) rfl (fun c20 => ?_) (fun c20 => ?_)
    · replace hf := ite_t c20 hf
      refine r_bipush C (q := 38) (x := (-2)) d_O_belief_36 rfl rfl ?_
      exact r_ireturn C hf d_O_belief_38
    · replace hf := ite_f c20 hf
      refine r_iload C (q := 25) 4 d_O_belief_23 rfl rfl ?_
      refine r_iload_n C (q := 26) 3 d_O_belief_25 rfl rfl rfl ?_
      refine r_iconst C (q := 27) d_O_belief_26 rfl ?_
      refine r_iadd C (q := 28) d_O_belief_27 rfl ?_
      refine r_ldc C (q := 30) (x := 100000) kc_O_216 rfl d_O_belief_28 rfl ?_
      obtain ⟨r30, s30, hg30, hf⟩ := bd_s hf
      refine r_cSI C (q := 33) (As := [vI v4, vI (v3 + 1), vI 100000]) (c_x_isWithin C.i hg30) mt_O_isWithin ml_O_78 rfl rfl rfl ⟨Nat.le_of_ble_eq_true rfl, Nat.le_of_ble_eq_true rfl⟩ rfl (Nat.le_of_ble_eq_true rfl) d_O_belief_30 rfl ?_
      refine r_if_ne C (t := 39) (q := 36) d_O_belief_33 (by decide) rfl (fun c33 => ?_) (fun c33 => ?_)
      · replace hf := ite_t c33 hf
        refine r_bipush C (q := 38) (x := (-2)) d_O_belief_36 rfl rfl ?_
        exact r_ireturn C hf d_O_belief_38
      · replace hf := ite_f c33 hf
        refine r_iload_n C (q := 40) 3 d_O_belief_39 rfl rfl rfl ?_
        refine r_i2l C (q := 41) d_O_belief_40 rfl ?_
        refine r_aload_n C (q := 42) 0 d_O_belief_41 rfl rfl rfl ?_
        refine gxx_O_pairs C (q := 45) fl_O_19 d_O_belief_42 rfl ?_
        refine r_iload_n C (q := 46) 1 d_O_belief_45 rfl rfl rfl ?_
        refine r_iload_n C (q := 47) 2 d_O_belief_46 rfl rfl rfl ?_
        refine r_iconst C (q := 48) d_O_belief_47 rfl ?_
        obtain ⟨r48, s48, hg48, hf⟩ := bd_s hf
        refine r_cVL C (q := 51) (As := [vI v1, vI v2, vI 1]) (k0 := 2) (c_x_Pairs_chancesOf C.i hg48) mt_Pairs_chancesOf ml_O_208 (Nat.le_of_ble_eq_true rfl) rfl rfl rfl rfl rfl rfl ⟨Nat.le_of_ble_eq_true rfl, Nat.le_of_ble_eq_true rfl⟩ rfl (Nat.le_of_ble_eq_true rfl) d_O_belief_48 rfl ?_
        refine r_lmul C (q := 52) d_O_belief_51 rfl ?_
        refine r_lstore C (q := 54) (lv' := [(5, vJ ((s32 v3) * r48)), (0, .ref ((xW G).h 0)), (1, vI v1), (2, vI v2), (3, vI v3), (4, vI v4)]) d_O_belief_52 (by decide) rfl rfl ?_
        refine r_iload C (q := 56) 5 d_O_belief_54 rfl rfl ?_
        refine r_iload_n C (q := 57) 4 d_O_belief_56 rfl rfl rfl ?_
        refine r_isub C (q := 58) d_O_belief_57 rfl ?_
        refine r_i2l C (q := 59) d_O_belief_58 rfl ?_
        refine r_aload_n C (q := 60) 1 d_O_belief_59 rfl rfl rfl ?_
        refine gxx_O_pairs C (q := 63) fl_O_19 d_O_belief_60 rfl ?_
        refine r_iload_n C (q := 64) 2 d_O_belief_63 rfl rfl rfl ?_
        refine r_iload_n C (q := 65) 3 d_O_belief_64 rfl rfl rfl ?_
        refine r_iconst C (q := 66) d_O_belief_65 rfl ?_
        obtain ⟨r66, s66, hg66, hf⟩ := bd_s hf
        refine r_cVL C (q := 69) (As := [vI v1, vI v2, vI 0]) (k0 := 2) (c_x_Pairs_chancesOf C.i hg66) mt_Pairs_chancesOf ml_O_208 (Nat.le_of_ble_eq_true rfl) rfl rfl rfl rfl rfl rfl ⟨Nat.le_of_ble_eq_true rfl, Nat.le_of_ble_eq_true rfl⟩ rfl (Nat.le_of_ble_eq_true rfl) d_O_belief_66 rfl ?_
        refine r_lmul C (q := 70) d_O_belief_69 rfl ?_
        refine r_lstore C (q := 72) (lv' := [(7, vJ ((s32 (v4 - v3)) * r66)), (5, vJ ((s32 v3) * r48)), (0, .ref ((xW G).h 0)), (1, vI v1), (2, vI v2), (3, vI v3), (4, vI v4)]) d_O_belief_70 (by decide) rfl rfl ?_
        refine r_lload C (q := 74) 1 d_O_belief_72 rfl rfl ?_
        refine r_lload C (q := 76) 1 d_O_belief_74 rfl rfl ?_
        refine r_lload C (q := 78) 0 d_O_belief_76 rfl rfl ?_
        refine r_ladd C (q := 79) d_O_belief_78 rfl ?_
        obtain ⟨r79, s79, hg79, hf⟩ := bd_s hf
        refine r_cSI C (q := 82) (As := [vJ ((s32 v3) * r48), vJ (((s32 v3) * r48) + ((s32 (v4 - v3)) * r66))]) (c_x_Pairs_millionths C.i hg79) mt_Pairs_millionths ml_O_217 rfl rfl rfl ⟨Nat.le_of_ble_eq_true rfl, Nat.le_of_ble_eq_true rfl⟩ rfl (Nat.le_of_ble_eq_true rfl) d_O_belief_79 rfl ?_
        exact r_ireturn C hf d_O_belief_82
def x_line (N : Nat) (v1 : Int) (s : St) : MM := bd (x_isWithin N v1 ((-400)) 400 s) (fun r7 s7 => if eq32 r7 0 then (some ((-1000), s7)) else (some (s7 6 4, su s7 6 4 v1)))
abbrev rm_x_line : Room := { frames := 1, cells := 0, slots := 0, locals := 22 }
theorem c_x_line {l : Launch} {G : GG} (hi : wo_i (xW G)) {N : Nat} {v1 : Int} {s : St} {o : Int × St} (hf : x_line N v1 s = some o) : CtI l (xW G) y_O_line (wo y_O_line prog_1_method_20_code 3 (some .int)) rm_x_line [.ref ((xW G).h 0), vI v1] s o := by
  refine ct_I (by decide +kernel) hi (Nat.le_of_ble_eq_true rfl) fun X C => ?_
  unfold x_line at hf
  show Rj X (xW G) 3 (qI X (xW G) o) 0 [(0, .ref ((xW G).h 0)), (1, vI v1)] [] s
  refine r_iload_n C (q := 1) 1 d_O_line_0 rfl rfl rfl ?_
  refine r_sipush C (q := 4) (x := (-400)) d_O_line_1 rfl rfl ?_
  refine r_sipush C (q := 7) (x := 400) d_O_line_4 rfl rfl ?_
  obtain ⟨r7, s7, hg7, hf⟩ := bd_s hf
  refine r_cSI C (q := 10) (As := [vI v1, vI ((-400)), vI 400]) (c_x_isWithin C.i hg7) mt_O_isWithin ml_O_78 rfl rfl rfl ⟨Nat.le_of_ble_eq_true rfl, Nat.le_of_ble_eq_true rfl⟩ rfl (Nat.le_of_ble_eq_true rfl) d_O_line_7 rfl ?_
  refine r_if_ne C (t := 17) (q := 13) d_O_line_10 (by decide) rfl (fun c10 => ?_) (fun c10 => ?_)
  · replace hf := ite_t c10 hf
    refine r_sipush C (q := 16) (x := (-1000)) d_O_line_13 rfl rfl ?_
    exact r_ireturn C hf d_O_line_16
  · replace hf := ite_f c10 hf
    refine r_aload_n C (q := 18) 0 d_O_line_17 rfl rfl rfl ?_
    refine gxx_O_weights C (q := 21) fl_O_42 d_O_line_18 rfl ?_
    refine gnx_Weights_line C (q := 24) fn_O_221 d_O_line_21 rfl ?_
    refine r_istore_n C (q := 25) (lv' := [(2, vI (s7 6 4)), (0, .ref ((xW G).h 0)), (1, vI v1)]) d_O_line_24 rfl (by decide) rfl rfl ?_
    refine r_aload_n C (q := 26) 1 d_O_line_25 rfl rfl rfl ?_
    refine gxx_O_weights C (q := 29) fl_O_42 d_O_line_26 rfl ?_
    refine r_iload_n C (q := 30) 2 d_O_line_29 rfl rfl rfl ?_
    refine pnx_Weights_line C (q := 33) fn_O_221 d_O_line_30 rfl ?_
    refine r_iload_n C (q := 34) 0 d_O_line_33 rfl rfl rfl ?_
    exact r_ireturn C hf d_O_line_34
def x_Rows_areKnown (N : Nat) (v1 v2 : Int) (s : St) : MM := bd (x_Rows_isKnown N v1 s) (fun r2 s2 => if eq32 r2 0 then (some (0, s2)) else (bd (x_Rows_isKnown N v2 s2) (fun r10 s10 => if eq32 r10 0 then (some (0, s10)) else (some (1, s10)))))
abbrev rm_x_Rows_areKnown : Room := { frames := 2, cells := 0, slots := 0, locals := 45 }
theorem c_x_Rows_areKnown {l : Launch} {G : GG} (hi : wo_i (xW G)) {N : Nat} {v1 v2 : Int} {s : St} {o : Int × St} (hf : x_Rows_areKnown N v1 v2 s = some o) : CtI l (xW G) y_Rows_areKnown (wo y_Rows_areKnown prog_8_method_11_code 3 (some .boolean)) rm_x_Rows_areKnown [.ref ((xW G).h 3), vI v1, vI v2] s o := by
  refine ct_I (by decide +kernel) hi (Nat.le_of_ble_eq_true rfl) fun X C => ?_
  unfold x_Rows_areKnown at hf
  show Rj X (xW G) 3 (qI X (xW G) o) 0 [(0, .ref ((xW G).h 3)), (1, vI v1), (2, vI v2)] [] s
  refine r_aload_n C (q := 1) 0 d_Rows_areKnown_0 rfl rfl rfl ?_
  refine r_iload_n C (q := 2) 1 d_Rows_areKnown_1 rfl rfl rfl ?_
  obtain ⟨r2, s2, hg2, hf⟩ := bd_s hf
  refine r_cVI C (q := 5) (As := [vI v1]) (k0 := 3) (c_x_Rows_isKnown C.i hg2) mt_Rows_isKnown ml_Rows_43 (Nat.le_of_ble_eq_true rfl) rfl rfl rfl rfl rfl rfl ⟨Nat.le_of_ble_eq_true rfl, Nat.le_of_ble_eq_true rfl⟩ rfl (Nat.le_of_ble_eq_true rfl) d_Rows_areKnown_2 rfl ?_
  refine r_if_eq C (t := 20) (q := 8) d_Rows_areKnown_5 (by decide) rfl (fun c5 => ?_) (fun c5 => ?_)
  · replace hf := ite_t c5 hf
    refine r_iconst C (q := 21) d_Rows_areKnown_20 rfl ?_
    exact r_zreturn C (by decide) hf d_Rows_areKnown_21
  · replace hf := ite_f c5 hf
    refine r_aload_n C (q := 9) 0 d_Rows_areKnown_8 rfl rfl rfl ?_
    refine r_iload_n C (q := 10) 2 d_Rows_areKnown_9 rfl rfl rfl ?_
    obtain ⟨r10, s10, hg10, hf⟩ := bd_s hf
    refine r_cVI C (q := 13) (As := [vI v2]) (k0 := 3) (c_x_Rows_isKnown C.i hg10) mt_Rows_isKnown ml_Rows_43 (Nat.le_of_ble_eq_true rfl) rfl rfl rfl rfl rfl rfl ⟨Nat.le_of_ble_eq_true rfl, Nat.le_of_ble_eq_true rfl⟩ rfl (Nat.le_of_ble_eq_true rfl) d_Rows_areKnown_10 rfl ?_
    refine r_if_eq C (t := 20) (q := 16) d_Rows_areKnown_13 (by decide) rfl (fun c13 => ?_) (fun c13 => ?_)
    · replace hf := ite_t c13 hf
      refine r_iconst C (q := 21) d_Rows_areKnown_20 rfl ?_
      exact r_zreturn C (by decide) hf d_Rows_areKnown_21
    · replace hf := ite_f c13 hf
      refine r_iconst C (q := 17) d_Rows_areKnown_16 rfl ?_
      refine r_goto C (q := 21) d_Rows_areKnown_17 (by decide) ?_
      exact r_zreturn C (by decide) hf d_Rows_areKnown_21
def x_Pairs_areLinked (N : Nat) (v1 v2 : Int) (s : St) : MM := bd (x_Rows_areKnown N v1 v2 s) (fun r6 s6 => if eq32 r6 0 then (some (0, s6)) else (bd (x_Pairs_scoreOf N v1 v2 s6) (fun r15 s15 => if lt32 r15 (s15 6 4) then (some (0, s15)) else (some (1, s15)))))
abbrev rm_x_Pairs_areLinked : Room := { frames := 3, cells := 0, slots := 0, locals := 74 }
theorem c_x_Pairs_areLinked {l : Launch} {G : GG} (hi : wo_i (xW G)) {N : Nat} {v1 v2 : Int} {s : St} {o : Int × St} (hf : x_Pairs_areLinked N v1 v2 s = some o) : CtI l (xW G) y_Pairs_areLinked (wo y_Pairs_areLinked prog_7_method_7_code 3 (some .boolean)) rm_x_Pairs_areLinked [.ref ((xW G).h 2), vI v1, vI v2] s o := by
  refine ct_I (by decide +kernel) hi (Nat.le_of_ble_eq_true rfl) fun X C => ?_
  unfold x_Pairs_areLinked at hf
  show Rj X (xW G) 3 (qI X (xW G) o) 0 [(0, .ref ((xW G).h 2)), (1, vI v1), (2, vI v2)] [] s
  refine r_aload_n C (q := 1) 0 d_Pairs_areLinked_0 rfl rfl rfl ?_
  refine gxx_Pairs_rows C (q := 4) fl_Pairs_12 d_Pairs_areLinked_1 rfl ?_
  refine r_iload_n C (q := 5) 1 d_Pairs_areLinked_4 rfl rfl rfl ?_
  refine r_iload_n C (q := 6) 2 d_Pairs_areLinked_5 rfl rfl rfl ?_
  obtain ⟨r6, s6, hg6, hf⟩ := bd_s hf
  refine r_cVI C (q := 9) (As := [vI v1, vI v2]) (k0 := 3) (c_x_Rows_areKnown C.i hg6) mt_Rows_areKnown ml_Pairs_76 (Nat.le_of_ble_eq_true rfl) rfl rfl rfl rfl rfl rfl ⟨Nat.le_of_ble_eq_true rfl, Nat.le_of_ble_eq_true rfl⟩ rfl (Nat.le_of_ble_eq_true rfl) d_Pairs_areLinked_6 rfl ?_
  refine r_if_eq C (t := 32) (q := 12) d_Pairs_areLinked_9 (by decide) rfl (fun c9 => ?_) (fun c9 => ?_)
  · replace hf := ite_t c9 hf
    refine r_iconst C (q := 33) d_Pairs_areLinked_32 rfl ?_
    exact r_zreturn C (by decide) hf d_Pairs_areLinked_33
  · replace hf := ite_f c9 hf
    refine r_aload_n C (q := 13) 0 d_Pairs_areLinked_12 rfl rfl rfl ?_
    refine r_iload_n C (q := 14) 1 d_Pairs_areLinked_13 rfl rfl rfl ?_
    refine r_iload_n C (q := 15) 2 d_Pairs_areLinked_14 rfl rfl rfl ?_
    obtain ⟨r15, s15, hg15, hf⟩ := bd_s hf
    refine r_cVI C (q := 18) (As := [vI v1, vI v2]) (k0 := 2) (c_x_Pairs_scoreOf C.i hg15) mt_Pairs_scoreOf ml_Pairs_79 (Nat.le_of_ble_eq_true rfl) rfl rfl rfl rfl rfl rfl ⟨Nat.le_of_ble_eq_true rfl, Nat.le_of_ble_eq_true rfl⟩ rfl (Nat.le_of_ble_eq_true rfl) d_Pairs_areLinked_15 rfl ?_
    refine r_aload_n C (q := 19) 0 d_Pairs_areLinked_18 rfl rfl rfl ?_
    refine gxx_Pairs_weights C (q := 22) fl_Pairs_35 d_Pairs_areLinked_19 rfl ?_
    refine gnx_Weights_line C (q := 25) fn_Pairs_82 d_Pairs_areLinked_22 rfl ?_
    refine r_ic_lt C (t := 32) (q := 28) d_Pairs_areLinked_25 (by decide) rfl (fun c25 => ?_) (fun c25 => ?_)
    · replace hf := ite_t c25 hf
      refine r_iconst C (q := 33) d_Pairs_areLinked_32 rfl ?_
      exact r_zreturn C (by decide) hf d_Pairs_areLinked_33
    · replace hf := ite_f c25 hf
      refine r_iconst C (q := 29) d_Pairs_areLinked_28 rfl ?_
      refine r_goto C (q := 33) d_Pairs_areLinked_29 (by decide) ?_
      exact r_zreturn C (by decide) hf d_Pairs_areLinked_33
def x_Pairs_countLinks_42 (N : Nat) (k4 : Int → Int → St → MM) (k19 : Int → Int → St → MM) (v1 v2 v3 : Int) (s : St) : MM := k19 v1 (v3 + 1) s
def x_Pairs_countLinks_19 (N : Nat) (k4 : Int → Int → St → MM) (v2 : Int) (k19 : Int → Int → St → MM) (v1 v3 : Int) (s : St) : MM := if le32 (s 3 2) v3 then (k4 v1 (v2 + 1) s) else (bd (x_Pairs_areLinked N v2 v3 s) (fun r33 s33 => if eq32 r33 0 then (x_Pairs_countLinks_42 N k4 k19 v1 v2 v3  s33) else (x_Pairs_countLinks_42 N k4 k19 (v1 + 1) v2 v3  s33)))
def x_Pairs_countLinks_4 (N : Nat) (k4 : Int → Int → St → MM) (v1 v2 : Int) (s : St) : MM := if le32 (s 3 2) v2 then (some (v1, s)) else (itr (x_Pairs_countLinks_19 N k4 v2) (fun _ _ _ => none) N v1 (v2 + 1) s)
def x_Pairs_countLinks (N : Nat) (s : St) : MM := itr (x_Pairs_countLinks_4 N ) (fun _ _ _ => none) N 0 0 s
abbrev rm_x_Pairs_countLinks : Room := { frames := 4, cells := 0, slots := 0, locals := 96 }
theorem s_x_Pairs_countLinks_42 {X : CxT} {l : Launch} {G : GG} (C : Cx X l (xW G) 4 prog_7_method_8_code "OneSelf$Pairs" (wo y_Pairs_countLinks prog_7_method_8_code 4 (some .int)) (some .int) rm_x_Pairs_countLinks) {o : Int × St} {N : Nat} {v1 v2 v3 : Int} {k4 : Int → Int → St → MM} (hk4 : ∀ (u1 u2 : Int) (s : St), k4 u1 u2 s = some o → Rj X (xW G) 4 (qI X (xW G) o) 4 [(0, .ref ((xW G).h 2)), (1, vI u1), (2, vI u2)] [] s) {k19 : Int → Int → St → MM} (hk19 : ∀ (u1 u3 : Int) (s : St), k19 u1 u3 s = some o → Rj X (xW G) 4 (qI X (xW G) o) 19 [(0, .ref ((xW G).h 2)), (1, vI u1), (2, vI v2), (3, vI u3)] [] s) {s : St} (hf : x_Pairs_countLinks_42 N k4 k19 v1 v2 v3 s = some o) : Rj X (xW G) 4 (qI X (xW G) o) 42 [(0, .ref ((xW G).h 2)), (1, vI v1), (2, vI v2), (3, vI v3)] [] s := by
  unfold x_Pairs_countLinks_42 at hf
  refine r_iinc C (q := 45) (lv' := [(3, vI (v3 + 1)), (0, .ref ((xW G).h 2)), (1, vI v1), (2, vI v2)]) 3 d_Pairs_countLinks_42 rfl (by decide) rfl rfl ?_
  refine r_goto C (q := 19) d_Pairs_countLinks_45 (by decide) ?_
  exact r_sub [1, 2, 3, 0] rfl (hk19 _ _ _  hf)
theorem s_x_Pairs_countLinks_19 {X : CxT} {l : Launch} {G : GG} (C : Cx X l (xW G) 4 prog_7_method_8_code "OneSelf$Pairs" (wo y_Pairs_countLinks prog_7_method_8_code 4 (some .int)) (some .int) rm_x_Pairs_countLinks) {o : Int × St} {N : Nat} {v1 v2 v3 : Int} {k4 : Int → Int → St → MM} (hk4 : ∀ (u1 u2 : Int) (s : St), k4 u1 u2 s = some o → Rj X (xW G) 4 (qI X (xW G) o) 4 [(0, .ref ((xW G).h 2)), (1, vI u1), (2, vI u2)] [] s) {k19 : Int → Int → St → MM} (hk19 : ∀ (u1 u3 : Int) (s : St), k19 u1 u3 s = some o → Rj X (xW G) 4 (qI X (xW G) o) 19 [(0, .ref ((xW G).h 2)), (1, vI u1), (2, vI v2), (3, vI u3)] [] s) {s : St} (hf : x_Pairs_countLinks_19 N k4 v2 k19 v1 v3 s = some o) : Rj X (xW G) 4 (qI X (xW G) o) 19 [(0, .ref ((xW G).h 2)), (1, vI v1), (2, vI v2), (3, vI v3)] [] s := by
  unfold x_Pairs_countLinks_19 at hf
  refine r_iload_n C (q := 20) 3 d_Pairs_countLinks_19 rfl rfl rfl ?_
  refine r_aload_n C (q := 21) 0 d_Pairs_countLinks_20 rfl rfl rfl ?_
  refine gxx_Pairs_rows C (q := 24) fl_Pairs_12 d_Pairs_countLinks_21 rfl ?_
  refine gnx_Rows_many C (q := 27) fn_Pairs_86 d_Pairs_countLinks_24 rfl ?_
  refine r_ic_ge C (t := 48) (q := 30) d_Pairs_countLinks_27 (by decide) rfl (fun c27 => ?_) (fun c27 => ?_)
  · replace hf := ite_t c27 hf
    refine r_iinc C (q := 51) (lv' := [(2, vI (v2 + 1)), (0, .ref ((xW G).h 2)), (1, vI v1), (3, vI v3)]) 2 d_Pairs_countLinks_48 rfl (by decide) rfl rfl ?_
    refine r_goto C (q := 4) d_Pairs_countLinks_51 (by decide) ?_
    exact r_sub [1, 2, 0] rfl (hk4 _ _ _  hf)
  · replace hf := ite_f c27 hf
    refine r_aload_n C (q := 31) 0 d_Pairs_countLinks_30 rfl rfl rfl ?_
    refine r_iload_n C (q := 32) 2 d_Pairs_countLinks_31 rfl rfl rfl ?_
    refine r_iload_n C (q := 33) 3 d_Pairs_countLinks_32 rfl rfl rfl ?_
    obtain ⟨r33, s33, hg33, hf⟩ := bd_s hf
    refine r_cVI C (q := 36) (As := [vI v2, vI v3]) (k0 := 2) (c_x_Pairs_areLinked C.i hg33) mt_Pairs_areLinked ml_Pairs_89 (Nat.le_of_ble_eq_true rfl) rfl rfl rfl rfl rfl rfl ⟨Nat.le_of_ble_eq_true rfl, Nat.le_of_ble_eq_true rfl⟩ rfl (Nat.le_of_ble_eq_true rfl) d_Pairs_countLinks_33 rfl ?_
    refine r_if_eq C (t := 42) (q := 39) d_Pairs_countLinks_36 (by decide) rfl (fun c36 => ?_) (fun c36 => ?_)
    · replace hf := ite_t c36 hf
      exact r_sub [0, 1, 2, 3] rfl (s_x_Pairs_countLinks_42 C hk4 hk19 hf)
    · replace hf := ite_f c36 hf
      refine r_iinc C (q := 42) (lv' := [(1, vI (v1 + 1)), (0, .ref ((xW G).h 2)), (2, vI v2), (3, vI v3)]) 1 d_Pairs_countLinks_39 rfl (by decide) rfl rfl ?_
      exact r_sub [1, 0, 2, 3] rfl (s_x_Pairs_countLinks_42 C hk4 hk19 hf)
theorem s_x_Pairs_countLinks_4 {X : CxT} {l : Launch} {G : GG} (C : Cx X l (xW G) 4 prog_7_method_8_code "OneSelf$Pairs" (wo y_Pairs_countLinks prog_7_method_8_code 4 (some .int)) (some .int) rm_x_Pairs_countLinks) {o : Int × St} {N : Nat} {v1 v2 : Int} {k4 : Int → Int → St → MM} (hk4 : ∀ (u1 u2 : Int) (s : St), k4 u1 u2 s = some o → Rj X (xW G) 4 (qI X (xW G) o) 4 [(0, .ref ((xW G).h 2)), (1, vI u1), (2, vI u2)] [] s) {s : St} (hf : x_Pairs_countLinks_4 N  k4 v1 v2 s = some o) : Rj X (xW G) 4 (qI X (xW G) o) 4 [(0, .ref ((xW G).h 2)), (1, vI v1), (2, vI v2)] [] s := by
  unfold x_Pairs_countLinks_4 at hf
  refine r_iload_n C (q := 5) 2 d_Pairs_countLinks_4 rfl rfl rfl ?_
  refine r_aload_n C (q := 6) 0 d_Pairs_countLinks_5 rfl rfl rfl ?_
  refine gxx_Pairs_rows C (q := 9) fl_Pairs_12 d_Pairs_countLinks_6 rfl ?_
  refine gnx_Rows_many C (q := 12) fn_Pairs_86 d_Pairs_countLinks_9 rfl ?_
  refine r_ic_ge C (t := 54) (q := 15) d_Pairs_countLinks_12 (by decide) rfl (fun c12 => ?_) (fun c12 => ?_)
  · replace hf := ite_t c12 hf
    refine r_iload_n C (q := 55) 1 d_Pairs_countLinks_54 rfl rfl rfl ?_
    exact r_ireturn C hf d_Pairs_countLinks_55
  · replace hf := ite_f c12 hf
    refine r_iload_n C (q := 16) 2 d_Pairs_countLinks_15 rfl rfl rfl ?_
    refine r_iconst C (q := 17) d_Pairs_countLinks_16 rfl ?_
    refine r_iadd C (q := 18) d_Pairs_countLinks_17 rfl ?_
    refine r_istore_n C (q := 19) (lv' := [(3, vI (v2 + 1)), (0, .ref ((xW G).h 2)), (1, vI v1), (2, vI v2)]) d_Pairs_countLinks_18 rfl (by decide) rfl rfl ?_
    have hL : ∀ (u1 u3 : Int) (z : St), itr (x_Pairs_countLinks_19 N k4 v2) (fun _ _ _ => none) N u1 u3 z = some o → Rj X (xW G) 4 (qI X (xW G) o) 19 [(0, .ref ((xW G).h 2)), (1, vI u1), (2, vI v2), (3, vI u3)] [] z := itr_ind (x_Pairs_countLinks_19 N k4 v2) (fun _ _ _ => none) (fun k => ∀ (u1 u3 : Int) (z : St), k u1 u3 z = some o → Rj X (xW G) 4 (qI X (xW G) o) 19 [(0, .ref ((xW G).h 2)), (1, vI u1), (2, vI v2), (3, vI u3)] [] z) (fun _ _ _  h => by cases h) (fun k hk u1 u3 z h => s_x_Pairs_countLinks_19 C hk4 hk h) N
    exact r_sub [1, 2, 3, 0] rfl (hL _ _ _  hf)
theorem c_x_Pairs_countLinks {l : Launch} {G : GG} (hi : wo_i (xW G)) {N : Nat} {s : St} {o : Int × St} (hf : x_Pairs_countLinks N s = some o) : CtI l (xW G) y_Pairs_countLinks (wo y_Pairs_countLinks prog_7_method_8_code 4 (some .int)) rm_x_Pairs_countLinks [.ref ((xW G).h 2)] s o := by
  refine ct_I (by decide +kernel) hi (Nat.le_of_ble_eq_true rfl) fun X C => ?_
  unfold x_Pairs_countLinks at hf
  show Rj X (xW G) 4 (qI X (xW G) o) 0 [(0, .ref ((xW G).h 2))] [] s
  refine r_iconst C (q := 1) d_Pairs_countLinks_0 rfl ?_
  refine r_istore_n C (q := 2) (lv' := [(1, vI 0), (0, .ref ((xW G).h 2))]) d_Pairs_countLinks_1 rfl (by decide) rfl rfl ?_
  refine r_iconst C (q := 3) d_Pairs_countLinks_2 rfl ?_
  refine r_istore_n C (q := 4) (lv' := [(2, vI 0), (1, vI 0), (0, .ref ((xW G).h 2))]) d_Pairs_countLinks_3 rfl (by decide) rfl rfl ?_
  have hL : ∀ (u1 u2 : Int) (z : St), itr (x_Pairs_countLinks_4 N ) (fun _ _ _ => none) N u1 u2 z = some o → Rj X (xW G) 4 (qI X (xW G) o) 4 [(0, .ref ((xW G).h 2)), (1, vI u1), (2, vI u2)] [] z := itr_ind (x_Pairs_countLinks_4 N ) (fun _ _ _ => none) (fun k => ∀ (u1 u2 : Int) (z : St), k u1 u2 z = some o → Rj X (xW G) 4 (qI X (xW G) o) 4 [(0, .ref ((xW G).h 2)), (1, vI u1), (2, vI u2)] [] z) (fun _ _ _  h => by cases h) (fun k hk u1 u2 z h => s_x_Pairs_countLinks_4 C hk h) N
  exact r_sub [2, 1, 0] rfl (hL _ _ _  hf)
