def x_copy_98 (N : Nat) (s : St) : MM := bd (x_Sheets_noteFinding N 2 s) (fun r103 s103 => some (r103, s103))
def x_copy_39 (N : Nat) (s : St) : MM := bd (x_Sheets_noteFinding N 1 s) (fun r44 s44 => some (r44, s44))
def x_copy (N : Nat) (v1 v2 v3 v4 v5 : Int) (s : St) : MM := bd (x_Sheets_isSheet N v1 s) (fun r1 s1 => if eq32 r1 0 then (some ((-2), s1)) else (bd (x_Sheets_isSheet N v3 s1) (fun r8 s8 => if eq32 r8 0 then (some ((-2), s8)) else (bd (x_Sheets_isLost N v1 s8) (fun r22 s22 => if eq32 r22 0 then (bd (x_Sheets_isLost N v3 s22) (fun r33 s33 => if eq32 r33 0 then (bd (x_Sheets_areOfOneType N v1 v3 s33) (fun r54 s54 => if eq32 r54 0 then (bd (x_Sheets_noteFinding N 4 s54) (fun r65 s65 => some (r65, s65))) else (bd (x_Sheets_hasItems N v1 v2 v5 s54) (fun r77 s77 => if eq32 r77 0 then (x_copy_98 N   s77) else (bd (x_Sheets_hasItems N v3 v4 v5 s77) (fun r92 s92 => if eq32 r92 0 then (x_copy_98 N   s92) else (bd (x_Sheets_moveItems N v1 v2 v3 v4 v5 s92) (fun r118 s118 => some (1, s118))))))))) else (x_copy_39 N   s33))) else (x_copy_39 N   s22))))))
abbrev rm_x_copy : Room := { frames := 2, cells := 0, slots := 0, locals := 51 }
theorem s_x_copy_98 {X : CxT} {l : Launch} {G : GG} (C : Cx X l (xW G) 6 prog_1_method_39_code "OneSelf" (wo y_O_copy prog_1_method_39_code 6 (some .int)) (some .int) rm_x_copy) {o : Int × St} {N : Nat} {s : St} (hf : x_copy_98 N  s = some o) : Rj X (xW G) 6 (qI X (xW G) o) 98 [(0, .ref ((xW G).h 0))] [] s := by
  unfold x_copy_98 at hf
  refine r_aload_n C (q := 99) 0 d_O_copy_98 rfl rfl rfl ?_
  refine gxx_O_sheets C (q := 102) fl_O_10 d_O_copy_99 rfl ?_
  refine r_iconst C (q := 103) d_O_copy_102 rfl ?_
  obtain ⟨r103, s103, hg103, hf⟩ := bd_s hf
  refine r_cVI C (q := 106) (As := [vI 2]) (k0 := 1) (c_x_Sheets_noteFinding C.i hg103) mt_Sheets_noteFinding ml_O_102 (Nat.le_of_ble_eq_true rfl) rfl rfl rfl rfl rfl rfl ⟨Nat.le_of_ble_eq_true rfl, Nat.le_of_ble_eq_true rfl⟩ rfl (Nat.le_of_ble_eq_true rfl) d_O_copy_103 rfl ?_
  exact r_ireturn C hf d_O_copy_106
theorem s_x_copy_39 {X : CxT} {l : Launch} {G : GG} (C : Cx X l (xW G) 6 prog_1_method_39_code "OneSelf" (wo y_O_copy prog_1_method_39_code 6 (some .int)) (some .int) rm_x_copy) {o : Int × St} {N : Nat} {s : St} (hf : x_copy_39 N  s = some o) : Rj X (xW G) 6 (qI X (xW G) o) 39 [(0, .ref ((xW G).h 0))] [] s := by
  unfold x_copy_39 at hf
  refine r_aload_n C (q := 40) 0 d_O_copy_39 rfl rfl rfl ?_
  refine gxx_O_sheets C (q := 43) fl_O_10 d_O_copy_40 rfl ?_
  refine r_iconst C (q := 44) d_O_copy_43 rfl ?_
  obtain ⟨r44, s44, hg44, hf⟩ := bd_s hf
  refine r_cVI C (q := 47) (As := [vI 1]) (k0 := 1) (c_x_Sheets_noteFinding C.i hg44) mt_Sheets_noteFinding ml_O_102 (Nat.le_of_ble_eq_true rfl) rfl rfl rfl rfl rfl rfl ⟨Nat.le_of_ble_eq_true rfl, Nat.le_of_ble_eq_true rfl⟩ rfl (Nat.le_of_ble_eq_true rfl) d_O_copy_44 rfl ?_
  exact r_ireturn C hf d_O_copy_47
theorem c_x_copy {l : Launch} {G : GG} (hi : wo_i (xW G)) {N : Nat} {v1 v2 v3 v4 v5 : Int} {s : St} {o : Int × St} (hf : x_copy N v1 v2 v3 v4 v5 s = some o) : CtI l (xW G) y_O_copy (wo y_O_copy prog_1_method_39_code 6 (some .int)) rm_x_copy [.ref ((xW G).h 0), vI v1, vI v2, vI v3, vI v4, vI v5] s o := by
  refine ct_I (by decide +kernel) hi (Nat.le_of_ble_eq_true rfl) fun X C => ?_
  unfold x_copy at hf
  show Rj X (xW G) 6 (qI X (xW G) o) 0 [(0, .ref ((xW G).h 0)), (1, vI v1), (2, vI v2), (3, vI v3), (4, vI v4), (5, vI v5)] [] s
  refine r_iload_n C (q := 1) 1 d_O_copy_0 rfl rfl rfl ?_
  obtain ⟨r1, s1, hg1, hf⟩ := bd_s hf
  refine r_cSI C (q := 4) (As := [vI v1]) (c_x_Sheets_isSheet C.i hg1) mt_Sheets_isSheet ml_O_92 rfl rfl rfl ⟨Nat.le_of_ble_eq_true rfl, Nat.le_of_ble_eq_true rfl⟩ rfl (Nat.le_of_ble_eq_true rfl) d_O_copy_1 rfl ?_
  refine r_if_eq C (t := 14) (q := 7) d_O_copy_4 (by decide) rfl (fun c4 => ?_) (fun c4 => ?_)
  · replace hf := ite_t c4 hf
    refine r_bipush C (q := 16) (x := (-2)) d_O_copy_14 rfl rfl ?_
    exact r_ireturn C hf d_O_copy_16
  · replace hf := ite_f c4 hf
    refine r_iload_n C (q := 8) 3 d_O_copy_7 rfl rfl rfl ?_
    obtain ⟨r8, s8, hg8, hf⟩ := bd_s hf
    refine r_cSI C (q := 11) (As := [vI v3]) (c_x_Sheets_isSheet C.i hg8) mt_Sheets_isSheet ml_O_92 rfl rfl rfl ⟨Nat.le_of_ble_eq_true rfl, Nat.le_of_ble_eq_true rfl⟩ rfl (Nat.le_of_ble_eq_true rfl) d_O_copy_8 rfl ?_
    refine r_if_ne C (t := 17) (q := 14) d_O_copy_11 (by decide) rfl (fun c11 => ?_) (fun c11 => ?_)
    · replace hf := ite_t c11 hf
      refine r_bipush C (q := 16) (x := (-2)) d_O_copy_14 rfl rfl ?_
      exact r_ireturn C hf d_O_copy_16
    · replace hf := ite_f c11 hf
      refine r_aload_n C (q := 18) 0 d_O_copy_17 rfl rfl rfl ?_
      refine gxx_O_sheets C (q := 21) fl_O_10 d_O_copy_18 rfl ?_
      refine r_iload_n C (q := 22) 1 d_O_copy_21 rfl rfl rfl ?_
      obtain ⟨r22, s22, hg22, hf⟩ := bd_s hf
      refine r_cVI C (q := 25) (As := [vI v1]) (k0 := 1) (c_x_Sheets_isLost C.i hg22) mt_Sheets_isLost ml_O_99 (Nat.le_of_ble_eq_true rfl) rfl rfl rfl rfl rfl rfl ⟨Nat.le_of_ble_eq_true rfl, Nat.le_of_ble_eq_true rfl⟩ rfl (Nat.le_of_ble_eq_true rfl) d_O_copy_22 rfl ?_
      refine r_if_ne C (t := 39) (q := 28) d_O_copy_25 (by decide) rfl (fun c25 => ?_) (fun c25 => ?_)
      · replace hf := ite_t c25 hf
        refine r_aload_n C (q := 29) 0 d_O_copy_28 rfl rfl rfl ?_
        refine gxx_O_sheets C (q := 32) fl_O_10 d_O_copy_29 rfl ?_
        refine r_iload_n C (q := 33) 3 d_O_copy_32 rfl rfl rfl ?_
        obtain ⟨r33, s33, hg33, hf⟩ := bd_s hf
        refine r_cVI C (q := 36) (As := [vI v3]) (k0 := 1) (c_x_Sheets_isLost C.i hg33) mt_Sheets_isLost ml_O_99 (Nat.le_of_ble_eq_true rfl) rfl rfl rfl rfl rfl rfl ⟨Nat.le_of_ble_eq_true rfl, Nat.le_of_ble_eq_true rfl⟩ rfl (Nat.le_of_ble_eq_true rfl) d_O_copy_33 rfl ?_
        refine r_if_eq C (t := 48) (q := 39) d_O_copy_36 (by decide) rfl (fun c36 => ?_) (fun c36 => ?_)
        · replace hf := ite_t c36 hf
          refine r_aload_n C (q := 49) 0 d_O_copy_48 rfl rfl rfl ?_
          refine gxx_O_sheets C (q := 52) fl_O_10 d_O_copy_49 rfl ?_
          refine r_iload_n C (q := 53) 1 d_O_copy_52 rfl rfl rfl ?_
          refine r_iload_n C (q := 54) 3 d_O_copy_53 rfl rfl rfl ?_
          obtain ⟨r54, s54, hg54, hf⟩ := bd_s hf
          refine r_cVI C (q := 57) (As := [vI v1, vI v3]) (k0 := 1) (c_x_Sheets_areOfOneType C.i hg54) mt_Sheets_areOfOneType ml_O_335 (Nat.le_of_ble_eq_true rfl) rfl rfl rfl rfl rfl rfl ⟨Nat.le_of_ble_eq_true rfl, Nat.le_of_ble_eq_true rfl⟩ rfl (Nat.le_of_ble_eq_true rfl) d_O_copy_54 rfl ?_
          refine r_if_ne C (t := 69) (q := 60) d_O_copy_57 (by decide) rfl (fun c57 => ?_) (fun c57 => ?_)
          · replace hf := ite_t c57 hf
            refine r_aload_n C (q := 61) 0 d_O_copy_60 rfl rfl rfl ?_
            refine gxx_O_sheets C (q := 64) fl_O_10 d_O_copy_61 rfl ?_
            refine r_iconst C (q := 65) d_O_copy_64 rfl ?_
            obtain ⟨r65, s65, hg65, hf⟩ := bd_s hf
            refine r_cVI C (q := 68) (As := [vI 4]) (k0 := 1) (c_x_Sheets_noteFinding C.i hg65) mt_Sheets_noteFinding ml_O_102 (Nat.le_of_ble_eq_true rfl) rfl rfl rfl rfl rfl rfl ⟨Nat.le_of_ble_eq_true rfl, Nat.le_of_ble_eq_true rfl⟩ rfl (Nat.le_of_ble_eq_true rfl) d_O_copy_65 rfl ?_
            exact r_ireturn C hf d_O_copy_68
          · replace hf := ite_f c57 hf
            refine r_aload_n C (q := 70) 0 d_O_copy_69 rfl rfl rfl ?_
            refine gxx_O_sheets C (q := 73) fl_O_10 d_O_copy_70 rfl ?_
            refine r_iload_n C (q := 74) 1 d_O_copy_73 rfl rfl rfl ?_
            refine r_iload_n C (q := 75) 2 d_O_copy_74 rfl rfl rfl ?_
            refine r_iload C (q := 77) 5 d_O_copy_75 rfl rfl ?_
            obtain ⟨r77, s77, hg77, hf⟩ := bd_s hf
            refine r_cVI C (q := 80) (As := [vI v1, vI v2, vI v5]) (k0 := 1) (c_x_Sheets_hasItems C.i hg77) mt_Sheets_hasItems ml_O_106 (Nat.le_of_ble_eq_true rfl) rfl rfl rfl rfl rfl rfl ⟨Nat.le_of_ble_eq_true rfl, Nat.le_of_ble_eq_true rfl⟩ rfl (Nat.le_of_ble_eq_true rfl) d_O_copy_77 rfl ?_
            refine r_if_eq C (t := 98) (q := 83) d_O_copy_80 (by decide) rfl (fun c80 => ?_) (fun c80 => ?_)
            · replace hf := ite_t c80 hf
              exact r_sub [0] rfl (s_x_copy_98 C hf)
            · replace hf := ite_f c80 hf
              refine r_aload_n C (q := 84) 0 d_O_copy_83 rfl rfl rfl ?_
              refine gxx_O_sheets C (q := 87) fl_O_10 d_O_copy_84 rfl ?_
              refine r_iload_n C (q := 88) 3 d_O_copy_87 rfl rfl rfl ?_
              refine r_iload C (q := 90) 4 d_O_copy_88 rfl rfl ?_
              refine r_iload C (q := 92) 5 d_O_copy_90 rfl rfl ?_
              obtain ⟨r92, s92, hg92, hf⟩ := bd_s hf
              refine r_cVI C (q := 95) (As := [vI v3, vI v4, vI v5]) (k0 := 1) (c_x_Sheets_hasItems C.i hg92) mt_Sheets_hasItems ml_O_106 (Nat.le_of_ble_eq_true rfl) rfl rfl rfl rfl rfl rfl ⟨Nat.le_of_ble_eq_true rfl, Nat.le_of_ble_eq_true rfl⟩ rfl (Nat.le_of_ble_eq_true rfl) d_O_copy_92 rfl ?_
              refine r_if_ne C (t := 107) (q := 98) d_O_copy_95 (by decide) rfl (fun c95 => ?_) (fun c95 => ?_)
              · replace hf := ite_t c95 hf
                exact r_sub [0] rfl (s_x_copy_98 C hf)
              · replace hf := ite_f c95 hf
                refine r_aload_n C (q := 108) 0 d_O_copy_107 rfl rfl rfl ?_
                refine gxx_O_sheets C (q := 111) fl_O_10 d_O_copy_108 rfl ?_
                refine r_iload_n C (q := 112) 1 d_O_copy_111 rfl rfl rfl ?_
                refine r_iload_n C (q := 113) 2 d_O_copy_112 rfl rfl rfl ?_
                refine r_iload_n C (q := 114) 3 d_O_copy_113 rfl rfl rfl ?_
                refine r_iload C (q := 116) 4 d_O_copy_114 rfl rfl ?_
                refine r_iload C (q := 118) 5 d_O_copy_116 rfl rfl ?_
                obtain ⟨r118, s118, hg118, hf⟩ := bd_s hf
                refine r_cVV C (q := 121) (As := [vI v1, vI v2, vI v3, vI v4, vI v5]) (k0 := 1) (c_x_Sheets_moveItems C.i hg118) mt_Sheets_moveItems ml_O_338 (Nat.le_of_ble_eq_true rfl) rfl rfl rfl rfl rfl rfl ⟨Nat.le_of_ble_eq_true rfl, Nat.le_of_ble_eq_true rfl⟩ rfl (Nat.le_of_ble_eq_true rfl) d_O_copy_118 rfl ?_
                refine r_iconst C (q := 122) d_O_copy_121 rfl ?_
                exact r_ireturn C hf d_O_copy_122
        · replace hf := ite_f c36 hf
          exact r_sub [0] rfl (s_x_copy_39 C hf)
      · replace hf := ite_f c25 hf
        exact r_sub [0] rfl (s_x_copy_39 C hf)
def x_Sheets_sizeOf (N : Nat) (v1 : Int) (s : St) : MM := gd (inb v1 4) (some (s 13 v1, s))
abbrev rm_x_Sheets_sizeOf : Room := { frames := 0, cells := 0, slots := 0, locals := 0 }
theorem c_x_Sheets_sizeOf {l : Launch} {G : GG} (hi : wo_i (xW G)) {N : Nat} {v1 : Int} {s : St} {o : Int × St} (hf : x_Sheets_sizeOf N v1 s = some o) : CtI l (xW G) y_Sheets_sizeOf (wo y_Sheets_sizeOf prog_9_method_6_code 2 (some .int)) rm_x_Sheets_sizeOf [.ref ((xW G).h 1), vI v1] s o := by
  refine ct_I (by decide +kernel) hi (Nat.le_of_ble_eq_true rfl) fun X C => ?_
  unfold x_Sheets_sizeOf at hf
  show Rj X (xW G) 2 (qI X (xW G) o) 0 [(0, .ref ((xW G).h 1)), (1, vI v1)] [] s
  refine r_aload_n C (q := 1) 0 d_Sheets_sizeOf_0 rfl rfl rfl ?_
  refine gxx_Sheets_sizes C (q := 4) fl_Sheets_15 d_Sheets_sizeOf_1 rfl ?_
  refine r_iload_n C (q := 5) 1 d_Sheets_sizeOf_4 rfl rfl rfl ?_
  obtain ⟨g5, hf⟩ := gd_s hf
  refine r_iald C (q := 6) 13 (Nat.le_of_ble_eq_true rfl) (fun _ => rfl) 0 rfl g5 (by decide) d_Sheets_sizeOf_5 rfl ?_
  exact r_ireturn C hf d_Sheets_sizeOf_6
def x_write_64 (N : Nat) (v1 v2 v3 : Int) (k64 : Int → St → MM) (v4 : Int) (s : St) : MM := if le32 v3 v4 then (some (v3, s)) else (bd (x_Sounds_signAt N v1 v4 s) (fun r84 s84 => bd (x_Sheets_setItem N v2 v4 r84 s84) (fun r87 s87 => k64 (v4 + 1) s87)))
def x_write (N : Nat) (v1 v2 : Int) (s : St) : MM := bd (x_Rows_has N v1 s) (fun r5 s5 => if eq32 r5 0 then (some ((-2), s5)) else (bd (x_Sheets_isSheet N v2 s5) (fun r12 s12 => if eq32 r12 0 then (some ((-2), s12)) else (bd (x_Sheets_isLost N v2 s12) (fun r26 s26 => if eq32 r26 0 then (bd (x_Sounds_lengthOf N v1 s26) (fun r46 s46 => bd (x_Sheets_sizeOf N v2 s46) (fun r54 s54 => itr (x_write_64 N v1 v2 (mn32 r46 r54)) (fun _ _ => none) N 0 s54))) else (bd (x_Sheets_noteFinding N 1 s26) (fun r37 s37 => some (r37, s37))))))))
abbrev rm_x_write : Room := { frames := 2, cells := 0, slots := 0, locals := 42 }
theorem s_x_write_64 {X : CxT} {l : Launch} {G : GG} (C : Cx X l (xW G) 5 prog_1_method_40_code "OneSelf" (wo y_O_write prog_1_method_40_code 5 (some .int)) (some .int) rm_x_write) {o : Int × St} {N : Nat} {v1 v2 v3 v4 : Int} {k64 : Int → St → MM} (hk64 : ∀ (u4 : Int) (s : St), k64 u4 s = some o → Rj X (xW G) 5 (qI X (xW G) o) 64 [(0, .ref ((xW G).h 0)), (1, vI v1), (2, vI v2), (3, vI v3), (4, vI u4)] [] s) {s : St} (hf : x_write_64 N v1 v2 v3 k64 v4 s = some o) : Rj X (xW G) 5 (qI X (xW G) o) 64 [(0, .ref ((xW G).h 0)), (1, vI v1), (2, vI v2), (3, vI v3), (4, vI v4)] [] s := by
  unfold x_write_64 at hf
  refine r_iload C (q := 66) 4 d_O_write_64 rfl rfl ?_
  refine r_iload_n C (q := 67) 3 d_O_write_66 rfl rfl rfl ?_
  refine r_ic_ge C (t := 96) (q := 70) d_O_write_67 (by decide) rfl (fun c67 => ?_) (fun c67 => ?_)
  · replace hf := ite_t c67 hf
    refine r_iload_n C (q := 97) 3 d_O_write_96 rfl rfl rfl ?_
    exact r_ireturn C hf d_O_write_97
  · replace hf := ite_f c67 hf
    refine r_aload_n C (q := 71) 0 d_O_write_70 rfl rfl rfl ?_
    refine gxx_O_sheets C (q := 74) fl_O_10 d_O_write_71 rfl ?_
    refine r_iload_n C (q := 75) 2 d_O_write_74 rfl rfl rfl ?_
    refine r_iload C (q := 77) 4 d_O_write_75 rfl rfl ?_
    refine r_aload_n C (q := 78) 0 d_O_write_77 rfl rfl rfl ?_
    refine gxx_O_sounds C (q := 81) fl_O_37 d_O_write_78 rfl ?_
    refine r_iload_n C (q := 82) 1 d_O_write_81 rfl rfl rfl ?_
    refine r_iload C (q := 84) 4 d_O_write_82 rfl rfl ?_
    obtain ⟨r84, s84, hg84, hf⟩ := bd_s hf
    refine r_cVI C (q := 87) (As := [vI v1, vI v4]) (k0 := 5) (c_x_Sounds_signAt C.i hg84) mt_Sounds_signAt ml_O_184 (Nat.le_of_ble_eq_true rfl) rfl rfl rfl rfl rfl rfl ⟨Nat.le_of_ble_eq_true rfl, Nat.le_of_ble_eq_true rfl⟩ rfl (Nat.le_of_ble_eq_true rfl) d_O_write_84 rfl ?_
    obtain ⟨r87, s87, hg87, hf⟩ := bd_s hf
    refine r_cVV C (q := 90) (As := [vI v2, vI v4, vI r84]) (k0 := 1) (c_x_Sheets_setItem C.i hg87) mt_Sheets_setItem ml_O_331 (Nat.le_of_ble_eq_true rfl) rfl rfl rfl rfl rfl rfl ⟨Nat.le_of_ble_eq_true rfl, Nat.le_of_ble_eq_true rfl⟩ rfl (Nat.le_of_ble_eq_true rfl) d_O_write_87 rfl ?_
    refine r_iinc C (q := 93) (lv' := [(4, vI (v4 + 1)), (0, .ref ((xW G).h 0)), (1, vI v1), (2, vI v2), (3, vI v3)]) 4 d_O_write_90 rfl (by decide) rfl rfl ?_
    refine r_goto C (q := 64) d_O_write_93 (by decide) ?_
    exact r_sub [1, 2, 3, 4, 0] rfl (hk64 _ _  hf)
theorem c_x_write {l : Launch} {G : GG} (hi : wo_i (xW G)) {N : Nat} {v1 v2 : Int} {s : St} {o : Int × St} (hf : x_write N v1 v2 s = some o) : CtI l (xW G) y_O_write (wo y_O_write prog_1_method_40_code 5 (some .int)) rm_x_write [.ref ((xW G).h 0), vI v1, vI v2] s o := by
  refine ct_I (by decide +kernel) hi (Nat.le_of_ble_eq_true rfl) fun X C => ?_
  unfold x_write at hf
  show Rj X (xW G) 5 (qI X (xW G) o) 0 [(0, .ref ((xW G).h 0)), (1, vI v1), (2, vI v2)] [] s
  refine r_aload_n C (q := 1) 0 d_O_write_0 rfl rfl rfl ?_
  refine gxx_O_rows C (q := 4) fl_O_27 d_O_write_1 rfl ?_
  refine r_iload_n C (q := 5) 1 d_O_write_4 rfl rfl rfl ?_
  obtain ⟨r5, s5, hg5, hf⟩ := bd_s hf
  refine r_cVI C (q := 8) (As := [vI v1]) (k0 := 3) (c_x_Rows_has C.i hg5) mt_Rows_has ml_O_138 (Nat.le_of_ble_eq_true rfl) rfl rfl rfl rfl rfl rfl ⟨Nat.le_of_ble_eq_true rfl, Nat.le_of_ble_eq_true rfl⟩ rfl (Nat.le_of_ble_eq_true rfl) d_O_write_5 rfl ?_
  refine r_if_eq C (t := 18) (q := 11) d_O_write_8 (by decide) rfl (fun c8 => ?_) (fun c8 => ?_)
  · replace hf := ite_t c8 hf
    refine r_bipush C (q := 20) (x := (-2)) d_O_write_18 rfl rfl ?_
    exact r_ireturn C hf d_O_write_20
  · replace hf := ite_f c8 hf
    refine r_iload_n C (q := 12) 2 d_O_write_11 rfl rfl rfl ?_
    obtain ⟨r12, s12, hg12, hf⟩ := bd_s hf
    refine r_cSI C (q := 15) (As := [vI v2]) (c_x_Sheets_isSheet C.i hg12) mt_Sheets_isSheet ml_O_92 rfl rfl rfl ⟨Nat.le_of_ble_eq_true rfl, Nat.le_of_ble_eq_true rfl⟩ rfl (Nat.le_of_ble_eq_true rfl) d_O_write_12 rfl ?_
    refine r_if_ne C (t := 21) (q := 18) d_O_write_15 (by decide) rfl (fun c15 => ?_) (fun c15 => ?_)
    · replace hf := ite_t c15 hf
      refine r_bipush C (q := 20) (x := (-2)) d_O_write_18 rfl rfl ?_
      exact r_ireturn C hf d_O_write_20
    · replace hf := ite_f c15 hf
      refine r_aload_n C (q := 22) 0 d_O_write_21 rfl rfl rfl ?_
      refine gxx_O_sheets C (q := 25) fl_O_10 d_O_write_22 rfl ?_
      refine r_iload_n C (q := 26) 2 d_O_write_25 rfl rfl rfl ?_
      obtain ⟨r26, s26, hg26, hf⟩ := bd_s hf
      refine r_cVI C (q := 29) (As := [vI v2]) (k0 := 1) (c_x_Sheets_isLost C.i hg26) mt_Sheets_isLost ml_O_99 (Nat.le_of_ble_eq_true rfl) rfl rfl rfl rfl rfl rfl ⟨Nat.le_of_ble_eq_true rfl, Nat.le_of_ble_eq_true rfl⟩ rfl (Nat.le_of_ble_eq_true rfl) d_O_write_26 rfl ?_
      refine r_if_eq C (t := 41) (q := 32) d_O_write_29 (by decide) rfl (fun c29 => ?_) (fun c29 => ?_)
      · replace hf := ite_t c29 hf
        refine r_aload_n C (q := 42) 0 d_O_write_41 rfl rfl rfl ?_
        refine gxx_O_sounds C (q := 45) fl_O_37 d_O_write_42 rfl ?_
        refine r_iload_n C (q := 46) 1 d_O_write_45 rfl rfl rfl ?_
        obtain ⟨r46, s46, hg46, hf⟩ := bd_s hf
        refine r_cVI C (q := 49) (As := [vI v1]) (k0 := 5) (c_x_Sounds_lengthOf C.i hg46) mt_Sounds_lengthOf ml_O_181 (Nat.le_of_ble_eq_true rfl) rfl rfl rfl rfl rfl rfl ⟨Nat.le_of_ble_eq_true rfl, Nat.le_of_ble_eq_true rfl⟩ rfl (Nat.le_of_ble_eq_true rfl) d_O_write_46 rfl ?_
        refine r_aload_n C (q := 50) 0 d_O_write_49 rfl rfl rfl ?_
        refine gxx_O_sheets C (q := 53) fl_O_10 d_O_write_50 rfl ?_
        refine r_iload_n C (q := 54) 2 d_O_write_53 rfl rfl rfl ?_
        obtain ⟨r54, s54, hg54, hf⟩ := bd_s hf
        refine r_cVI C (q := 57) (As := [vI v2]) (k0 := 1) (c_x_Sheets_sizeOf C.i hg54) mt_Sheets_sizeOf ml_O_342 (Nat.le_of_ble_eq_true rfl) rfl rfl rfl rfl rfl rfl ⟨Nat.le_of_ble_eq_true rfl, Nat.le_of_ble_eq_true rfl⟩ rfl (Nat.le_of_ble_eq_true rfl) d_O_write_54 rfl ?_
        refine r_mmin C (q := 60) ml_O_343 mM_min (Nat.le_of_ble_eq_true rfl) (Nat.le_of_ble_eq_true rfl) (Nat.le_of_ble_eq_true rfl) d_O_write_57 rfl ?_
        refine r_istore_n C (q := 61) (lv' := [(3, vI (mn32 r46 r54)), (0, .ref ((xW G).h 0)), (1, vI v1), (2, vI v2)]) d_O_write_60 rfl (by decide) rfl rfl ?_
        refine r_iconst C (q := 62) d_O_write_61 rfl ?_
        refine r_istore C (q := 64) (lv' := [(4, vI 0), (3, vI (mn32 r46 r54)), (0, .ref ((xW G).h 0)), (1, vI v1), (2, vI v2)]) d_O_write_62 (by decide) rfl rfl ?_
        have hL : ∀ (u4 : Int) (z : St), itr (x_write_64 N v1 v2 (mn32 r46 r54)) (fun _ _ => none) N u4 z = some o → Rj X (xW G) 5 (qI X (xW G) o) 64 [(0, .ref ((xW G).h 0)), (1, vI v1), (2, vI v2), (3, vI (mn32 r46 r54)), (4, vI u4)] [] z := itr_ind (x_write_64 N v1 v2 (mn32 r46 r54)) (fun _ _ => none) (fun k => ∀ (u4 : Int) (z : St), k u4 z = some o → Rj X (xW G) 5 (qI X (xW G) o) 64 [(0, .ref ((xW G).h 0)), (1, vI v1), (2, vI v2), (3, vI (mn32 r46 r54)), (4, vI u4)] [] z) (fun _ _  h => by cases h) (fun k hk u4 z h => s_x_write_64 C hk h) N
        exact r_sub [2, 3, 4, 1, 0] rfl (hL _ _  hf)
      · replace hf := ite_f c29 hf
        refine r_aload_n C (q := 33) 0 d_O_write_32 rfl rfl rfl ?_
        refine gxx_O_sheets C (q := 36) fl_O_10 d_O_write_33 rfl ?_
        refine r_iconst C (q := 37) d_O_write_36 rfl ?_
        obtain ⟨r37, s37, hg37, hf⟩ := bd_s hf
        refine r_cVI C (q := 40) (As := [vI 1]) (k0 := 1) (c_x_Sheets_noteFinding C.i hg37) mt_Sheets_noteFinding ml_O_102 (Nat.le_of_ble_eq_true rfl) rfl rfl rfl rfl rfl rfl ⟨Nat.le_of_ble_eq_true rfl, Nat.le_of_ble_eq_true rfl⟩ rfl (Nat.le_of_ble_eq_true rfl) d_O_write_37 rfl ?_
        exact r_ireturn C hf d_O_write_40
def x_Rows_countKnown_23 (N : Nat) (k4 : Int → Int → St → MM) (v1 v2 : Int) (s : St) : MM := k4 v1 (v2 + 1) s
def x_Rows_countKnown_4 (N : Nat) (k4 : Int → Int → St → MM) (v1 v2 : Int) (s : St) : MM := if le32 (s 3 2) v2 then (some (v1, s)) else (bd (x_Rows_isKnown N v2 s) (fun r14 s14 => if eq32 r14 0 then (x_Rows_countKnown_23 N k4 v1 v2  s14) else (x_Rows_countKnown_23 N k4 (v1 + 1) v2  s14)))
def x_Rows_countKnown (N : Nat) (s : St) : MM := itr (x_Rows_countKnown_4 N ) (fun _ _ _ => none) N 0 0 s
abbrev rm_x_Rows_countKnown : Room := { frames := 2, cells := 0, slots := 0, locals := 45 }
theorem s_x_Rows_countKnown_23 {X : CxT} {l : Launch} {G : GG} (C : Cx X l (xW G) 3 prog_8_method_14_code "OneSelf$Rows" (wo y_Rows_countKnown prog_8_method_14_code 3 (some .int)) (some .int) rm_x_Rows_countKnown) {o : Int × St} {N : Nat} {v1 v2 : Int} {k4 : Int → Int → St → MM} (hk4 : ∀ (u1 u2 : Int) (s : St), k4 u1 u2 s = some o → Rj X (xW G) 3 (qI X (xW G) o) 4 [(0, .ref ((xW G).h 3)), (1, vI u1), (2, vI u2)] [] s) {s : St} (hf : x_Rows_countKnown_23 N k4 v1 v2 s = some o) : Rj X (xW G) 3 (qI X (xW G) o) 23 [(0, .ref ((xW G).h 3)), (1, vI v1), (2, vI v2)] [] s := by
  unfold x_Rows_countKnown_23 at hf
  refine r_iinc C (q := 26) (lv' := [(2, vI (v2 + 1)), (0, .ref ((xW G).h 3)), (1, vI v1)]) 2 d_Rows_countKnown_23 rfl (by decide) rfl rfl ?_
  refine r_goto C (q := 4) d_Rows_countKnown_26 (by decide) ?_
  exact r_sub [1, 2, 0] rfl (hk4 _ _ _  hf)
theorem s_x_Rows_countKnown_4 {X : CxT} {l : Launch} {G : GG} (C : Cx X l (xW G) 3 prog_8_method_14_code "OneSelf$Rows" (wo y_Rows_countKnown prog_8_method_14_code 3 (some .int)) (some .int) rm_x_Rows_countKnown) {o : Int × St} {N : Nat} {v1 v2 : Int} {k4 : Int → Int → St → MM} (hk4 : ∀ (u1 u2 : Int) (s : St), k4 u1 u2 s = some o → Rj X (xW G) 3 (qI X (xW G) o) 4 [(0, .ref ((xW G).h 3)), (1, vI u1), (2, vI u2)] [] s) {s : St} (hf : x_Rows_countKnown_4 N  k4 v1 v2 s = some o) : Rj X (xW G) 3 (qI X (xW G) o) 4 [(0, .ref ((xW G).h 3)), (1, vI v1), (2, vI v2)] [] s := by
  unfold x_Rows_countKnown_4 at hf
  refine r_iload_n C (q := 5) 2 d_Rows_countKnown_4 rfl rfl rfl ?_
  refine r_aload_n C (q := 6) 0 d_Rows_countKnown_5 rfl rfl rfl ?_
  refine gxx_Rows_many C (q := 9) fl_Rows_22 d_Rows_countKnown_6 rfl ?_
  refine r_ic_ge C (t := 29) (q := 12) d_Rows_countKnown_9 (by decide) rfl (fun c9 => ?_) (fun c9 => ?_)
  · replace hf := ite_t c9 hf
    refine r_iload_n C (q := 30) 1 d_Rows_countKnown_29 rfl rfl rfl ?_
    exact r_ireturn C hf d_Rows_countKnown_30
  · replace hf := ite_f c9 hf
    refine r_aload_n C (q := 13) 0 d_Rows_countKnown_12 rfl rfl rfl ?_
    refine r_iload_n C (q := 14) 2 d_Rows_countKnown_13 rfl rfl rfl ?_
    obtain ⟨r14, s14, hg14, hf⟩ := bd_s hf
    refine r_cVI C (q := 17) (As := [vI v2]) (k0 := 3) (c_x_Rows_isKnown C.i hg14) mt_Rows_isKnown ml_Rows_43 (Nat.le_of_ble_eq_true rfl) rfl rfl rfl rfl rfl rfl ⟨Nat.le_of_ble_eq_true rfl, Nat.le_of_ble_eq_true rfl⟩ rfl (Nat.le_of_ble_eq_true rfl) d_Rows_countKnown_14 rfl ?_
    refine r_if_eq C (t := 23) (q := 20) d_Rows_countKnown_17 (by decide) rfl (fun c17 => ?_) (fun c17 => ?_)
    · replace hf := ite_t c17 hf
      exact r_sub [0, 1, 2] rfl (s_x_Rows_countKnown_23 C hk4 hf)
    · replace hf := ite_f c17 hf
      refine r_iinc C (q := 23) (lv' := [(1, vI (v1 + 1)), (0, .ref ((xW G).h 3)), (2, vI v2)]) 1 d_Rows_countKnown_20 rfl (by decide) rfl rfl ?_
      exact r_sub [1, 0, 2] rfl (s_x_Rows_countKnown_23 C hk4 hf)
theorem c_x_Rows_countKnown {l : Launch} {G : GG} (hi : wo_i (xW G)) {N : Nat} {s : St} {o : Int × St} (hf : x_Rows_countKnown N s = some o) : CtI l (xW G) y_Rows_countKnown (wo y_Rows_countKnown prog_8_method_14_code 3 (some .int)) rm_x_Rows_countKnown [.ref ((xW G).h 3)] s o := by
  refine ct_I (by decide +kernel) hi (Nat.le_of_ble_eq_true rfl) fun X C => ?_
  unfold x_Rows_countKnown at hf
  show Rj X (xW G) 3 (qI X (xW G) o) 0 [(0, .ref ((xW G).h 3))] [] s
  refine r_iconst C (q := 1) d_Rows_countKnown_0 rfl ?_
  refine r_istore_n C (q := 2) (lv' := [(1, vI 0), (0, .ref ((xW G).h 3))]) d_Rows_countKnown_1 rfl (by decide) rfl rfl ?_
  refine r_iconst C (q := 3) d_Rows_countKnown_2 rfl ?_
  refine r_istore_n C (q := 4) (lv' := [(2, vI 0), (1, vI 0), (0, .ref ((xW G).h 3))]) d_Rows_countKnown_3 rfl (by decide) rfl rfl ?_
  have hL : ∀ (u1 u2 : Int) (z : St), itr (x_Rows_countKnown_4 N ) (fun _ _ _ => none) N u1 u2 z = some o → Rj X (xW G) 3 (qI X (xW G) o) 4 [(0, .ref ((xW G).h 3)), (1, vI u1), (2, vI u2)] [] z := itr_ind (x_Rows_countKnown_4 N ) (fun _ _ _ => none) (fun k => ∀ (u1 u2 : Int) (z : St), k u1 u2 z = some o → Rj X (xW G) 3 (qI X (xW G) o) 4 [(0, .ref ((xW G).h 3)), (1, vI u1), (2, vI u2)] [] z) (fun _ _ _  h => by cases h) (fun k hk u1 u2 z h => s_x_Rows_countKnown_4 C hk h) N
  exact r_sub [2, 1, 0] rfl (hL _ _ _  hf)
def x_Rows_countKnownOf_33 (N : Nat) (k4 : Int → Int → St → MM) (v1 v2 v3 : Int) (s : St) : MM := k4 v2 (v3 + 1) s
def x_Rows_countKnownOf_4 (N : Nat) (v1 : Int) (k4 : Int → Int → St → MM) (v2 v3 : Int) (s : St) : MM := if le32 (s 3 2) v3 then (some (v2, s)) else (bd (x_Rows_isKnown N v3 s) (fun r14 s14 => if eq32 r14 0 then (x_Rows_countKnownOf_33 N k4 v1 v2 v3  s14) else (bd (x_Rows_fact N v3 0 s14) (fun r23 s23 => if eq32 r23 v1 then (x_Rows_countKnownOf_33 N k4 v1 (v2 + 1) v3  s23) else (x_Rows_countKnownOf_33 N k4 v1 v2 v3  s23)))))
def x_Rows_countKnownOf (N : Nat) (v1 : Int) (s : St) : MM := itr (x_Rows_countKnownOf_4 N v1) (fun _ _ _ => none) N 0 0 s
abbrev rm_x_Rows_countKnownOf : Room := { frames := 2, cells := 0, slots := 0, locals := 45 }
theorem s_x_Rows_countKnownOf_33 {X : CxT} {l : Launch} {G : GG} (C : Cx X l (xW G) 4 prog_8_method_15_code "OneSelf$Rows" (wo y_Rows_countKnownOf prog_8_method_15_code 4 (some .int)) (some .int) rm_x_Rows_countKnownOf) {o : Int × St} {N : Nat} {v1 v2 v3 : Int} {k4 : Int → Int → St → MM} (hk4 : ∀ (u2 u3 : Int) (s : St), k4 u2 u3 s = some o → Rj X (xW G) 4 (qI X (xW G) o) 4 [(0, .ref ((xW G).h 3)), (1, vI v1), (2, vI u2), (3, vI u3)] [] s) {s : St} (hf : x_Rows_countKnownOf_33 N k4 v1 v2 v3 s = some o) : Rj X (xW G) 4 (qI X (xW G) o) 33 [(0, .ref ((xW G).h 3)), (1, vI v1), (2, vI v2), (3, vI v3)] [] s := by
  unfold x_Rows_countKnownOf_33 at hf
  refine r_iinc C (q := 36) (lv' := [(3, vI (v3 + 1)), (0, .ref ((xW G).h 3)), (1, vI v1), (2, vI v2)]) 3 d_Rows_countKnownOf_33 rfl (by decide) rfl rfl ?_
  refine r_goto C (q := 4) d_Rows_countKnownOf_36 (by decide) ?_
  exact r_sub [1, 2, 3, 0] rfl (hk4 _ _ _  hf)
theorem s_x_Rows_countKnownOf_4 {X : CxT} {l : Launch} {G : GG} (C : Cx X l (xW G) 4 prog_8_method_15_code "OneSelf$Rows" (wo y_Rows_countKnownOf prog_8_method_15_code 4 (some .int)) (some .int) rm_x_Rows_countKnownOf) {o : Int × St} {N : Nat} {v1 v2 v3 : Int} {k4 : Int → Int → St → MM} (hk4 : ∀ (u2 u3 : Int) (s : St), k4 u2 u3 s = some o → Rj X (xW G) 4 (qI X (xW G) o) 4 [(0, .ref ((xW G).h 3)), (1, vI v1), (2, vI u2), (3, vI u3)] [] s) {s : St} (hf : x_Rows_countKnownOf_4 N v1 k4 v2 v3 s = some o) : Rj X (xW G) 4 (qI X (xW G) o) 4 [(0, .ref ((xW G).h 3)), (1, vI v1), (2, vI v2), (3, vI v3)] [] s := by
  unfold x_Rows_countKnownOf_4 at hf
  refine r_iload_n C (q := 5) 3 d_Rows_countKnownOf_4 rfl rfl rfl ?_
  refine r_aload_n C (q := 6) 0 d_Rows_countKnownOf_5 rfl rfl rfl ?_
  refine gxx_Rows_many C (q := 9) fl_Rows_22 d_Rows_countKnownOf_6 rfl ?_
  refine r_ic_ge C (t := 39) (q := 12) d_Rows_countKnownOf_9 (by decide) rfl (fun c9 => ?_) (fun c9 => ?_)
  · replace hf := ite_t c9 hf
    refine r_iload_n C (q := 40) 2 d_Rows_countKnownOf_39 rfl rfl rfl ?_
    exact r_ireturn C hf d_Rows_countKnownOf_40
  · replace hf := ite_f c9 hf
    refine r_aload_n C (q := 13) 0 d_Rows_countKnownOf_12 rfl rfl rfl ?_
    refine r_iload_n C (q := 14) 3 d_Rows_countKnownOf_13 rfl rfl rfl ?_
    obtain ⟨r14, s14, hg14, hf⟩ := bd_s hf
    refine r_cVI C (q := 17) (As := [vI v3]) (k0 := 3) (c_x_Rows_isKnown C.i hg14) mt_Rows_isKnown ml_Rows_43 (Nat.le_of_ble_eq_true rfl) rfl rfl rfl rfl rfl rfl ⟨Nat.le_of_ble_eq_true rfl, Nat.le_of_ble_eq_true rfl⟩ rfl (Nat.le_of_ble_eq_true rfl) d_Rows_countKnownOf_14 rfl ?_
    refine r_if_eq C (t := 33) (q := 20) d_Rows_countKnownOf_17 (by decide) rfl (fun c17 => ?_) (fun c17 => ?_)
    · replace hf := ite_t c17 hf
      exact r_sub [0, 1, 2, 3] rfl (s_x_Rows_countKnownOf_33 C hk4 hf)
    · replace hf := ite_f c17 hf
      refine r_aload_n C (q := 21) 0 d_Rows_countKnownOf_20 rfl rfl rfl ?_
      refine r_iload_n C (q := 22) 3 d_Rows_countKnownOf_21 rfl rfl rfl ?_
      refine r_iconst C (q := 23) d_Rows_countKnownOf_22 rfl ?_
      obtain ⟨r23, s23, hg23, hf⟩ := bd_s hf
      refine r_cVI C (q := 26) (As := [vI v3, vI 0]) (k0 := 3) (c_x_Rows_fact C.i hg23) mt_Rows_fact ml_Rows_36 (Nat.le_of_ble_eq_true rfl) rfl rfl rfl rfl rfl rfl ⟨Nat.le_of_ble_eq_true rfl, Nat.le_of_ble_eq_true rfl⟩ rfl (Nat.le_of_ble_eq_true rfl) d_Rows_countKnownOf_23 rfl ?_
      refine r_iload_n C (q := 27) 1 d_Rows_countKnownOf_26 rfl rfl rfl ?_
      refine r_ic_ne C (t := 33) (q := 30) d_Rows_countKnownOf_27 (by decide) rfl (fun c27 => ?_) (fun c27 => ?_)
      · replace hf := ite_t c27 hf
        refine r_iinc C (q := 33) (lv' := [(2, vI (v2 + 1)), (0, .ref ((xW G).h 3)), (1, vI v1), (3, vI v3)]) 2 d_Rows_countKnownOf_30 rfl (by decide) rfl rfl ?_
        exact r_sub [1, 2, 0, 3] rfl (s_x_Rows_countKnownOf_33 C hk4 hf)
      · replace hf := ite_f c27 hf
        exact r_sub [0, 1, 2, 3] rfl (s_x_Rows_countKnownOf_33 C hk4 hf)
theorem c_x_Rows_countKnownOf {l : Launch} {G : GG} (hi : wo_i (xW G)) {N : Nat} {v1 : Int} {s : St} {o : Int × St} (hf : x_Rows_countKnownOf N v1 s = some o) : CtI l (xW G) y_Rows_countKnownOf (wo y_Rows_countKnownOf prog_8_method_15_code 4 (some .int)) rm_x_Rows_countKnownOf [.ref ((xW G).h 3), vI v1] s o := by
  refine ct_I (by decide +kernel) hi (Nat.le_of_ble_eq_true rfl) fun X C => ?_
  unfold x_Rows_countKnownOf at hf
  show Rj X (xW G) 4 (qI X (xW G) o) 0 [(0, .ref ((xW G).h 3)), (1, vI v1)] [] s
  refine r_iconst C (q := 1) d_Rows_countKnownOf_0 rfl ?_
  refine r_istore_n C (q := 2) (lv' := [(2, vI 0), (0, .ref ((xW G).h 3)), (1, vI v1)]) d_Rows_countKnownOf_1 rfl (by decide) rfl rfl ?_
  refine r_iconst C (q := 3) d_Rows_countKnownOf_2 rfl ?_
  refine r_istore_n C (q := 4) (lv' := [(3, vI 0), (2, vI 0), (0, .ref ((xW G).h 3)), (1, vI v1)]) d_Rows_countKnownOf_3 rfl (by decide) rfl rfl ?_
  have hL : ∀ (u2 u3 : Int) (z : St), itr (x_Rows_countKnownOf_4 N v1) (fun _ _ _ => none) N u2 u3 z = some o → Rj X (xW G) 4 (qI X (xW G) o) 4 [(0, .ref ((xW G).h 3)), (1, vI v1), (2, vI u2), (3, vI u3)] [] z := itr_ind (x_Rows_countKnownOf_4 N v1) (fun _ _ _ => none) (fun k => ∀ (u2 u3 : Int) (z : St), k u2 u3 z = some o → Rj X (xW G) 4 (qI X (xW G) o) 4 [(0, .ref ((xW G).h 3)), (1, vI v1), (2, vI u2), (3, vI u3)] [] z) (fun _ _ _  h => by cases h) (fun k hk u2 u3 z h => s_x_Rows_countKnownOf_4 C hk h) N
  exact r_sub [2, 3, 1, 0] rfl (hL _ _ _  hf)
def x_count (N : Nat) (v1 : Int) (s : St) : MM := if s32 v1 = 0 then (some (s 3 3, s)) else (if s32 v1 = 1 then (some (s 3 2, s)) else (if s32 v1 = 2 then (bd (x_Rows_countKnown N s) (fun r72 s72 => some (r72, s72))) else (if s32 v1 = 3 then (bd (x_Rows_countKnownOf N 0 s) (fun r81 s81 => some (r81, s81))) else (if s32 v1 = 4 then (bd (x_Rows_countKnownOf N 1 s) (fun r90 s90 => some (r90, s90))) else (if s32 v1 = 5 then (bd (x_Rows_countKnownOf N 2 s) (fun r99 s99 => some (r99, s99))) else (if s32 v1 = 6 then (some (s 10 3, s)) else (if s32 v1 = 7 then (some (s 5 4, s)) else (if s32 v1 = 8 then (some (s 1 3, s)) else (some ((-2), s))))))))))
abbrev rm_x_count : Room := { frames := 3, cells := 0, slots := 0, locals := 68 }
theorem c_x_count {l : Launch} {G : GG} (hi : wo_i (xW G)) {N : Nat} {v1 : Int} {s : St} {o : Int × St} (hf : x_count N v1 s = some o) : CtI l (xW G) y_O_count (wo y_O_count prog_1_method_41_code 2 (some .int)) rm_x_count [.ref ((xW G).h 0), vI v1] s o := by
  refine ct_I (by decide +kernel) hi (Nat.le_of_ble_eq_true rfl) fun X C => ?_
  unfold x_count at hf
  show Rj X (xW G) 2 (qI X (xW G) o) 0 [(0, .ref ((xW G).h 0)), (1, vI v1)] [] s
  refine r_iload_n C (q := 1) 1 d_O_count_0 rfl rfl rfl ?_
  by_cases c1_0 : s32 v1 = 0
  · replace hf := ite_t c1_0 hf
    refine r_tabIn C (t := 52) d_O_count_1 c1_0 (by decide) (by decide) rfl (by decide) ?_
    refine r_aload_n C (q := 53) 0 d_O_count_52 rfl rfl rfl ?_
    refine gxx_O_rows C (q := 56) fl_O_27 d_O_count_53 rfl ?_
    refine gnx_Rows_day C (q := 59) fn_O_82 d_O_count_56 rfl ?_
    exact r_ireturn C hf d_O_count_59
  replace hf := ite_f c1_0 hf
  by_cases c1_1 : s32 v1 = 1
  · replace hf := ite_t c1_1 hf
    refine r_tabIn C (t := 60) d_O_count_1 c1_1 (by decide) (by decide) rfl (by decide) ?_
    refine r_aload_n C (q := 61) 0 d_O_count_60 rfl rfl rfl ?_
    refine gxx_O_rows C (q := 64) fl_O_27 d_O_count_61 rfl ?_
    refine gnx_Rows_many C (q := 67) fn_O_112 d_O_count_64 rfl ?_
    exact r_ireturn C hf d_O_count_67
  replace hf := ite_f c1_1 hf
  by_cases c1_2 : s32 v1 = 2
  · replace hf := ite_t c1_2 hf
    refine r_tabIn C (t := 68) d_O_count_1 c1_2 (by decide) (by decide) rfl (by decide) ?_
    refine r_aload_n C (q := 69) 0 d_O_count_68 rfl rfl rfl ?_
    refine gxx_O_rows C (q := 72) fl_O_27 d_O_count_69 rfl ?_
    obtain ⟨r72, s72, hg72, hf⟩ := bd_s hf
    refine r_cVI C (q := 75) (As := []) (k0 := 3) (c_x_Rows_countKnown C.i hg72) mt_Rows_countKnown ml_O_348 (Nat.le_of_ble_eq_true rfl) rfl rfl rfl rfl rfl rfl ⟨Nat.le_of_ble_eq_true rfl, Nat.le_of_ble_eq_true rfl⟩ rfl (Nat.le_of_ble_eq_true rfl) d_O_count_72 rfl ?_
    exact r_ireturn C hf d_O_count_75
  replace hf := ite_f c1_2 hf
  by_cases c1_3 : s32 v1 = 3
  · replace hf := ite_t c1_3 hf
    refine r_tabIn C (t := 76) d_O_count_1 c1_3 (by decide) (by decide) rfl (by decide) ?_
    refine r_aload_n C (q := 77) 0 d_O_count_76 rfl rfl rfl ?_
    refine gxx_O_rows C (q := 80) fl_O_27 d_O_count_77 rfl ?_
    refine r_iconst C (q := 81) d_O_count_80 rfl ?_
    obtain ⟨r81, s81, hg81, hf⟩ := bd_s hf
    refine r_cVI C (q := 84) (As := [vI 0]) (k0 := 3) (c_x_Rows_countKnownOf C.i hg81) mt_Rows_countKnownOf ml_O_351 (Nat.le_of_ble_eq_true rfl) rfl rfl rfl rfl rfl rfl ⟨Nat.le_of_ble_eq_true rfl, Nat.le_of_ble_eq_true rfl⟩ rfl (Nat.le_of_ble_eq_true rfl) d_O_count_81 rfl ?_
    exact r_ireturn C hf d_O_count_84
  replace hf := ite_f c1_3 hf
  by_cases c1_4 : s32 v1 = 4
  · replace hf := ite_t c1_4 hf
    refine r_tabIn C (t := 85) d_O_count_1 c1_4 (by decide) (by decide) rfl (by decide) ?_
    refine r_aload_n C (q := 86) 0 d_O_count_85 rfl rfl rfl ?_
    refine gxx_O_rows C (q := 89) fl_O_27 d_O_count_86 rfl ?_
    refine r_iconst C (q := 90) d_O_count_89 rfl ?_
    obtain ⟨r90, s90, hg90, hf⟩ := bd_s hf
    refine r_cVI C (q := 93) (As := [vI 1]) (k0 := 3) (c_x_Rows_countKnownOf C.i hg90) mt_Rows_countKnownOf ml_O_351 (Nat.le_of_ble_eq_true rfl) rfl rfl rfl rfl rfl rfl ⟨Nat.le_of_ble_eq_true rfl, Nat.le_of_ble_eq_true rfl⟩ rfl (Nat.le_of_ble_eq_true rfl) d_O_count_90 rfl ?_
    exact r_ireturn C hf d_O_count_93
  replace hf := ite_f c1_4 hf
  by_cases c1_5 : s32 v1 = 5
  · replace hf := ite_t c1_5 hf
    refine r_tabIn C (t := 94) d_O_count_1 c1_5 (by decide) (by decide) rfl (by decide) ?_
    refine r_aload_n C (q := 95) 0 d_O_count_94 rfl rfl rfl ?_
    refine gxx_O_rows C (q := 98) fl_O_27 d_O_count_95 rfl ?_
    refine r_iconst C (q := 99) d_O_count_98 rfl ?_
    obtain ⟨r99, s99, hg99, hf⟩ := bd_s hf
    refine r_cVI C (q := 102) (As := [vI 2]) (k0 := 3) (c_x_Rows_countKnownOf C.i hg99) mt_Rows_countKnownOf ml_O_351 (Nat.le_of_ble_eq_true rfl) rfl rfl rfl rfl rfl rfl ⟨Nat.le_of_ble_eq_true rfl, Nat.le_of_ble_eq_true rfl⟩ rfl (Nat.le_of_ble_eq_true rfl) d_O_count_99 rfl ?_
    exact r_ireturn C hf d_O_count_102
  replace hf := ite_f c1_5 hf
  by_cases c1_6 : s32 v1 = 6
  · replace hf := ite_t c1_6 hf
    refine r_tabIn C (t := 103) d_O_count_1 c1_6 (by decide) (by decide) rfl (by decide) ?_
    refine r_aload_n C (q := 104) 0 d_O_count_103 rfl rfl rfl ?_
    refine gxx_O_checks C (q := 107) fl_O_67 d_O_count_104 rfl ?_
    refine gnx_Checks_many C (q := 110) fn_O_279 d_O_count_107 rfl ?_
    exact r_ireturn C hf d_O_count_110
  replace hf := ite_f c1_6 hf
  by_cases c1_7 : s32 v1 = 7
  · replace hf := ite_t c1_7 hf
    refine r_tabIn C (t := 111) d_O_count_1 c1_7 (by decide) (by decide) rfl (by decide) ?_
    refine r_aload_n C (q := 112) 0 d_O_count_111 rfl rfl rfl ?_
    refine gxx_O_sounds C (q := 115) fl_O_37 d_O_count_112 rfl ?_
    refine gnx_Sounds_many C (q := 118) fn_O_167 d_O_count_115 rfl ?_
    exact r_ireturn C hf d_O_count_118
  replace hf := ite_f c1_7 hf
  by_cases c1_8 : s32 v1 = 8
  · replace hf := ite_t c1_8 hf
    refine r_tabIn C (t := 119) d_O_count_1 c1_8 (by decide) (by decide) rfl (by decide) ?_
    refine r_aload_n C (q := 120) 0 d_O_count_119 rfl rfl rfl ?_
    refine gxx_O_sheets C (q := 123) fl_O_10 d_O_count_120 rfl ?_
    refine gnx_Sheets_latest C (q := 126) fn_O_354 d_O_count_123 rfl ?_
    exact r_ireturn C hf d_O_count_126
  replace hf := ite_f c1_8 hf
  refine r_tabOut C (t := 127) d_O_count_1 (by omega) (by decide) ?_
  refine r_bipush C (q := 129) (x := (-2)) d_O_count_127 rfl rfl ?_
  exact r_ireturn C hf d_O_count_129
def x_digest_133 (N : Nat) (k133 : Int → Int → St → MM) (v1 v3 : Int) (s : St) : MM := if lt32 3 v3 then (bd (x_pairs N 63 s) (fun r165 s165 => bd (x_laid N 0 1 0 s165) (fun r180 s180 => bd (x_laid N 0 1 1 s180) (fun r195 s195 => some ((31 * ((31 * ((31 * v1) + (s32 r165))) + (s32 r180))) + (s32 r195), s195))))) else (bd (x_checked N v3 s) (fun r145 s145 => k133 ((31 * v1) + (s32 r145)) (v3 + 1) s145))
def x_digest_107 (N : Nat) (k107 : Int → Int → St → MM) (v1 v3 : Int) (s : St) : MM := if lt32 2 v3 then (itr (x_digest_133 N ) (fun _ _ _ => none) N v1 0 s) else (bd (x_bundles N v3 s) (fun r119 s119 => k107 ((31 * v1) + (s32 r119)) (v3 + 1) s119))
def x_digest_47 (N : Nat) (k33 : Int → Int → St → MM) (v3 : Int) (k47 : Int → Int → St → MM) (v1 v4 : Int) (s : St) : MM := if lt32 7 v4 then (k33 v1 (v3 + 1) s) else (bd (x_about N v3 v4 s) (fun r63 s63 => k47 ((31 * v1) + (s32 r63)) (v4 + 1) s63))
def x_digest_33 (N : Nat) (k33 : Int → Int → St → MM) (v1 v3 : Int) (s : St) : MM := if le32 (s 3 2) v3 then (bd (x_fault N s) (fun r87 s87 => bd (x_links N s87) (fun r99 s99 => itr (x_digest_107 N ) (fun _ _ _ => none) N ((31 * ((31 * v1) + (s32 r87))) + (s32 r99)) 0 s99))) else (itr (x_digest_47 N k33 v3) (fun _ _ _ => none) N v1 0 s)
def x_digest_6 (N : Nat) (k6 : Int → Int → St → MM) (v1 v3 : Int) (s : St) : MM := if lt32 7 v3 then (itr (x_digest_33 N ) (fun _ _ _ => none) N v1 0 s) else (bd (x_count N v3 s) (fun r19 s19 => k6 ((31 * v1) + (s32 r19)) (v3 + 1) s19))
def x_digest (N : Nat) (s : St) : MM := itr (x_digest_6 N ) (fun _ _ _ => none) N 17 0 s
abbrev rm_x_digest : Room := { frames := 6, cells := 0, slots := 0, locals := 152 }
theorem s_x_digest_133 {X : CxT} {l : Launch} {G : GG} (C : Cx X l (xW G) 5 prog_1_method_42_code "OneSelf" (wo y_O_digest prog_1_method_42_code 5 (some .long)) (some .long) rm_x_digest) {o : Int × St} {N : Nat} {v1 v3 : Int} {k133 : Int → Int → St → MM} (hk133 : ∀ (u1 u3 : Int) (s : St), k133 u1 u3 s = some o → Rj X (xW G) 5 (qL X (xW G) o) 133 [(0, .ref ((xW G).h 0)), (1, vJ u1), (3, vI u3)] [] s) {s : St} (hf : x_digest_133 N  k133 v1 v3 s = some o) : Rj X (xW G) 5 (qL X (xW G) o) 133 [(0, .ref ((xW G).h 0)), (1, vJ v1), (3, vI v3)] [] s := by
  unfold x_digest_133 at hf
  refine r_iload_n C (q := 134) 2 d_O_digest_133 rfl rfl rfl ?_
  refine r_iconst C (q := 135) d_O_digest_134 rfl ?_
  refine r_ic_gt C (t := 157) (q := 138) d_O_digest_135 (by decide) rfl (fun c135 => ?_) (fun c135 => ?_)
  · replace hf := ite_t c135 hf
    refine r_ldc2 C (q := 160) (x := 31) kc_O_359 rfl d_O_digest_157 rfl ?_
    refine r_lload_n C (q := 161) 1 d_O_digest_160 rfl rfl rfl ?_
    refine r_lmul C (q := 162) d_O_digest_161 rfl ?_
    refine r_aload_n C (q := 163) 0 d_O_digest_162 rfl rfl rfl ?_
    refine r_bipush C (q := 165) (x := 63) d_O_digest_163 rfl rfl ?_
    obtain ⟨r165, s165, hg165, hf⟩ := bd_s hf
    refine r_cVI C (q := 168) (As := [vI 63]) (k0 := 0) (c_x_pairs C.i hg165) mt_O_pairs ml_O_377 (Nat.le_of_ble_eq_true rfl) rfl rfl rfl rfl rfl rfl ⟨Nat.le_of_ble_eq_true rfl, Nat.le_of_ble_eq_true rfl⟩ rfl (Nat.le_of_ble_eq_true rfl) d_O_digest_165 rfl ?_
    refine r_i2l C (q := 169) d_O_digest_168 rfl ?_
    refine r_ladd C (q := 170) d_O_digest_169 rfl ?_
    refine r_lstore_n C (q := 171) (lv' := [(1, vJ ((31 * v1) + (s32 r165))), (0, .ref ((xW G).h 0)), (3, vI v3)]) d_O_digest_170 rfl (by decide) rfl rfl ?_
    refine r_ldc2 C (q := 174) (x := 31) kc_O_359 rfl d_O_digest_171 rfl ?_
    refine r_lload_n C (q := 175) 0 d_O_digest_174 rfl rfl rfl ?_
    refine r_lmul C (q := 176) d_O_digest_175 rfl ?_
    refine r_aload_n C (q := 177) 1 d_O_digest_176 rfl rfl rfl ?_
    refine r_iconst C (q := 178) d_O_digest_177 rfl ?_
    refine r_iconst C (q := 179) d_O_digest_178 rfl ?_
    refine r_iconst C (q := 180) d_O_digest_179 rfl ?_
    obtain ⟨r180, s180, hg180, hf⟩ := bd_s hf
    refine r_cVI C (q := 183) (As := [vI 0, vI 1, vI 0]) (k0 := 0) (c_x_laid C.i hg180) mt_O_laid ml_O_379 (Nat.le_of_ble_eq_true rfl) rfl rfl rfl rfl rfl rfl ⟨Nat.le_of_ble_eq_true rfl, Nat.le_of_ble_eq_true rfl⟩ rfl (Nat.le_of_ble_eq_true rfl) d_O_digest_180 rfl ?_
    refine r_i2l C (q := 184) d_O_digest_183 rfl ?_
    refine r_ladd C (q := 185) d_O_digest_184 rfl ?_
    refine r_lstore_n C (q := 186) (lv' := [(1, vJ ((31 * ((31 * v1) + (s32 r165))) + (s32 r180))), (0, .ref ((xW G).h 0)), (3, vI v3)]) d_O_digest_185 rfl (by decide) rfl rfl ?_
    refine r_ldc2 C (q := 189) (x := 31) kc_O_359 rfl d_O_digest_186 rfl ?_
    refine r_lload_n C (q := 190) 0 d_O_digest_189 rfl rfl rfl ?_
    refine r_lmul C (q := 191) d_O_digest_190 rfl ?_
    refine r_aload_n C (q := 192) 1 d_O_digest_191 rfl rfl rfl ?_
    refine r_iconst C (q := 193) d_O_digest_192 rfl ?_
    refine r_iconst C (q := 194) d_O_digest_193 rfl ?_
    refine r_iconst C (q := 195) d_O_digest_194 rfl ?_
    obtain ⟨r195, s195, hg195, hf⟩ := bd_s hf
    refine r_cVI C (q := 198) (As := [vI 0, vI 1, vI 1]) (k0 := 0) (c_x_laid C.i hg195) mt_O_laid ml_O_379 (Nat.le_of_ble_eq_true rfl) rfl rfl rfl rfl rfl rfl ⟨Nat.le_of_ble_eq_true rfl, Nat.le_of_ble_eq_true rfl⟩ rfl (Nat.le_of_ble_eq_true rfl) d_O_digest_195 rfl ?_
    refine r_i2l C (q := 199) d_O_digest_198 rfl ?_
    refine r_ladd C (q := 200) d_O_digest_199 rfl ?_
    exact r_lreturn C hf d_O_digest_200
  · replace hf := ite_f c135 hf
    refine r_ldc2 C (q := 141) (x := 31) kc_O_359 rfl d_O_digest_138 rfl ?_
    refine r_lload_n C (q := 142) 1 d_O_digest_141 rfl rfl rfl ?_
    refine r_lmul C (q := 143) d_O_digest_142 rfl ?_
    refine r_aload_n C (q := 144) 0 d_O_digest_143 rfl rfl rfl ?_
    refine r_iload_n C (q := 145) 2 d_O_digest_144 rfl rfl rfl ?_
    obtain ⟨r145, s145, hg145, hf⟩ := bd_s hf
    refine r_cVI C (q := 148) (As := [vI v3]) (k0 := 0) (c_x_checked C.i hg145) mt_O_checked ml_O_374 (Nat.le_of_ble_eq_true rfl) rfl rfl rfl rfl rfl rfl ⟨Nat.le_of_ble_eq_true rfl, Nat.le_of_ble_eq_true rfl⟩ rfl (Nat.le_of_ble_eq_true rfl) d_O_digest_145 rfl ?_
    refine r_i2l C (q := 149) d_O_digest_148 rfl ?_
    refine r_ladd C (q := 150) d_O_digest_149 rfl ?_
    refine r_lstore_n C (q := 151) (lv' := [(1, vJ ((31 * v1) + (s32 r145))), (0, .ref ((xW G).h 0)), (3, vI v3)]) d_O_digest_150 rfl (by decide) rfl rfl ?_
    refine r_iinc C (q := 154) (lv' := [(3, vI (v3 + 1)), (1, vJ ((31 * v1) + (s32 r145))), (0, .ref ((xW G).h 0))]) 2 d_O_digest_151 rfl (by decide) rfl rfl ?_
    refine r_goto C (q := 133) d_O_digest_154 (by decide) ?_
    exact r_sub [2, 1, 0] rfl (hk133 _ _ _  hf)
theorem s_x_digest_107 {X : CxT} {l : Launch} {G : GG} (C : Cx X l (xW G) 5 prog_1_method_42_code "OneSelf" (wo y_O_digest prog_1_method_42_code 5 (some .long)) (some .long) rm_x_digest) {o : Int × St} {N : Nat} {v1 v3 : Int} {k107 : Int → Int → St → MM} (hk107 : ∀ (u1 u3 : Int) (s : St), k107 u1 u3 s = some o → Rj X (xW G) 5 (qL X (xW G) o) 107 [(0, .ref ((xW G).h 0)), (1, vJ u1), (3, vI u3)] [] s) {s : St} (hf : x_digest_107 N  k107 v1 v3 s = some o) : Rj X (xW G) 5 (qL X (xW G) o) 107 [(0, .ref ((xW G).h 0)), (1, vJ v1), (3, vI v3)] [] s := by
  unfold x_digest_107 at hf
  refine r_iload_n C (q := 108) 2 d_O_digest_107 rfl rfl rfl ?_
  refine r_iconst C (q := 109) d_O_digest_108 rfl ?_
  refine r_ic_gt C (t := 131) (q := 112) d_O_digest_109 (by decide) rfl (fun c109 => ?_) (fun c109 => ?_)
  · replace hf := ite_t c109 hf
    refine r_iconst C (q := 132) d_O_digest_131 rfl ?_
    refine r_istore_n C (q := 133) (lv' := [(3, vI 0), (0, .ref ((xW G).h 0)), (1, vJ v1)]) d_O_digest_132 rfl (by decide) rfl rfl ?_
    have hL : ∀ (u1 u3 : Int) (z : St), itr (x_digest_133 N ) (fun _ _ _ => none) N u1 u3 z = some o → Rj X (xW G) 5 (qL X (xW G) o) 133 [(0, .ref ((xW G).h 0)), (1, vJ u1), (3, vI u3)] [] z := itr_ind (x_digest_133 N ) (fun _ _ _ => none) (fun k => ∀ (u1 u3 : Int) (z : St), k u1 u3 z = some o → Rj X (xW G) 5 (qL X (xW G) o) 133 [(0, .ref ((xW G).h 0)), (1, vJ u1), (3, vI u3)] [] z) (fun _ _ _  h => by cases h) (fun k hk u1 u3 z h => s_x_digest_133 C hk h) N
    exact r_sub [1, 2, 0] rfl (hL _ _ _  hf)
  · replace hf := ite_f c109 hf
    refine r_ldc2 C (q := 115) (x := 31) kc_O_359 rfl d_O_digest_112 rfl ?_
    refine r_lload_n C (q := 116) 1 d_O_digest_115 rfl rfl rfl ?_
    refine r_lmul C (q := 117) d_O_digest_116 rfl ?_
    refine r_aload_n C (q := 118) 0 d_O_digest_117 rfl rfl rfl ?_
    refine r_iload_n C (q := 119) 2 d_O_digest_118 rfl rfl rfl ?_
    obtain ⟨r119, s119, hg119, hf⟩ := bd_s hf
    refine r_cVI C (q := 122) (As := [vI v3]) (k0 := 0) (c_x_bundles C.i hg119) mt_O_bundles ml_O_372 (Nat.le_of_ble_eq_true rfl) rfl rfl rfl rfl rfl rfl ⟨Nat.le_of_ble_eq_true rfl, Nat.le_of_ble_eq_true rfl⟩ rfl (Nat.le_of_ble_eq_true rfl) d_O_digest_119 rfl ?_
    refine r_i2l C (q := 123) d_O_digest_122 rfl ?_
    refine r_ladd C (q := 124) d_O_digest_123 rfl ?_
    refine r_lstore_n C (q := 125) (lv' := [(1, vJ ((31 * v1) + (s32 r119))), (0, .ref ((xW G).h 0)), (3, vI v3)]) d_O_digest_124 rfl (by decide) rfl rfl ?_
    refine r_iinc C (q := 128) (lv' := [(3, vI (v3 + 1)), (1, vJ ((31 * v1) + (s32 r119))), (0, .ref ((xW G).h 0))]) 2 d_O_digest_125 rfl (by decide) rfl rfl ?_
    refine r_goto C (q := 107) d_O_digest_128 (by decide) ?_
    exact r_sub [2, 1, 0] rfl (hk107 _ _ _  hf)
theorem s_x_digest_47 {X : CxT} {l : Launch} {G : GG} (C : Cx X l (xW G) 5 prog_1_method_42_code "OneSelf" (wo y_O_digest prog_1_method_42_code 5 (some .long)) (some .long) rm_x_digest) {o : Int × St} {N : Nat} {v1 v3 v4 : Int} {k33 : Int → Int → St → MM} (hk33 : ∀ (u1 u3 : Int) (s : St), k33 u1 u3 s = some o → Rj X (xW G) 5 (qL X (xW G) o) 33 [(0, .ref ((xW G).h 0)), (1, vJ u1), (3, vI u3)] [] s) {k47 : Int → Int → St → MM} (hk47 : ∀ (u1 u4 : Int) (s : St), k47 u1 u4 s = some o → Rj X (xW G) 5 (qL X (xW G) o) 47 [(0, .ref ((xW G).h 0)), (1, vJ u1), (3, vI v3), (4, vI u4)] [] s) {s : St} (hf : x_digest_47 N k33 v3 k47 v1 v4 s = some o) : Rj X (xW G) 5 (qL X (xW G) o) 47 [(0, .ref ((xW G).h 0)), (1, vJ v1), (3, vI v3), (4, vI v4)] [] s := by
  unfold x_digest_47 at hf
  refine r_iload C (q := 49) 3 d_O_digest_47 rfl rfl ?_
  refine r_bipush C (q := 51) (x := 7) d_O_digest_49 rfl rfl ?_
  refine r_ic_gt C (t := 75) (q := 54) d_O_digest_51 (by decide) rfl (fun c51 => ?_) (fun c51 => ?_)
  · replace hf := ite_t c51 hf
    refine r_iinc C (q := 78) (lv' := [(3, vI (v3 + 1)), (0, .ref ((xW G).h 0)), (1, vJ v1), (4, vI v4)]) 2 d_O_digest_75 rfl (by decide) rfl rfl ?_
    refine r_goto C (q := 33) d_O_digest_78 (by decide) ?_
    exact r_sub [1, 2, 0] rfl (hk33 _ _ _  hf)
  · replace hf := ite_f c51 hf
    refine r_ldc2 C (q := 57) (x := 31) kc_O_359 rfl d_O_digest_54 rfl ?_
    refine r_lload_n C (q := 58) 1 d_O_digest_57 rfl rfl rfl ?_
    refine r_lmul C (q := 59) d_O_digest_58 rfl ?_
    refine r_aload_n C (q := 60) 0 d_O_digest_59 rfl rfl rfl ?_
    refine r_iload_n C (q := 61) 2 d_O_digest_60 rfl rfl rfl ?_
    refine r_iload C (q := 63) 3 d_O_digest_61 rfl rfl ?_
    obtain ⟨r63, s63, hg63, hf⟩ := bd_s hf
    refine r_cVI C (q := 66) (As := [vI v3, vI v4]) (k0 := 0) (c_x_about C.i hg63) mt_O_about ml_O_364 (Nat.le_of_ble_eq_true rfl) rfl rfl rfl rfl rfl rfl ⟨Nat.le_of_ble_eq_true rfl, Nat.le_of_ble_eq_true rfl⟩ rfl (Nat.le_of_ble_eq_true rfl) d_O_digest_63 rfl ?_
    refine r_i2l C (q := 67) d_O_digest_66 rfl ?_
    refine r_ladd C (q := 68) d_O_digest_67 rfl ?_
    refine r_lstore_n C (q := 69) (lv' := [(1, vJ ((31 * v1) + (s32 r63))), (0, .ref ((xW G).h 0)), (3, vI v3), (4, vI v4)]) d_O_digest_68 rfl (by decide) rfl rfl ?_
    refine r_iinc C (q := 72) (lv' := [(4, vI (v4 + 1)), (1, vJ ((31 * v1) + (s32 r63))), (0, .ref ((xW G).h 0)), (3, vI v3)]) 3 d_O_digest_69 rfl (by decide) rfl rfl ?_
    refine r_goto C (q := 47) d_O_digest_72 (by decide) ?_
    exact r_sub [2, 1, 3, 0] rfl (hk47 _ _ _  hf)
theorem s_x_digest_33 {X : CxT} {l : Launch} {G : GG} (C : Cx X l (xW G) 5 prog_1_method_42_code "OneSelf" (wo y_O_digest prog_1_method_42_code 5 (some .long)) (some .long) rm_x_digest) {o : Int × St} {N : Nat} {v1 v3 : Int} {k33 : Int → Int → St → MM} (hk33 : ∀ (u1 u3 : Int) (s : St), k33 u1 u3 s = some o → Rj X (xW G) 5 (qL X (xW G) o) 33 [(0, .ref ((xW G).h 0)), (1, vJ u1), (3, vI u3)] [] s) {s : St} (hf : x_digest_33 N  k33 v1 v3 s = some o) : Rj X (xW G) 5 (qL X (xW G) o) 33 [(0, .ref ((xW G).h 0)), (1, vJ v1), (3, vI v3)] [] s := by
  unfold x_digest_33 at hf
  refine r_iload_n C (q := 34) 2 d_O_digest_33 rfl rfl rfl ?_
  refine r_aload_n C (q := 35) 0 d_O_digest_34 rfl rfl rfl ?_
  refine gxx_O_rows C (q := 38) fl_O_27 d_O_digest_35 rfl ?_
  refine gnx_Rows_many C (q := 41) fn_O_112 d_O_digest_38 rfl ?_
  refine r_ic_ge C (t := 81) (q := 44) d_O_digest_41 (by decide) rfl (fun c41 => ?_) (fun c41 => ?_)
  · replace hf := ite_t c41 hf
    refine r_ldc2 C (q := 84) (x := 31) kc_O_359 rfl d_O_digest_81 rfl ?_
    refine r_lload_n C (q := 85) 1 d_O_digest_84 rfl rfl rfl ?_
    refine r_lmul C (q := 86) d_O_digest_85 rfl ?_
    refine r_aload_n C (q := 87) 0 d_O_digest_86 rfl rfl rfl ?_
    obtain ⟨r87, s87, hg87, hf⟩ := bd_s hf
    refine r_cVI C (q := 90) (As := []) (k0 := 0) (c_x_fault C.i hg87) mt_O_fault ml_O_367 (Nat.le_of_ble_eq_true rfl) rfl rfl rfl rfl rfl rfl ⟨Nat.le_of_ble_eq_true rfl, Nat.le_of_ble_eq_true rfl⟩ rfl (Nat.le_of_ble_eq_true rfl) d_O_digest_87 rfl ?_
    refine r_i2l C (q := 91) d_O_digest_90 rfl ?_
    refine r_ladd C (q := 92) d_O_digest_91 rfl ?_
    refine r_lstore_n C (q := 93) (lv' := [(1, vJ ((31 * v1) + (s32 r87))), (0, .ref ((xW G).h 0)), (3, vI v3)]) d_O_digest_92 rfl (by decide) rfl rfl ?_
    refine r_ldc2 C (q := 96) (x := 31) kc_O_359 rfl d_O_digest_93 rfl ?_
    refine r_lload_n C (q := 97) 0 d_O_digest_96 rfl rfl rfl ?_
    refine r_lmul C (q := 98) d_O_digest_97 rfl ?_
    refine r_aload_n C (q := 99) 1 d_O_digest_98 rfl rfl rfl ?_
    obtain ⟨r99, s99, hg99, hf⟩ := bd_s hf
    refine r_cVI C (q := 102) (As := []) (k0 := 0) (c_x_links C.i hg99) mt_O_links ml_O_369 (Nat.le_of_ble_eq_true rfl) rfl rfl rfl rfl rfl rfl ⟨Nat.le_of_ble_eq_true rfl, Nat.le_of_ble_eq_true rfl⟩ rfl (Nat.le_of_ble_eq_true rfl) d_O_digest_99 rfl ?_
    refine r_i2l C (q := 103) d_O_digest_102 rfl ?_
    refine r_ladd C (q := 104) d_O_digest_103 rfl ?_
    refine r_lstore_n C (q := 105) (lv' := [(1, vJ ((31 * ((31 * v1) + (s32 r87))) + (s32 r99))), (0, .ref ((xW G).h 0)), (3, vI v3)]) d_O_digest_104 rfl (by decide) rfl rfl ?_
    refine r_iconst C (q := 106) d_O_digest_105 rfl ?_
    refine r_istore_n C (q := 107) (lv' := [(3, vI 0), (1, vJ ((31 * ((31 * v1) + (s32 r87))) + (s32 r99))), (0, .ref ((xW G).h 0))]) d_O_digest_106 rfl (by decide) rfl rfl ?_
    have hL : ∀ (u1 u3 : Int) (z : St), itr (x_digest_107 N ) (fun _ _ _ => none) N u1 u3 z = some o → Rj X (xW G) 5 (qL X (xW G) o) 107 [(0, .ref ((xW G).h 0)), (1, vJ u1), (3, vI u3)] [] z := itr_ind (x_digest_107 N ) (fun _ _ _ => none) (fun k => ∀ (u1 u3 : Int) (z : St), k u1 u3 z = some o → Rj X (xW G) 5 (qL X (xW G) o) 107 [(0, .ref ((xW G).h 0)), (1, vJ u1), (3, vI u3)] [] z) (fun _ _ _  h => by cases h) (fun k hk u1 u3 z h => s_x_digest_107 C hk h) N
    exact r_sub [2, 1, 0] rfl (hL _ _ _  hf)
  · replace hf := ite_f c41 hf
    refine r_iconst C (q := 45) d_O_digest_44 rfl ?_
    refine r_istore C (q := 47) (lv' := [(4, vI 0), (0, .ref ((xW G).h 0)), (1, vJ v1), (3, vI v3)]) d_O_digest_45 (by decide) rfl rfl ?_
    have hL : ∀ (u1 u4 : Int) (z : St), itr (x_digest_47 N k33 v3) (fun _ _ _ => none) N u1 u4 z = some o → Rj X (xW G) 5 (qL X (xW G) o) 47 [(0, .ref ((xW G).h 0)), (1, vJ u1), (3, vI v3), (4, vI u4)] [] z := itr_ind (x_digest_47 N k33 v3) (fun _ _ _ => none) (fun k => ∀ (u1 u4 : Int) (z : St), k u1 u4 z = some o → Rj X (xW G) 5 (qL X (xW G) o) 47 [(0, .ref ((xW G).h 0)), (1, vJ u1), (3, vI v3), (4, vI u4)] [] z) (fun _ _ _  h => by cases h) (fun k hk u1 u4 z h => s_x_digest_47 C hk33 hk h) N
    exact r_sub [1, 2, 3, 0] rfl (hL _ _ _  hf)
theorem s_x_digest_6 {X : CxT} {l : Launch} {G : GG} (C : Cx X l (xW G) 5 prog_1_method_42_code "OneSelf" (wo y_O_digest prog_1_method_42_code 5 (some .long)) (some .long) rm_x_digest) {o : Int × St} {N : Nat} {v1 v3 : Int} {k6 : Int → Int → St → MM} (hk6 : ∀ (u1 u3 : Int) (s : St), k6 u1 u3 s = some o → Rj X (xW G) 5 (qL X (xW G) o) 6 [(0, .ref ((xW G).h 0)), (1, vJ u1), (3, vI u3)] [] s) {s : St} (hf : x_digest_6 N  k6 v1 v3 s = some o) : Rj X (xW G) 5 (qL X (xW G) o) 6 [(0, .ref ((xW G).h 0)), (1, vJ v1), (3, vI v3)] [] s := by
  unfold x_digest_6 at hf
  refine r_iload_n C (q := 7) 2 d_O_digest_6 rfl rfl rfl ?_
  refine r_bipush C (q := 9) (x := 7) d_O_digest_7 rfl rfl ?_
  refine r_ic_gt C (t := 31) (q := 12) d_O_digest_9 (by decide) rfl (fun c9 => ?_) (fun c9 => ?_)
  · replace hf := ite_t c9 hf
    refine r_iconst C (q := 32) d_O_digest_31 rfl ?_
    refine r_istore_n C (q := 33) (lv' := [(3, vI 0), (0, .ref ((xW G).h 0)), (1, vJ v1)]) d_O_digest_32 rfl (by decide) rfl rfl ?_
    have hL : ∀ (u1 u3 : Int) (z : St), itr (x_digest_33 N ) (fun _ _ _ => none) N u1 u3 z = some o → Rj X (xW G) 5 (qL X (xW G) o) 33 [(0, .ref ((xW G).h 0)), (1, vJ u1), (3, vI u3)] [] z := itr_ind (x_digest_33 N ) (fun _ _ _ => none) (fun k => ∀ (u1 u3 : Int) (z : St), k u1 u3 z = some o → Rj X (xW G) 5 (qL X (xW G) o) 33 [(0, .ref ((xW G).h 0)), (1, vJ u1), (3, vI u3)] [] z) (fun _ _ _  h => by cases h) (fun k hk u1 u3 z h => s_x_digest_33 C hk h) N
    exact r_sub [1, 2, 0] rfl (hL _ _ _  hf)
  · replace hf := ite_f c9 hf
    refine r_ldc2 C (q := 15) (x := 31) kc_O_359 rfl d_O_digest_12 rfl ?_
    refine r_lload_n C (q := 16) 1 d_O_digest_15 rfl rfl rfl ?_
    refine r_lmul C (q := 17) d_O_digest_16 rfl ?_
    refine r_aload_n C (q := 18) 0 d_O_digest_17 rfl rfl rfl ?_
    refine r_iload_n C (q := 19) 2 d_O_digest_18 rfl rfl rfl ?_
    obtain ⟨r19, s19, hg19, hf⟩ := bd_s hf
    refine r_cVI C (q := 22) (As := [vI v3]) (k0 := 0) (c_x_count C.i hg19) mt_O_count ml_O_361 (Nat.le_of_ble_eq_true rfl) rfl rfl rfl rfl rfl rfl ⟨Nat.le_of_ble_eq_true rfl, Nat.le_of_ble_eq_true rfl⟩ rfl (Nat.le_of_ble_eq_true rfl) d_O_digest_19 rfl ?_
    refine r_i2l C (q := 23) d_O_digest_22 rfl ?_
    refine r_ladd C (q := 24) d_O_digest_23 rfl ?_
    refine r_lstore_n C (q := 25) (lv' := [(1, vJ ((31 * v1) + (s32 r19))), (0, .ref ((xW G).h 0)), (3, vI v3)]) d_O_digest_24 rfl (by decide) rfl rfl ?_
    refine r_iinc C (q := 28) (lv' := [(3, vI (v3 + 1)), (1, vJ ((31 * v1) + (s32 r19))), (0, .ref ((xW G).h 0))]) 2 d_O_digest_25 rfl (by decide) rfl rfl ?_
    refine r_goto C (q := 6) d_O_digest_28 (by decide) ?_
    exact r_sub [2, 1, 0] rfl (hk6 _ _ _  hf)
theorem c_x_digest {l : Launch} {G : GG} (hi : wo_i (xW G)) {N : Nat} {s : St} {o : Int × St} (hf : x_digest N s = some o) : CtL l (xW G) y_O_digest (wo y_O_digest prog_1_method_42_code 5 (some .long)) rm_x_digest [.ref ((xW G).h 0)] s o := by
  refine ct_L (by decide +kernel) hi (Nat.le_of_ble_eq_true rfl) fun X C => ?_
  unfold x_digest at hf
  show Rj X (xW G) 5 (qL X (xW G) o) 0 [(0, .ref ((xW G).h 0))] [] s
  refine r_ldc2 C (q := 3) (x := 17) kc_O_357 rfl d_O_digest_0 rfl ?_
  refine r_lstore_n C (q := 4) (lv' := [(1, vJ 17), (0, .ref ((xW G).h 0))]) d_O_digest_3 rfl (by decide) rfl rfl ?_
  refine r_iconst C (q := 5) d_O_digest_4 rfl ?_
  refine r_istore_n C (q := 6) (lv' := [(3, vI 0), (1, vJ 17), (0, .ref ((xW G).h 0))]) d_O_digest_5 rfl (by decide) rfl rfl ?_
  have hL : ∀ (u1 u3 : Int) (z : St), itr (x_digest_6 N ) (fun _ _ _ => none) N u1 u3 z = some o → Rj X (xW G) 5 (qL X (xW G) o) 6 [(0, .ref ((xW G).h 0)), (1, vJ u1), (3, vI u3)] [] z := itr_ind (x_digest_6 N ) (fun _ _ _ => none) (fun k => ∀ (u1 u3 : Int) (z : St), k u1 u3 z = some o → Rj X (xW G) 5 (qL X (xW G) o) 6 [(0, .ref ((xW G).h 0)), (1, vJ u1), (3, vI u3)] [] z) (fun _ _ _  h => by cases h) (fun k hk u1 u3 z h => s_x_digest_6 C hk h) N
  exact r_sub [2, 1, 0] rfl (hL _ _ _  hf)
