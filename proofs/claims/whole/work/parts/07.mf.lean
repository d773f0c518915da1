def m_bundles (N : Nat) (v1 : Int) (s : St) : MM := bd (m_in N v1 0 2 s) (fun r3 s3 => if eq32 r3 0 then (some ((-2), s3)) else (bd (m_binds N s3) (fun r13 s13 => bd (m_bundlesOf N v1 s13) (fun r18 s18 => some (r18, s18)))))
abbrev rm_m_bundles : Room := { frames := 10, cells := 0, slots := 0, locals := 239 }
theorem c_m_bundles {l : Launch} {G : GG} (hi : wo_i (mW G)) {N : Nat} {v1 : Int} {s : St} {o : Int × St} (hf : m_bundles N v1 s = some o) : CtI l (mW G) y_M_bundles (wo y_M_bundles prog_14_method_52_code 2 (some .int)) rm_m_bundles [.ref ((mW G).h 0), vI v1] s o := by
  refine ct_I (by decide +kernel) hi (Nat.le_of_ble_eq_true rfl) fun X C => ?_
  unfold m_bundles at hf
  show Rj X (mW G) 2 (qI X (mW G) o) 0 [(0, .ref ((mW G).h 0)), (1, vI v1)] [] s
  refine r_iload_n C (q := 1) 1 d_M_bundles_0 rfl rfl rfl ?_
  refine r_iconst C (q := 2) d_M_bundles_1 rfl ?_
  refine r_iconst C (q := 3) d_M_bundles_2 rfl ?_
  obtain ⟨r3, s3, hg3, hf⟩ := bd_s hf
  refine r_cSI C (q := 6) (As := [vI v1, vI 0, vI 2]) (c_m_in C.i hg3) mt_M_in ml_M_133 rfl rfl rfl ⟨Nat.le_of_ble_eq_true rfl, Nat.le_of_ble_eq_true rfl⟩ rfl (Nat.le_of_ble_eq_true rfl) d_M_bundles_3 rfl ?_
  refine r_if_ne C (t := 12) (q := 9) d_M_bundles_6 (by decide) rfl (fun c6 => ?_) (fun c6 => ?_)
  · replace hf := ite_t c6 hf
    refine r_bipush C (q := 11) (x := (-2)) d_M_bundles_9 rfl rfl ?_
    exact r_ireturn C hf d_M_bundles_11
  · replace hf := ite_f c6 hf
    refine r_aload_n C (q := 13) 0 d_M_bundles_12 rfl rfl rfl ?_
    obtain ⟨r13, s13, hg13, hf⟩ := bd_s hf
    refine r_cVV C (q := 16) (As := []) (k0 := 0) (c_m_binds C.i hg13) mt_M_binds ml_M_250 (Nat.le_of_ble_eq_true rfl) rfl rfl rfl rfl rfl rfl ⟨Nat.le_of_ble_eq_true rfl, Nat.le_of_ble_eq_true rfl⟩ rfl (Nat.le_of_ble_eq_true rfl) d_M_bundles_13 rfl ?_
    refine r_aload_n C (q := 17) 0 d_M_bundles_16 rfl rfl rfl ?_
    refine r_iload_n C (q := 18) 1 d_M_bundles_17 rfl rfl rfl ?_
    obtain ⟨r18, s18, hg18, hf⟩ := bd_s hf
    refine r_cVI C (q := 21) (As := [vI v1]) (k0 := 0) (c_m_bundlesOf C.i hg18) mt_M_bundlesOf ml_M_259 (Nat.le_of_ble_eq_true rfl) rfl rfl rfl rfl rfl rfl ⟨Nat.le_of_ble_eq_true rfl, Nat.le_of_ble_eq_true rfl⟩ rfl (Nat.le_of_ble_eq_true rfl) d_M_bundles_18 rfl ?_
    exact r_ireturn C hf d_M_bundles_21
def m_torn (N : Nat) (v1 : Int) (s : St) : MM := bd (m_isRow N v1 s) (fun r2 s2 => if eq32 r2 0 then (some ((-2), s2)) else (bd (m_binds N s2) (fun r12 s12 => gd (inb v1 36) (if eq32 (s12 23 v1) ((-1)) then (some ((-3), s12)) else (gd (inb v1 36) (bd (m_isTorn N (s12 23 v1) s12) (fun r37 s37 => if eq32 r37 0 then (some (0, s37)) else (some (1, s37)))))))))
abbrev rm_m_torn : Room := { frames := 10, cells := 0, slots := 0, locals := 239 }
theorem c_m_torn {l : Launch} {G : GG} (hi : wo_i (mW G)) {N : Nat} {v1 : Int} {s : St} {o : Int × St} (hf : m_torn N v1 s = some o) : CtI l (mW G) y_M_torn (wo y_M_torn prog_14_method_53_code 2 (some .int)) rm_m_torn [.ref ((mW G).h 0), vI v1] s o := by
  refine ct_I (by decide +kernel) hi (Nat.le_of_ble_eq_true rfl) fun X C => ?_
  unfold m_torn at hf
  show Rj X (mW G) 2 (qI X (mW G) o) 0 [(0, .ref ((mW G).h 0)), (1, vI v1)] [] s
  refine r_aload_n C (q := 1) 0 d_M_torn_0 rfl rfl rfl ?_
  refine r_iload_n C (q := 2) 1 d_M_torn_1 rfl rfl rfl ?_
  obtain ⟨r2, s2, hg2, hf⟩ := bd_s hf
  refine r_cVI C (q := 5) (As := [vI v1]) (k0 := 0) (c_m_isRow C.i hg2) mt_M_isRow ml_M_148 (Nat.le_of_ble_eq_true rfl) rfl rfl rfl rfl rfl rfl ⟨Nat.le_of_ble_eq_true rfl, Nat.le_of_ble_eq_true rfl⟩ rfl (Nat.le_of_ble_eq_true rfl) d_M_torn_2 rfl ?_
  refine r_if_ne C (t := 11) (q := 8) d_M_torn_5 (by decide) rfl (fun c5 => ?_) (fun c5 => ?_)
  · replace hf := ite_t c5 hf
    refine r_bipush C (q := 10) (x := (-2)) d_M_torn_8 rfl rfl ?_
    exact r_ireturn C hf d_M_torn_10
  · replace hf := ite_f c5 hf
    refine r_aload_n C (q := 12) 0 d_M_torn_11 rfl rfl rfl ?_
    obtain ⟨r12, s12, hg12, hf⟩ := bd_s hf
    refine r_cVV C (q := 15) (As := []) (k0 := 0) (c_m_binds C.i hg12) mt_M_binds ml_M_250 (Nat.le_of_ble_eq_true rfl) rfl rfl rfl rfl rfl rfl ⟨Nat.le_of_ble_eq_true rfl, Nat.le_of_ble_eq_true rfl⟩ rfl (Nat.le_of_ble_eq_true rfl) d_M_torn_12 rfl ?_
    refine r_aload_n C (q := 16) 0 d_M_torn_15 rfl rfl rfl ?_
    refine gxm_M_bundleOf C (q := 19) fl_M_84 d_M_torn_16 rfl ?_
    refine r_iload_n C (q := 20) 1 d_M_torn_19 rfl rfl rfl ?_
    obtain ⟨g20, hf⟩ := gd_s hf
    refine r_iald C (q := 21) 23 (Nat.le_of_ble_eq_true rfl) (fun _ => rfl) 0 rfl g20 (by decide) d_M_torn_20 rfl ?_
    refine r_iconst C (q := 22) d_M_torn_21 rfl ?_
    refine r_ic_ne C (t := 30) (q := 25) d_M_torn_22 (by decide) rfl (fun c22 => ?_) (fun c22 => ?_)
    · replace hf := ite_t c22 hf
      refine r_bipush C (q := 27) (x := (-3)) d_M_torn_25 rfl rfl ?_
      refine r_goto C (q := 48) d_M_torn_27 (by decide) ?_
      exact r_ireturn C hf d_M_torn_48
    · replace hf := ite_f c22 hf
      refine r_aload_n C (q := 31) 0 d_M_torn_30 rfl rfl rfl ?_
      refine r_aload_n C (q := 32) 0 d_M_torn_31 rfl rfl rfl ?_
      refine gxm_M_bundleOf C (q := 35) fl_M_84 d_M_torn_32 rfl ?_
      refine r_iload_n C (q := 36) 1 d_M_torn_35 rfl rfl rfl ?_
      obtain ⟨g36, hf⟩ := gd_s hf
      refine r_iald C (q := 37) 23 (Nat.le_of_ble_eq_true rfl) (fun _ => rfl) 0 rfl g36 (by decide) d_M_torn_36 rfl ?_
      obtain ⟨r37, s37, hg37, hf⟩ := bd_s hf
      refine r_cVI C (q := 40) (As := [vI (s12 23 v1)]) (k0 := 0) (c_m_isTorn C.i hg37) mt_M_isTorn ml_M_256 (Nat.le_of_ble_eq_true rfl) rfl rfl rfl rfl rfl rfl ⟨Nat.le_of_ble_eq_true rfl, Nat.le_of_ble_eq_true rfl⟩ rfl (Nat.le_of_ble_eq_true rfl) d_M_torn_37 rfl ?_
      refine r_if_eq C (t := 47) (q := 43) d_M_torn_40 (by decide) rfl (fun c40 => ?_) (fun c40 => ?_)
      · replace hf := ite_t c40 hf
        refine r_iconst C (q := 48) d_M_torn_47 rfl ?_
        exact r_ireturn C hf d_M_torn_48
      · replace hf := ite_f c40 hf
        refine r_iconst C (q := 44) d_M_torn_43 rfl ?_
        refine r_goto C (q := 48) d_M_torn_44 (by decide) ?_
        exact r_ireturn C hf d_M_torn_48
def m_crossing_71 (N : Nat) (k5 : Int → Int → St → MM) (k14 : Int → Int → St → MM) (v1 v2 v4 v5 t0 t1 : Int) (s : St) : MM := k14 (t1 + t0) (v5 + 1) s
def m_crossing_70 (N : Nat) (k5 : Int → Int → St → MM) (k14 : Int → Int → St → MM) (v1 v2 v4 v5 t0 : Int) (s : St) : MM := m_crossing_71 N k5 k14 v1 v2 v4 v5 0 t0 s
def m_crossing_14 (N : Nat) (k5 : Int → Int → St → MM) (v1 v2 v4 : Int) (k14 : Int → Int → St → MM) (v3 v5 : Int) (s : St) : MM := if le32 v2 v5 then (k5 v3 (v4 + 1) s) else (if eq32 (an32 (sr32 v1 v4) 1) 1 then (if eq32 (an32 (sr32 v1 v5) 1) 0 then (gd (inb v4 12) (gd (inb v5 12) (gd (inb ((36 * (s 24 v4)) + (s 24 v5)) 1296) (if eq32 (s 17 ((36 * (s 24 v4)) + (s 24 v5))) 0 then (m_crossing_70 N k5 k14 v1 v2 v4 v5 v3 s) else (m_crossing_71 N k5 k14 v1 v2 v4 v5 1 v3 s))))) else (m_crossing_70 N k5 k14 v1 v2 v4 v5 v3 s)) else (m_crossing_70 N k5 k14 v1 v2 v4 v5 v3 s))
def m_crossing_5 (N : Nat) (v1 v2 : Int) (k5 : Int → Int → St → MM) (v3 v4 : Int) (s : St) : MM := if le32 v2 v4 then (some (v3, s)) else (itr (m_crossing_14 N k5 v1 v2 v4) (fun _ _ _ => none) N v3 0 s)
def m_crossing (N : Nat) (v1 v2 : Int) (s : St) : MM := itr (m_crossing_5 N v1 v2) (fun _ _ _ => none) N 0 0 s
abbrev rm_m_crossing : Room := { frames := 0, cells := 0, slots := 0, locals := 0 }
theorem s_m_crossing_71 {X : CxT} {l : Launch} {G : GG} (C : Cx X l (mW G) 6 prog_14_method_55_code "OneSelfModel" (wo y_M_crossing prog_14_method_55_code 6 (some .int)) (some .int) rm_m_crossing) {o : Int × St} {N : Nat} {v1 v2 v4 v5 t0 t1 : Int} {k5 : Int → Int → St → MM} (hk5 : ∀ (u3 u4 : Int) (s : St), k5 u3 u4 s = some o → Rj X (mW G) 6 (qI X (mW G) o) 5 [(0, .ref ((mW G).h 0)), (1, vI v1), (2, vI v2), (3, vI u3), (4, vI u4)] [] s) {k14 : Int → Int → St → MM} (hk14 : ∀ (u3 u5 : Int) (s : St), k14 u3 u5 s = some o → Rj X (mW G) 6 (qI X (mW G) o) 14 [(0, .ref ((mW G).h 0)), (1, vI v1), (2, vI v2), (3, vI u3), (4, vI v4), (5, vI u5)] [] s) {s : St} (hf : m_crossing_71 N k5 k14 v1 v2 v4 v5 t0 t1 s = some o) : Rj X (mW G) 6 (qI X (mW G) o) 71 [(0, .ref ((mW G).h 0)), (1, vI v1), (2, vI v2), (4, vI v4), (5, vI v5)] [vI t0, vI t1] s := by
  unfold m_crossing_71 at hf
  refine r_iadd C (q := 72) d_M_crossing_71 rfl ?_
  refine r_istore_n C (q := 73) (lv' := [(3, vI (t1 + t0)), (0, .ref ((mW G).h 0)), (1, vI v1), (2, vI v2), (4, vI v4), (5, vI v5)]) d_M_crossing_72 rfl (by decide) rfl rfl ?_
  refine r_iinc C (q := 76) (lv' := [(5, vI (v5 + 1)), (3, vI (t1 + t0)), (0, .ref ((mW G).h 0)), (1, vI v1), (2, vI v2), (4, vI v4)]) 5 d_M_crossing_73 rfl (by decide) rfl rfl ?_
  refine r_goto C (q := 14) d_M_crossing_76 (by decide) ?_
  exact r_sub [2, 3, 4, 1, 5, 0] rfl (hk14 _ _ _  hf)
theorem s_m_crossing_70 {X : CxT} {l : Launch} {G : GG} (C : Cx X l (mW G) 6 prog_14_method_55_code "OneSelfModel" (wo y_M_crossing prog_14_method_55_code 6 (some .int)) (some .int) rm_m_crossing) {o : Int × St} {N : Nat} {v1 v2 v4 v5 t0 : Int} {k5 : Int → Int → St → MM} (hk5 : ∀ (u3 u4 : Int) (s : St), k5 u3 u4 s = some o → Rj X (mW G) 6 (qI X (mW G) o) 5 [(0, .ref ((mW G).h 0)), (1, vI v1), (2, vI v2), (3, vI u3), (4, vI u4)] [] s) {k14 : Int → Int → St → MM} (hk14 : ∀ (u3 u5 : Int) (s : St), k14 u3 u5 s = some o → Rj X (mW G) 6 (qI X (mW G) o) 14 [(0, .ref ((mW G).h 0)), (1, vI v1), (2, vI v2), (3, vI u3), (4, vI v4), (5, vI u5)] [] s) {s : St} (hf : m_crossing_70 N k5 k14 v1 v2 v4 v5 t0 s = some o) : Rj X (mW G) 6 (qI X (mW G) o) 70 [(0, .ref ((mW G).h 0)), (1, vI v1), (2, vI v2), (4, vI v4), (5, vI v5)] [vI t0] s := by
  unfold m_crossing_70 at hf
  refine r_iconst C (q := 71) d_M_crossing_70 rfl ?_
  exact r_sub [0, 1, 2, 3, 4] rfl (s_m_crossing_71 C hk5 hk14 hf)
theorem s_m_crossing_14 {X : CxT} {l : Launch} {G : GG} (C : Cx X l (mW G) 6 prog_14_method_55_code "OneSelfModel" (wo y_M_crossing prog_14_method_55_code 6 (some .int)) (some .int) rm_m_crossing) {o : Int × St} {N : Nat} {v1 v2 v3 v4 v5 : Int} {k5 : Int → Int → St → MM} (hk5 : ∀ (u3 u4 : Int) (s : St), k5 u3 u4 s = some o → Rj X (mW G) 6 (qI X (mW G) o) 5 [(0, .ref ((mW G).h 0)), (1, vI v1), (2, vI v2), (3, vI u3), (4, vI u4)] [] s) {k14 : Int → Int → St → MM} (hk14 : ∀ (u3 u5 : Int) (s : St), k14 u3 u5 s = some o → Rj X (mW G) 6 (qI X (mW G) o) 14 [(0, .ref ((mW G).h 0)), (1, vI v1), (2, vI v2), (3, vI u3), (4, vI v4), (5, vI u5)] [] s) {s : St} (hf : m_crossing_14 N k5 v1 v2 v4 k14 v3 v5 s = some o) : Rj X (mW G) 6 (qI X (mW G) o) 14 [(0, .ref ((mW G).h 0)), (1, vI v1), (2, vI v2), (3, vI v3), (4, vI v4), (5, vI v5)] [] s := by
  unfold m_crossing_14 at hf
  refine r_iload C (q := 16) 5 d_M_crossing_14 rfl rfl ?_
  refine r_iload_n C (q := 17) 2 d_M_crossing_16 rfl rfl rfl ?_
  refine r_ic_ge C (t := 79) (q := 20) d_M_crossing_17 (by decide) rfl (fun c17 => ?_) (fun c17 => ?_)
  · replace hf := ite_t c17 hf
    refine r_iinc C (q := 82) (lv' := [(4, vI (v4 + 1)), (0, .ref ((mW G).h 0)), (1, vI v1), (2, vI v2), (3, vI v3), (5, vI v5)]) 4 d_M_crossing_79 rfl (by decide) rfl rfl ?_
    refine r_goto C (q := 5) d_M_crossing_82 (by decide) ?_
    exact r_sub [1, 2, 3, 4, 0] rfl (hk5 _ _ _  hf)
  · replace hf := ite_f c17 hf
    refine r_iload_n C (q := 21) 3 d_M_crossing_20 rfl rfl rfl ?_
    refine r_iload_n C (q := 22) 1 d_M_crossing_21 rfl rfl rfl ?_
    refine r_iload C (q := 24) 4 d_M_crossing_22 rfl rfl ?_
    refine r_ishr C (q := 25) d_M_crossing_24 rfl ?_
    refine r_iconst C (q := 26) d_M_crossing_25 rfl ?_
    refine r_iand C (q := 27) d_M_crossing_26 rfl ?_
    refine r_iconst C (q := 28) d_M_crossing_27 rfl ?_
    refine r_ic_ne C (t := 70) (q := 31) d_M_crossing_28 (by decide) rfl (fun c28 => ?_) (fun c28 => ?_)
    · replace hf := ite_t c28 hf
      refine r_iload_n C (q := 32) 1 d_M_crossing_31 rfl rfl rfl ?_
      refine r_iload C (q := 34) 5 d_M_crossing_32 rfl rfl ?_
      refine r_ishr C (q := 35) d_M_crossing_34 rfl ?_
      refine r_iconst C (q := 36) d_M_crossing_35 rfl ?_
      refine r_iand C (q := 37) d_M_crossing_36 rfl ?_
      refine r_if_ne C (t := 70) (q := 40) d_M_crossing_37 (by decide) rfl (fun c37 => ?_) (fun c37 => ?_)
      · replace hf := ite_t c37 hf
        refine r_aload_n C (q := 41) 0 d_M_crossing_40 rfl rfl rfl ?_
        refine gxm_M_isLink C (q := 44) fl_M_65 d_M_crossing_41 rfl ?_
        refine r_bipush C (q := 46) (x := 36) d_M_crossing_44 rfl rfl ?_
        refine r_aload_n C (q := 47) 0 d_M_crossing_46 rfl rfl rfl ?_
        refine gxm_M_hang C (q := 50) fl_M_87 d_M_crossing_47 rfl ?_
        refine r_iload C (q := 52) 4 d_M_crossing_50 rfl rfl ?_
        obtain ⟨g52, hf⟩ := gd_s hf
        refine r_iald C (q := 53) 24 (Nat.le_of_ble_eq_true rfl) (fun _ => rfl) 0 rfl g52 (by decide) d_M_crossing_52 rfl ?_
        refine r_imul C (q := 54) d_M_crossing_53 rfl ?_
        refine r_aload_n C (q := 55) 0 d_M_crossing_54 rfl rfl rfl ?_
        refine gxm_M_hang C (q := 58) fl_M_87 d_M_crossing_55 rfl ?_
        refine r_iload C (q := 60) 5 d_M_crossing_58 rfl rfl ?_
        obtain ⟨g60, hf⟩ := gd_s hf
        refine r_iald C (q := 61) 24 (Nat.le_of_ble_eq_true rfl) (fun _ => rfl) 0 rfl g60 (by decide) d_M_crossing_60 rfl ?_
        refine r_iadd C (q := 62) d_M_crossing_61 rfl ?_
        obtain ⟨g62, hf⟩ := gd_s hf
        refine r_zald C (q := 63) 17 (Nat.le_of_ble_eq_true rfl) (fun _ => rfl) 2 rfl g62 (by decide) d_M_crossing_62 rfl ?_
        refine r_if_eq C (t := 70) (q := 66) d_M_crossing_63 (by decide) rfl (fun c63 => ?_) (fun c63 => ?_)
        · replace hf := ite_t c63 hf
          exact r_sub [0, 1, 2, 4, 5] rfl (s_m_crossing_70 C hk5 hk14 hf)
        · replace hf := ite_f c63 hf
          refine r_iconst C (q := 67) d_M_crossing_66 rfl ?_
          refine r_goto C (q := 71) d_M_crossing_67 (by decide) ?_
          exact r_sub [0, 1, 2, 4, 5] rfl (s_m_crossing_71 C hk5 hk14 hf)
      · replace hf := ite_f c37 hf
        exact r_sub [0, 1, 2, 4, 5] rfl (s_m_crossing_70 C hk5 hk14 hf)
    · replace hf := ite_f c28 hf
      exact r_sub [0, 1, 2, 4, 5] rfl (s_m_crossing_70 C hk5 hk14 hf)
theorem s_m_crossing_5 {X : CxT} {l : Launch} {G : GG} (C : Cx X l (mW G) 6 prog_14_method_55_code "OneSelfModel" (wo y_M_crossing prog_14_method_55_code 6 (some .int)) (some .int) rm_m_crossing) {o : Int × St} {N : Nat} {v1 v2 v3 v4 : Int} {k5 : Int → Int → St → MM} (hk5 : ∀ (u3 u4 : Int) (s : St), k5 u3 u4 s = some o → Rj X (mW G) 6 (qI X (mW G) o) 5 [(0, .ref ((mW G).h 0)), (1, vI v1), (2, vI v2), (3, vI u3), (4, vI u4)] [] s) {s : St} (hf : m_crossing_5 N v1 v2 k5 v3 v4 s = some o) : Rj X (mW G) 6 (qI X (mW G) o) 5 [(0, .ref ((mW G).h 0)), (1, vI v1), (2, vI v2), (3, vI v3), (4, vI v4)] [] s := by
  unfold m_crossing_5 at hf
  refine r_iload C (q := 7) 4 d_M_crossing_5 rfl rfl ?_
  refine r_iload_n C (q := 8) 2 d_M_crossing_7 rfl rfl rfl ?_
  refine r_ic_ge C (t := 85) (q := 11) d_M_crossing_8 (by decide) rfl (fun c8 => ?_) (fun c8 => ?_)
  · replace hf := ite_t c8 hf
    refine r_iload_n C (q := 86) 3 d_M_crossing_85 rfl rfl rfl ?_
    exact r_ireturn C hf d_M_crossing_86
  · replace hf := ite_f c8 hf
    refine r_iconst C (q := 12) d_M_crossing_11 rfl ?_
    refine r_istore C (q := 14) (lv' := [(5, vI 0), (0, .ref ((mW G).h 0)), (1, vI v1), (2, vI v2), (3, vI v3), (4, vI v4)]) d_M_crossing_12 (by decide) rfl rfl ?_
    have hL : ∀ (u3 u5 : Int) (z : St), itr (m_crossing_14 N k5 v1 v2 v4) (fun _ _ _ => none) N u3 u5 z = some o → Rj X (mW G) 6 (qI X (mW G) o) 14 [(0, .ref ((mW G).h 0)), (1, vI v1), (2, vI v2), (3, vI u3), (4, vI v4), (5, vI u5)] [] z := itr_ind (m_crossing_14 N k5 v1 v2 v4) (fun _ _ _ => none) (fun k => ∀ (u3 u5 : Int) (z : St), k u3 u5 z = some o → Rj X (mW G) 6 (qI X (mW G) o) 14 [(0, .ref ((mW G).h 0)), (1, vI v1), (2, vI v2), (3, vI u3), (4, vI v4), (5, vI u5)] [] z) (fun _ _ _  h => by cases h) (fun k hk u3 u5 z h => s_m_crossing_14 C hk5 hk h) N
    exact r_sub [1, 2, 3, 4, 5, 0] rfl (hL _ _ _  hf)
theorem c_m_crossing {l : Launch} {G : GG} (hi : wo_i (mW G)) {N : Nat} {v1 v2 : Int} {s : St} {o : Int × St} (hf : m_crossing N v1 v2 s = some o) : CtI l (mW G) y_M_crossing (wo y_M_crossing prog_14_method_55_code 6 (some .int)) rm_m_crossing [.ref ((mW G).h 0), vI v1, vI v2] s o := by
  refine ct_I (by decide +kernel) hi (Nat.le_of_ble_eq_true rfl) fun X C => ?_
  unfold m_crossing at hf
  show Rj X (mW G) 6 (qI X (mW G) o) 0 [(0, .ref ((mW G).h 0)), (1, vI v1), (2, vI v2)] [] s
  refine r_iconst C (q := 1) d_M_crossing_0 rfl ?_
  refine r_istore_n C (q := 2) (lv' := [(3, vI 0), (0, .ref ((mW G).h 0)), (1, vI v1), (2, vI v2)]) d_M_crossing_1 rfl (by decide) rfl rfl ?_
  refine r_iconst C (q := 3) d_M_crossing_2 rfl ?_
  refine r_istore C (q := 5) (lv' := [(4, vI 0), (3, vI 0), (0, .ref ((mW G).h 0)), (1, vI v1), (2, vI v2)]) d_M_crossing_3 (by decide) rfl rfl ?_
  have hL : ∀ (u3 u4 : Int) (z : St), itr (m_crossing_5 N v1 v2) (fun _ _ _ => none) N u3 u4 z = some o → Rj X (mW G) 6 (qI X (mW G) o) 5 [(0, .ref ((mW G).h 0)), (1, vI v1), (2, vI v2), (3, vI u3), (4, vI u4)] [] z := itr_ind (m_crossing_5 N v1 v2) (fun _ _ _ => none) (fun k => ∀ (u3 u4 : Int) (z : St), k u3 u4 z = some o → Rj X (mW G) 6 (qI X (mW G) o) 5 [(0, .ref ((mW G).h 0)), (1, vI v1), (2, vI v2), (3, vI u3), (4, vI u4)] [] z) (fun _ _ _  h => by cases h) (fun k hk u3 u4 z h => s_m_crossing_5 C hk h) N
  exact r_sub [2, 3, 4, 1, 0] rfl (hL _ _ _  hf)
def m_cut_137 (N : Nat) (k73 : Int → Int → Int → Int → St → MM) (v1 v2 v3 v4 v5 v6 : Int) (s : St) : MM := k73 v3 v4 v5 (v6 + 1) s
def m_cut_132 (N : Nat) (k73 : Int → Int → Int → Int → St → MM) (v1 v2 v3 v4 v6 t0 : Int) (s : St) : MM := m_cut_137 N k73 v1 v2 (v3 + 1) v4 t0 v6  s
def m_cut_118 (N : Nat) (k73 : Int → Int → Int → Int → St → MM) (v1 v2 v3 v5 v6 t0 : Int) (s : St) : MM := if eq32 v6 v2 then (m_cut_132 N k73 v1 v2 v3 t0 v6 v3 s) else (m_cut_132 N k73 v1 v2 v3 t0 v6 v5 s)
def m_cut_205 (N : Nat) (k151 : Int → Int → St → MM) (v3 v4 v5 v6 v7 : Int) (s : St) : MM := k151 v6 (v7 + 1) s
def m_cut_203 (N : Nat) (k151 : Int → Int → St → MM) (v3 v4 v5 v7 t0 : Int) (s : St) : MM := m_cut_205 N k151 v3 v4 v5 t0 v7  s
def m_cut_151 (N : Nat) (v3 v4 v5 : Int) (k151 : Int → Int → St → MM) (v6 v7 : Int) (s : St) : MM := if le32 (sl32 1 v3) v7 then (some (v6, s)) else (if eq32 (an32 (sr32 v7 v4) 1) 1 then (if eq32 (an32 (sr32 v7 v5) 1) 0 then (bd (m_crossing N v7 v3 s) (fun r184 s184 => if le32 v6 r184 then (m_cut_203 N k151 v3 v4 v5 v7 v6 s184) else (m_cut_203 N k151 v3 v4 v5 v7 r184 s184))) else (m_cut_205 N k151 v3 v4 v5 v6 v7  s)) else (m_cut_205 N k151 v3 v4 v5 v6 v7  s))
def m_cut_73 (N : Nat) (v1 v2 : Int) (k73 : Int → Int → Int → Int → St → MM) (v3 v4 v5 v6 : Int) (s : St) : MM := if le32 (s 0 1) v6 then (itr (m_cut_151 N v3 v4 v5) (fun _ _ _ => none) N 399 0 s) else (gd (inb v6 36) (gd (inb v1 36) (if eq32 (s 23 v6) (s 23 v1) then (gd (inb v3 12) (if eq32 v6 v1 then (m_cut_118 N k73 v1 v2 v3 v5 v6 v3 (su s 24 v3 v6)) else (m_cut_118 N k73 v1 v2 v3 v5 v6 v4 (su s 24 v3 v6)))) else (m_cut_137 N k73 v1 v2 v3 v4 v5 v6  s))))
def m_cut (N : Nat) (v1 v2 : Int) (s : St) : MM := bd (m_areTwo N v1 v2 s) (fun r3 s3 => if eq32 r3 0 then (some ((-2), s3)) else (bd (m_binds N s3) (fun r13 s13 => gd (inb v1 36) (if eq32 (s13 23 v1) ((-1)) then (some ((-3), s13)) else (gd (inb v1 36) (gd (inb v2 36) (if eq32 (s13 23 v1) (s13 23 v2) then (gd (inb v1 36) (bd (m_sizeOf N (s13 23 v1) s13) (fun r51 s51 => if le32 r51 12 then (itr (m_cut_73 N v1 v2) (fun _ _ _ _ _ => none) N 0 0 0 0 s51) else (some ((-4), s51))))) else (some ((-3), s13)))))))))
abbrev rm_m_cut : Room := { frames := 10, cells := 0, slots := 0, locals := 239 }
theorem s_m_cut_137 {X : CxT} {l : Launch} {G : GG} (C : Cx X l (mW G) 9 prog_14_method_54_code "OneSelfModel" (wo y_M_cut prog_14_method_54_code 9 (some .int)) (some .int) rm_m_cut) {o : Int × St} {N : Nat} {v1 v2 v3 v4 v5 v6 : Int} {k73 : Int → Int → Int → Int → St → MM} (hk73 : ∀ (u3 u4 u5 u6 : Int) (s : St), k73 u3 u4 u5 u6 s = some o → Rj X (mW G) 9 (qI X (mW G) o) 73 [(0, .ref ((mW G).h 0)), (1, vI v1), (2, vI v2), (3, vI u3), (4, vI u4), (5, vI u5), (6, vI u6)] [] s) {s : St} (hf : m_cut_137 N k73 v1 v2 v3 v4 v5 v6 s = some o) : Rj X (mW G) 9 (qI X (mW G) o) 137 [(0, .ref ((mW G).h 0)), (1, vI v1), (2, vI v2), (3, vI v3), (4, vI v4), (5, vI v5), (6, vI v6)] [] s := by
  unfold m_cut_137 at hf
  refine r_iinc C (q := 140) (lv' := [(6, vI (v6 + 1)), (0, .ref ((mW G).h 0)), (1, vI v1), (2, vI v2), (3, vI v3), (4, vI v4), (5, vI v5)]) 6 d_M_cut_137 rfl (by decide) rfl rfl ?_
  refine r_goto C (q := 73) d_M_cut_140 (by decide) ?_
  exact r_sub [1, 2, 3, 4, 5, 6, 0] rfl (hk73 _ _ _ _ _  hf)
theorem s_m_cut_132 {X : CxT} {l : Launch} {G : GG} (C : Cx X l (mW G) 9 prog_14_method_54_code "OneSelfModel" (wo y_M_cut prog_14_method_54_code 9 (some .int)) (some .int) rm_m_cut) {o : Int × St} {N : Nat} {v1 v2 v3 v4 v6 t0 : Int} {k73 : Int → Int → Int → Int → St → MM} (hk73 : ∀ (u3 u4 u5 u6 : Int) (s : St), k73 u3 u4 u5 u6 s = some o → Rj X (mW G) 9 (qI X (mW G) o) 73 [(0, .ref ((mW G).h 0)), (1, vI v1), (2, vI v2), (3, vI u3), (4, vI u4), (5, vI u5), (6, vI u6)] [] s) {s : St} (hf : m_cut_132 N k73 v1 v2 v3 v4 v6 t0 s = some o) : Rj X (mW G) 9 (qI X (mW G) o) 132 [(0, .ref ((mW G).h 0)), (1, vI v1), (2, vI v2), (3, vI v3), (4, vI v4), (6, vI v6)] [vI t0] s := by
  unfold m_cut_132 at hf
  refine r_istore C (q := 134) (lv' := [(5, vI t0), (0, .ref ((mW G).h 0)), (1, vI v1), (2, vI v2), (3, vI v3), (4, vI v4), (6, vI v6)]) d_M_cut_132 (by decide) rfl rfl ?_
  refine r_iinc C (q := 137) (lv' := [(3, vI (v3 + 1)), (5, vI t0), (0, .ref ((mW G).h 0)), (1, vI v1), (2, vI v2), (4, vI v4), (6, vI v6)]) 4 d_M_cut_134 rfl (by decide) rfl rfl ?_
  exact r_sub [2, 3, 4, 0, 5, 1, 6] rfl (s_m_cut_137 C hk73 hf)
theorem s_m_cut_118 {X : CxT} {l : Launch} {G : GG} (C : Cx X l (mW G) 9 prog_14_method_54_code "OneSelfModel" (wo y_M_cut prog_14_method_54_code 9 (some .int)) (some .int) rm_m_cut) {o : Int × St} {N : Nat} {v1 v2 v3 v5 v6 t0 : Int} {k73 : Int → Int → Int → Int → St → MM} (hk73 : ∀ (u3 u4 u5 u6 : Int) (s : St), k73 u3 u4 u5 u6 s = some o → Rj X (mW G) 9 (qI X (mW G) o) 73 [(0, .ref ((mW G).h 0)), (1, vI v1), (2, vI v2), (3, vI u3), (4, vI u4), (5, vI u5), (6, vI u6)] [] s) {s : St} (hf : m_cut_118 N k73 v1 v2 v3 v5 v6 t0 s = some o) : Rj X (mW G) 9 (qI X (mW G) o) 118 [(0, .ref ((mW G).h 0)), (1, vI v1), (2, vI v2), (3, vI v3), (5, vI v5), (6, vI v6)] [vI t0] s := by
  unfold m_cut_118 at hf
  refine r_istore C (q := 120) (lv' := [(4, vI t0), (0, .ref ((mW G).h 0)), (1, vI v1), (2, vI v2), (3, vI v3), (5, vI v5), (6, vI v6)]) d_M_cut_118 (by decide) rfl rfl ?_
  refine r_iload C (q := 122) 6 d_M_cut_120 rfl rfl ?_
  refine r_iload_n C (q := 123) 3 d_M_cut_122 rfl rfl rfl ?_
  refine r_ic_ne C (t := 130) (q := 126) d_M_cut_123 (by decide) rfl (fun c123 => ?_) (fun c123 => ?_)
  · replace hf := ite_t c123 hf
    refine r_iload_n C (q := 127) 4 d_M_cut_126 rfl rfl rfl ?_
    refine r_goto C (q := 132) d_M_cut_127 (by decide) ?_
    exact r_sub [1, 2, 3, 4, 0, 6] rfl (s_m_cut_132 C hk73 hf)
  · replace hf := ite_f c123 hf
    refine r_iload C (q := 132) 5 d_M_cut_130 rfl rfl ?_
    exact r_sub [1, 2, 3, 4, 0, 6] rfl (s_m_cut_132 C hk73 hf)
theorem s_m_cut_205 {X : CxT} {l : Launch} {G : GG} (C : Cx X l (mW G) 9 prog_14_method_54_code "OneSelfModel" (wo y_M_cut prog_14_method_54_code 9 (some .int)) (some .int) rm_m_cut) {o : Int × St} {N : Nat} {v3 v4 v5 v6 v7 : Int} {k151 : Int → Int → St → MM} (hk151 : ∀ (u6 u7 : Int) (s : St), k151 u6 u7 s = some o → Rj X (mW G) 9 (qI X (mW G) o) 151 [(0, .ref ((mW G).h 0)), (3, vI v3), (4, vI v4), (5, vI v5), (6, vI u6), (7, vI u7)] [] s) {s : St} (hf : m_cut_205 N k151 v3 v4 v5 v6 v7 s = some o) : Rj X (mW G) 9 (qI X (mW G) o) 205 [(0, .ref ((mW G).h 0)), (3, vI v3), (4, vI v4), (5, vI v5), (6, vI v6), (7, vI v7)] [] s := by
  unfold m_cut_205 at hf
  refine r_iinc C (q := 208) (lv' := [(7, vI (v7 + 1)), (0, .ref ((mW G).h 0)), (3, vI v3), (4, vI v4), (5, vI v5), (6, vI v6)]) 5 d_M_cut_205 rfl (by decide) rfl rfl ?_
  refine r_goto C (q := 151) d_M_cut_208 (by decide) ?_
  exact r_sub [1, 2, 3, 4, 5, 0] rfl (hk151 _ _ _  hf)
theorem s_m_cut_203 {X : CxT} {l : Launch} {G : GG} (C : Cx X l (mW G) 9 prog_14_method_54_code "OneSelfModel" (wo y_M_cut prog_14_method_54_code 9 (some .int)) (some .int) rm_m_cut) {o : Int × St} {N : Nat} {v3 v4 v5 v7 t0 : Int} {k151 : Int → Int → St → MM} (hk151 : ∀ (u6 u7 : Int) (s : St), k151 u6 u7 s = some o → Rj X (mW G) 9 (qI X (mW G) o) 151 [(0, .ref ((mW G).h 0)), (3, vI v3), (4, vI v4), (5, vI v5), (6, vI u6), (7, vI u7)] [] s) {s : St} (hf : m_cut_203 N k151 v3 v4 v5 v7 t0 s = some o) : Rj X (mW G) 9 (qI X (mW G) o) 203 [(0, .ref ((mW G).h 0)), (3, vI v3), (4, vI v4), (5, vI v5), (7, vI v7)] [vI t0] s := by
  unfold m_cut_203 at hf
  refine r_istore C (q := 205) (lv' := [(6, vI t0), (0, .ref ((mW G).h 0)), (3, vI v3), (4, vI v4), (5, vI v5), (7, vI v7)]) d_M_cut_203 (by decide) rfl rfl ?_
  exact r_sub [1, 2, 3, 4, 0, 5] rfl (s_m_cut_205 C hk151 hf)
theorem s_m_cut_151 {X : CxT} {l : Launch} {G : GG} (C : Cx X l (mW G) 9 prog_14_method_54_code "OneSelfModel" (wo y_M_cut prog_14_method_54_code 9 (some .int)) (some .int) rm_m_cut) {o : Int × St} {N : Nat} {v3 v4 v5 v6 v7 : Int} {k151 : Int → Int → St → MM} (hk151 : ∀ (u6 u7 : Int) (s : St), k151 u6 u7 s = some o → Rj X (mW G) 9 (qI X (mW G) o) 151 [(0, .ref ((mW G).h 0)), (3, vI v3), (4, vI v4), (5, vI v5), (6, vI u6), (7, vI u7)] [] s) {s : St} (hf : m_cut_151 N v3 v4 v5 k151 v6 v7 s = some o) : Rj X (mW G) 9 (qI X (mW G) o) 151 [(0, .ref ((mW G).h 0)), (3, vI v3), (4, vI v4), (5, vI v5), (6, vI v6), (7, vI v7)] [] s := by
  unfold m_cut_151 at hf
  refine r_iload C (q := 153) 5 d_M_cut_151 rfl rfl ?_
  refine r_iconst C (q := 154) d_M_cut_153 rfl ?_
  refine r_iload_n C (q := 155) 1 d_M_cut_154 rfl rfl rfl ?_
  refine r_ishl C (q := 156) d_M_cut_155 rfl ?_
  refine r_ic_ge C (t := 211) (q := 159) d_M_cut_156 (by decide) rfl (fun c156 => ?_) (fun c156 => ?_)
  · replace hf := ite_t c156 hf
    refine r_iload C (q := 213) 4 d_M_cut_211 rfl rfl ?_
    exact r_ireturn C hf d_M_cut_213
  · replace hf := ite_f c156 hf
    refine r_iload C (q := 161) 5 d_M_cut_159 rfl rfl ?_
    refine r_iload C (q := 163) 2 d_M_cut_161 rfl rfl ?_
    refine r_ishr C (q := 164) d_M_cut_163 rfl ?_
    refine r_iconst C (q := 165) d_M_cut_164 rfl ?_
    refine r_iand C (q := 166) d_M_cut_165 rfl ?_
    refine r_iconst C (q := 167) d_M_cut_166 rfl ?_
    refine r_ic_ne C (t := 205) (q := 170) d_M_cut_167 (by decide) rfl (fun c167 => ?_) (fun c167 => ?_)
    · replace hf := ite_t c167 hf
      refine r_iload C (q := 172) 5 d_M_cut_170 rfl rfl ?_
      refine r_iload C (q := 174) 3 d_M_cut_172 rfl rfl ?_
      refine r_ishr C (q := 175) d_M_cut_174 rfl ?_
      refine r_iconst C (q := 176) d_M_cut_175 rfl ?_
      refine r_iand C (q := 177) d_M_cut_176 rfl ?_
      refine r_if_ne C (t := 205) (q := 180) d_M_cut_177 (by decide) rfl (fun c177 => ?_) (fun c177 => ?_)
      · replace hf := ite_t c177 hf
        refine r_aload_n C (q := 181) 0 d_M_cut_180 rfl rfl rfl ?_
        refine r_iload C (q := 183) 5 d_M_cut_181 rfl rfl ?_
        refine r_iload_n C (q := 184) 1 d_M_cut_183 rfl rfl rfl ?_
        obtain ⟨r184, s184, hg184, hf⟩ := bd_s hf
        refine r_cVI C (q := 187) (As := [vI v7, vI v3]) (k0 := 0) (c_m_crossing C.i hg184) mt_M_crossing ml_M_262 (Nat.le_of_ble_eq_true rfl) rfl rfl rfl rfl rfl rfl ⟨Nat.le_of_ble_eq_true rfl, Nat.le_of_ble_eq_true rfl⟩ rfl (Nat.le_of_ble_eq_true rfl) d_M_cut_184 rfl ?_
        refine r_istore C (q := 189) (lv' := [(8, vI r184), (0, .ref ((mW G).h 0)), (3, vI v3), (4, vI v4), (5, vI v5), (6, vI v6), (7, vI v7)]) d_M_cut_187 (by decide) rfl rfl ?_
        refine r_iload C (q := 191) 0 d_M_cut_189 rfl rfl ?_
        refine r_iload C (q := 193) 5 d_M_cut_191 rfl rfl ?_
        refine r_ic_ge C (t := 201) (q := 196) d_M_cut_193 (by decide) rfl (fun c193 => ?_) (fun c193 => ?_)
        · replace hf := ite_t c193 hf
          refine r_iload C (q := 203) 5 d_M_cut_201 rfl rfl ?_
          exact r_sub [1, 2, 3, 4, 6] rfl (s_m_cut_203 C hk151 hf)
        · replace hf := ite_f c193 hf
          refine r_iload C (q := 198) 0 d_M_cut_196 rfl rfl ?_
          refine r_goto C (q := 203) d_M_cut_198 (by decide) ?_
          exact r_sub [1, 2, 3, 4, 6] rfl (s_m_cut_203 C hk151 hf)
      · replace hf := ite_f c177 hf
        exact r_sub [0, 1, 2, 3, 4, 5] rfl (s_m_cut_205 C hk151 hf)
    · replace hf := ite_f c167 hf
      exact r_sub [0, 1, 2, 3, 4, 5] rfl (s_m_cut_205 C hk151 hf)
theorem s_m_cut_73 {X : CxT} {l : Launch} {G : GG} (C : Cx X l (mW G) 9 prog_14_method_54_code "OneSelfModel" (wo y_M_cut prog_14_method_54_code 9 (some .int)) (some .int) rm_m_cut) {o : Int × St} {N : Nat} {v1 v2 v3 v4 v5 v6 : Int} {k73 : Int → Int → Int → Int → St → MM} (hk73 : ∀ (u3 u4 u5 u6 : Int) (s : St), k73 u3 u4 u5 u6 s = some o → Rj X (mW G) 9 (qI X (mW G) o) 73 [(0, .ref ((mW G).h 0)), (1, vI v1), (2, vI v2), (3, vI u3), (4, vI u4), (5, vI u5), (6, vI u6)] [] s) {s : St} (hf : m_cut_73 N v1 v2 k73 v3 v4 v5 v6 s = some o) : Rj X (mW G) 9 (qI X (mW G) o) 73 [(0, .ref ((mW G).h 0)), (1, vI v1), (2, vI v2), (3, vI v3), (4, vI v4), (5, vI v5), (6, vI v6)] [] s := by
  unfold m_cut_73 at hf
  refine r_iload C (q := 75) 6 d_M_cut_73 rfl rfl ?_
  refine r_aload_n C (q := 76) 0 d_M_cut_75 rfl rfl rfl ?_
  refine gxm_M_rows C (q := 79) fl_M_130 d_M_cut_76 rfl ?_
  refine r_ic_ge C (t := 143) (q := 82) d_M_cut_79 (by decide) rfl (fun c79 => ?_) (fun c79 => ?_)
  · replace hf := ite_t c79 hf
    refine r_sipush C (q := 146) (x := 399) d_M_cut_143 rfl rfl ?_
    refine r_istore C (q := 148) (lv' := [(6, vI 399), (0, .ref ((mW G).h 0)), (1, vI v1), (2, vI v2), (3, vI v3), (4, vI v4), (5, vI v5)]) d_M_cut_146 (by decide) rfl rfl ?_
    refine r_iconst C (q := 149) d_M_cut_148 rfl ?_
    refine r_istore C (q := 151) (lv' := [(7, vI 0), (6, vI 399), (0, .ref ((mW G).h 0)), (1, vI v1), (2, vI v2), (3, vI v3), (4, vI v4), (5, vI v5)]) d_M_cut_149 (by decide) rfl rfl ?_
    have hL : ∀ (u6 u7 : Int) (z : St), itr (m_cut_151 N v3 v4 v5) (fun _ _ _ => none) N u6 u7 z = some o → Rj X (mW G) 9 (qI X (mW G) o) 151 [(0, .ref ((mW G).h 0)), (3, vI v3), (4, vI v4), (5, vI v5), (6, vI u6), (7, vI u7)] [] z := itr_ind (m_cut_151 N v3 v4 v5) (fun _ _ _ => none) (fun k => ∀ (u6 u7 : Int) (z : St), k u6 u7 z = some o → Rj X (mW G) 9 (qI X (mW G) o) 151 [(0, .ref ((mW G).h 0)), (3, vI v3), (4, vI v4), (5, vI v5), (6, vI u6), (7, vI u7)] [] z) (fun _ _ _  h => by cases h) (fun k hk u6 u7 z h => s_m_cut_151 C hk h) N
    exact r_sub [2, 5, 6, 7, 1, 0] rfl (hL _ _ _  hf)
  · replace hf := ite_f c79 hf
    refine r_aload_n C (q := 83) 0 d_M_cut_82 rfl rfl rfl ?_
    refine gxm_M_bundleOf C (q := 86) fl_M_84 d_M_cut_83 rfl ?_
    refine r_iload C (q := 88) 6 d_M_cut_86 rfl rfl ?_
    obtain ⟨g88, hf⟩ := gd_s hf
    refine r_iald C (q := 89) 23 (Nat.le_of_ble_eq_true rfl) (fun _ => rfl) 0 rfl g88 (by decide) d_M_cut_88 rfl ?_
    refine r_aload_n C (q := 90) 0 d_M_cut_89 rfl rfl rfl ?_
    refine gxm_M_bundleOf C (q := 93) fl_M_84 d_M_cut_90 rfl ?_
    refine r_iload_n C (q := 94) 1 d_M_cut_93 rfl rfl rfl ?_
    obtain ⟨g94, hf⟩ := gd_s hf
    refine r_iald C (q := 95) 23 (Nat.le_of_ble_eq_true rfl) (fun _ => rfl) 0 rfl g94 (by decide) d_M_cut_94 rfl ?_
    refine r_ic_ne C (t := 137) (q := 98) d_M_cut_95 (by decide) rfl (fun c95 => ?_) (fun c95 => ?_)
    · replace hf := ite_t c95 hf
      refine r_aload_n C (q := 99) 0 d_M_cut_98 rfl rfl rfl ?_
      refine gxm_M_hang C (q := 102) fl_M_87 d_M_cut_99 rfl ?_
      refine r_iload_n C (q := 103) 3 d_M_cut_102 rfl rfl rfl ?_
      refine r_iload C (q := 105) 6 d_M_cut_103 rfl rfl ?_
      obtain ⟨g105, hf⟩ := gd_s hf
      refine r_iast C (q := 106) 24 (Nat.le_of_ble_eq_true rfl) (fun _ => rfl) 0 rfl g105 (by decide) d_M_cut_105 rfl ?_
      refine r_iload C (q := 108) 6 d_M_cut_106 rfl rfl ?_
      refine r_iload_n C (q := 109) 1 d_M_cut_108 rfl rfl rfl ?_
      refine r_ic_ne C (t := 116) (q := 112) d_M_cut_109 (by decide) rfl (fun c109 => ?_) (fun c109 => ?_)
      · replace hf := ite_t c109 hf
        refine r_iload_n C (q := 113) 3 d_M_cut_112 rfl rfl rfl ?_
        refine r_goto C (q := 118) d_M_cut_113 (by decide) ?_
        exact r_sub [0, 1, 2, 3, 5, 6] rfl (s_m_cut_118 C hk73 hf)
      · replace hf := ite_f c109 hf
        refine r_iload C (q := 118) 4 d_M_cut_116 rfl rfl ?_
        exact r_sub [0, 1, 2, 3, 5, 6] rfl (s_m_cut_118 C hk73 hf)
    · replace hf := ite_f c95 hf
      exact r_sub [0, 1, 2, 3, 4, 5, 6] rfl (s_m_cut_137 C hk73 hf)
theorem c_m_cut {l : Launch} {G : GG} (hi : wo_i (mW G)) {N : Nat} {v1 v2 : Int} {s : St} {o : Int × St} (hf : m_cut N v1 v2 s = some o) : CtI l (mW G) y_M_cut (wo y_M_cut prog_14_method_54_code 9 (some .int)) rm_m_cut [.ref ((mW G).h 0), vI v1, vI v2] s o := by
  refine ct_I (by decide +kernel) hi (Nat.le_of_ble_eq_true rfl) fun X C => ?_
  unfold m_cut at hf
  show Rj X (mW G) 9 (qI X (mW G) o) 0 [(0, .ref ((mW G).h 0)), (1, vI v1), (2, vI v2)] [] s
  refine r_aload_n C (q := 1) 0 d_M_cut_0 rfl rfl rfl ?_
  refine r_iload_n C (q := 2) 1 d_M_cut_1 rfl rfl rfl ?_
  refine r_iload_n C (q := 3) 2 d_M_cut_2 rfl rfl rfl ?_
  obtain ⟨r3, s3, hg3, hf⟩ := bd_s hf
  refine r_cVI C (q := 6) (As := [vI v1, vI v2]) (k0 := 0) (c_m_areTwo C.i hg3) mt_M_areTwo ml_M_194 (Nat.le_of_ble_eq_true rfl) rfl rfl rfl rfl rfl rfl ⟨Nat.le_of_ble_eq_true rfl, Nat.le_of_ble_eq_true rfl⟩ rfl (Nat.le_of_ble_eq_true rfl) d_M_cut_3 rfl ?_
  refine r_if_ne C (t := 12) (q := 9) d_M_cut_6 (by decide) rfl (fun c6 => ?_) (fun c6 => ?_)
  · replace hf := ite_t c6 hf
    refine r_bipush C (q := 11) (x := (-2)) d_M_cut_9 rfl rfl ?_
    exact r_ireturn C hf d_M_cut_11
  · replace hf := ite_f c6 hf
    refine r_aload_n C (q := 13) 0 d_M_cut_12 rfl rfl rfl ?_
    obtain ⟨r13, s13, hg13, hf⟩ := bd_s hf
    refine r_cVV C (q := 16) (As := []) (k0 := 0) (c_m_binds C.i hg13) mt_M_binds ml_M_250 (Nat.le_of_ble_eq_true rfl) rfl rfl rfl rfl rfl rfl ⟨Nat.le_of_ble_eq_true rfl, Nat.le_of_ble_eq_true rfl⟩ rfl (Nat.le_of_ble_eq_true rfl) d_M_cut_13 rfl ?_
    refine r_aload_n C (q := 17) 0 d_M_cut_16 rfl rfl rfl ?_
    refine gxm_M_bundleOf C (q := 20) fl_M_84 d_M_cut_17 rfl ?_
    refine r_iload_n C (q := 21) 1 d_M_cut_20 rfl rfl rfl ?_
    obtain ⟨g21, hf⟩ := gd_s hf
    refine r_iald C (q := 22) 23 (Nat.le_of_ble_eq_true rfl) (fun _ => rfl) 0 rfl g21 (by decide) d_M_cut_21 rfl ?_
    refine r_iconst C (q := 23) d_M_cut_22 rfl ?_
    refine r_ic_eq C (t := 41) (q := 26) d_M_cut_23 (by decide) rfl (fun c23 => ?_) (fun c23 => ?_)
    · replace hf := ite_t c23 hf
      refine r_bipush C (q := 43) (x := (-3)) d_M_cut_41 rfl rfl ?_
      exact r_ireturn C hf d_M_cut_43
    · replace hf := ite_f c23 hf
      refine r_aload_n C (q := 27) 0 d_M_cut_26 rfl rfl rfl ?_
      refine gxm_M_bundleOf C (q := 30) fl_M_84 d_M_cut_27 rfl ?_
      refine r_iload_n C (q := 31) 1 d_M_cut_30 rfl rfl rfl ?_
      obtain ⟨g31, hf⟩ := gd_s hf
      refine r_iald C (q := 32) 23 (Nat.le_of_ble_eq_true rfl) (fun _ => rfl) 0 rfl g31 (by decide) d_M_cut_31 rfl ?_
      refine r_aload_n C (q := 33) 0 d_M_cut_32 rfl rfl rfl ?_
      refine gxm_M_bundleOf C (q := 36) fl_M_84 d_M_cut_33 rfl ?_
      refine r_iload_n C (q := 37) 2 d_M_cut_36 rfl rfl rfl ?_
      obtain ⟨g37, hf⟩ := gd_s hf
      refine r_iald C (q := 38) 23 (Nat.le_of_ble_eq_true rfl) (fun _ => rfl) 0 rfl g37 (by decide) d_M_cut_37 rfl ?_
      refine r_ic_eq C (t := 44) (q := 41) d_M_cut_38 (by decide) rfl (fun c38 => ?_) (fun c38 => ?_)
      · replace hf := ite_t c38 hf
        refine r_aload_n C (q := 45) 0 d_M_cut_44 rfl rfl rfl ?_
        refine r_aload_n C (q := 46) 0 d_M_cut_45 rfl rfl rfl ?_
        refine gxm_M_bundleOf C (q := 49) fl_M_84 d_M_cut_46 rfl ?_
        refine r_iload_n C (q := 50) 1 d_M_cut_49 rfl rfl rfl ?_
        obtain ⟨g50, hf⟩ := gd_s hf
        refine r_iald C (q := 51) 23 (Nat.le_of_ble_eq_true rfl) (fun _ => rfl) 0 rfl g50 (by decide) d_M_cut_50 rfl ?_
        obtain ⟨r51, s51, hg51, hf⟩ := bd_s hf
        refine r_cVI C (q := 54) (As := [vI (s13 23 v1)]) (k0 := 0) (c_m_sizeOf C.i hg51) mt_M_sizeOf ml_M_253 (Nat.le_of_ble_eq_true rfl) rfl rfl rfl rfl rfl rfl ⟨Nat.le_of_ble_eq_true rfl, Nat.le_of_ble_eq_true rfl⟩ rfl (Nat.le_of_ble_eq_true rfl) d_M_cut_51 rfl ?_
        refine r_bipush C (q := 56) (x := 12) d_M_cut_54 rfl rfl ?_
        refine r_ic_le C (t := 62) (q := 59) d_M_cut_56 (by decide) rfl (fun c56 => ?_) (fun c56 => ?_)
        · replace hf := ite_t c56 hf
          refine r_iconst C (q := 63) d_M_cut_62 rfl ?_
          refine r_istore_n C (q := 64) (lv' := [(3, vI 0), (0, .ref ((mW G).h 0)), (1, vI v1), (2, vI v2)]) d_M_cut_63 rfl (by decide) rfl rfl ?_
          refine r_iconst C (q := 65) d_M_cut_64 rfl ?_
          refine r_istore C (q := 67) (lv' := [(4, vI 0), (3, vI 0), (0, .ref ((mW G).h 0)), (1, vI v1), (2, vI v2)]) d_M_cut_65 (by decide) rfl rfl ?_
          refine r_iconst C (q := 68) d_M_cut_67 rfl ?_
          refine r_istore C (q := 70) (lv' := [(5, vI 0), (4, vI 0), (3, vI 0), (0, .ref ((mW G).h 0)), (1, vI v1), (2, vI v2)]) d_M_cut_68 (by decide) rfl rfl ?_
          refine r_iconst C (q := 71) d_M_cut_70 rfl ?_
          refine r_istore C (q := 73) (lv' := [(6, vI 0), (5, vI 0), (4, vI 0), (3, vI 0), (0, .ref ((mW G).h 0)), (1, vI v1), (2, vI v2)]) d_M_cut_71 (by decide) rfl rfl ?_
          have hL : ∀ (u3 u4 u5 u6 : Int) (z : St), itr (m_cut_73 N v1 v2) (fun _ _ _ _ _ => none) N u3 u4 u5 u6 z = some o → Rj X (mW G) 9 (qI X (mW G) o) 73 [(0, .ref ((mW G).h 0)), (1, vI v1), (2, vI v2), (3, vI u3), (4, vI u4), (5, vI u5), (6, vI u6)] [] z := itr_ind (m_cut_73 N v1 v2) (fun _ _ _ _ _ => none) (fun k => ∀ (u3 u4 u5 u6 : Int) (z : St), k u3 u4 u5 u6 z = some o → Rj X (mW G) 9 (qI X (mW G) o) 73 [(0, .ref ((mW G).h 0)), (1, vI v1), (2, vI v2), (3, vI u3), (4, vI u4), (5, vI u5), (6, vI u6)] [] z) (fun _ _ _ _ _  h => by cases h) (fun k hk u3 u4 u5 u6 z h => s_m_cut_73 C hk h) N
          exact r_sub [4, 5, 6, 3, 2, 1, 0] rfl (hL _ _ _ _ _  hf)
        · replace hf := ite_f c56 hf
          refine r_bipush C (q := 61) (x := (-4)) d_M_cut_59 rfl rfl ?_
          exact r_ireturn C hf d_M_cut_61
      · replace hf := ite_f c38 hf
        refine r_bipush C (q := 43) (x := (-3)) d_M_cut_41 rfl rfl ?_
        exact r_ireturn C hf d_M_cut_43
def m_check_68 (N : Nat) (v3 v4 : Int) (s : St) : MM := gd (inb v4 40) (gd (bit1 v3) (some ((su s 27 v4 v3) 0 37, su s 27 v4 v3)))
def m_check_81 (N : Nat) (k15 : Int → St → MM) (v1 v2 v3 v4 : Int) (s : St) : MM := k15 (v4 + 1) s
def m_check_46 (N : Nat) (k15 : Int → St → MM) (v1 v2 v3 v4 : Int) (s : St) : MM := gd (inb v4 40) (if eq32 (s 25 v4) v2 then (gd (inb v4 40) (if eq32 (s 26 v4) v1 then (m_check_68 N v3 v4  s) else (m_check_81 N k15 v1 v2 v3 v4  s))) else (m_check_81 N k15 v1 v2 v3 v4  s))
def m_check_15 (N : Nat) (v1 v2 v3 : Int) (k15 : Int → St → MM) (v4 : Int) (s : St) : MM := if le32 (s 0 37) v4 then (if eq32 (s 0 37) 40 then (some ((-4), s)) else (gd (inb (s 0 37) 40) (gd (inb ((su s 25 (s 0 37) v1) 0 37) 40) (gd (inb ((su (su s 25 (s 0 37) v1) 26 ((su s 25 (s 0 37) v1) 0 37) v2) 0 37) 40) (gd (bit1 v3) (some ((su (su (su (su s 25 (s 0 37) v1) 26 ((su s 25 (s 0 37) v1) 0 37) v2) 27 ((su (su s 25 (s 0 37) v1) 26 ((su s 25 (s 0 37) v1) 0 37) v2) 0 37) v3) 0 37 (((su (su (su s 25 (s 0 37) v1) 26 ((su s 25 (s 0 37) v1) 0 37) v2) 27 ((su (su s 25 (s 0 37) v1) 26 ((su s 25 (s 0 37) v1) 0 37) v2) 0 37) v3) 0 37) + 1)) 0 37, su (su (su (su s 25 (s 0 37) v1) 26 ((su s 25 (s 0 37) v1) 0 37) v2) 27 ((su (su s 25 (s 0 37) v1) 26 ((su s 25 (s 0 37) v1) 0 37) v2) 0 37) v3) 0 37 (((su (su (su s 25 (s 0 37) v1) 26 ((su s 25 (s 0 37) v1) 0 37) v2) 27 ((su (su s 25 (s 0 37) v1) 26 ((su s 25 (s 0 37) v1) 0 37) v2) 0 37) v3) 0 37) + 1)))))))) else (gd (inb v4 40) (if eq32 (s 25 v4) v1 then (gd (inb v4 40) (if eq32 (s 26 v4) v2 then (m_check_68 N v3 v4  s) else (m_check_46 N k15 v1 v2 v3 v4  s))) else (m_check_46 N k15 v1 v2 v3 v4  s)))
def m_check (N : Nat) (v1 v2 v3 : Int) (s : St) : MM := bd (m_areTwo N v1 v2 s) (fun r3 s3 => if eq32 r3 0 then (some ((-2), s3)) else (itr (m_check_15 N v1 v2 v3) (fun _ _ => none) N 0 s3))
abbrev rm_m_check : Room := { frames := 3, cells := 0, slots := 0, locals := 65 }
theorem s_m_check_68 {X : CxT} {l : Launch} {G : GG} (C : Cx X l (mW G) 5 prog_14_method_56_code "OneSelfModel" (wo y_M_check prog_14_method_56_code 5 (some .int)) (some .int) rm_m_check) {o : Int × St} {N : Nat} {v3 v4 : Int} {s : St} (hf : m_check_68 N v3 v4 s = some o) : Rj X (mW G) 5 (qI X (mW G) o) 68 [(0, .ref ((mW G).h 0)), (3, vI v3), (4, vI v4)] [] s := by
  unfold m_check_68 at hf
  refine r_aload_n C (q := 69) 0 d_M_check_68 rfl rfl rfl ?_
  refine gxm_M_checkOne C (q := 72) fl_M_96 d_M_check_69 rfl ?_
  refine r_iload C (q := 74) 2 d_M_check_72 rfl rfl ?_
  refine r_iload_n C (q := 75) 1 d_M_check_74 rfl rfl rfl ?_
  obtain ⟨g75, hf⟩ := gd_s hf
  obtain ⟨b75, hf⟩ := gd_s hf
  refine r_zast C (q := 76) 27 (Nat.le_of_ble_eq_true rfl) (fun _ => rfl) 2 rfl g75 b75 (by decide) d_M_check_75 rfl ?_
  refine r_aload_n C (q := 77) 0 d_M_check_76 rfl rfl rfl ?_
  refine gxm_M_checks C (q := 80) fl_M_265 d_M_check_77 rfl ?_
  exact r_ireturn C hf d_M_check_80
theorem s_m_check_81 {X : CxT} {l : Launch} {G : GG} (C : Cx X l (mW G) 5 prog_14_method_56_code "OneSelfModel" (wo y_M_check prog_14_method_56_code 5 (some .int)) (some .int) rm_m_check) {o : Int × St} {N : Nat} {v1 v2 v3 v4 : Int} {k15 : Int → St → MM} (hk15 : ∀ (u4 : Int) (s : St), k15 u4 s = some o → Rj X (mW G) 5 (qI X (mW G) o) 15 [(0, .ref ((mW G).h 0)), (1, vI v1), (2, vI v2), (3, vI v3), (4, vI u4)] [] s) {s : St} (hf : m_check_81 N k15 v1 v2 v3 v4 s = some o) : Rj X (mW G) 5 (qI X (mW G) o) 81 [(0, .ref ((mW G).h 0)), (1, vI v1), (2, vI v2), (3, vI v3), (4, vI v4)] [] s := by
  unfold m_check_81 at hf
  refine r_iinc C (q := 84) (lv' := [(4, vI (v4 + 1)), (0, .ref ((mW G).h 0)), (1, vI v1), (2, vI v2), (3, vI v3)]) 4 d_M_check_81 rfl (by decide) rfl rfl ?_
  refine r_goto C (q := 15) d_M_check_84 (by decide) ?_
  exact r_sub [1, 2, 3, 4, 0] rfl (hk15 _ _  hf)
theorem s_m_check_46 {X : CxT} {l : Launch} {G : GG} (C : Cx X l (mW G) 5 prog_14_method_56_code "OneSelfModel" (wo y_M_check prog_14_method_56_code 5 (some .int)) (some .int) rm_m_check) {o : Int × St} {N : Nat} {v1 v2 v3 v4 : Int} {k15 : Int → St → MM} (hk15 : ∀ (u4 : Int) (s : St), k15 u4 s = some o → Rj X (mW G) 5 (qI X (mW G) o) 15 [(0, .ref ((mW G).h 0)), (1, vI v1), (2, vI v2), (3, vI v3), (4, vI u4)] [] s) {s : St} (hf : m_check_46 N k15 v1 v2 v3 v4 s = some o) : Rj X (mW G) 5 (qI X (mW G) o) 46 [(0, .ref ((mW G).h 0)), (1, vI v1), (2, vI v2), (3, vI v3), (4, vI v4)] [] s := by
  unfold m_check_46 at hf
  refine r_aload_n C (q := 47) 0 d_M_check_46 rfl rfl rfl ?_
  refine gxm_M_checkA C (q := 50) fl_M_90 d_M_check_47 rfl ?_
  refine r_iload C (q := 52) 4 d_M_check_50 rfl rfl ?_
  obtain ⟨g52, hf⟩ := gd_s hf
  refine r_iald C (q := 53) 25 (Nat.le_of_ble_eq_true rfl) (fun _ => rfl) 0 rfl g52 (by decide) d_M_check_52 rfl ?_
  refine r_iload_n C (q := 54) 2 d_M_check_53 rfl rfl rfl ?_
  refine r_ic_ne C (t := 81) (q := 57) d_M_check_54 (by decide) rfl (fun c54 => ?_) (fun c54 => ?_)
  · replace hf := ite_t c54 hf
    refine r_aload_n C (q := 58) 0 d_M_check_57 rfl rfl rfl ?_
    refine gxm_M_checkB C (q := 61) fl_M_93 d_M_check_58 rfl ?_
    refine r_iload C (q := 63) 4 d_M_check_61 rfl rfl ?_
    obtain ⟨g63, hf⟩ := gd_s hf
    refine r_iald C (q := 64) 26 (Nat.le_of_ble_eq_true rfl) (fun _ => rfl) 0 rfl g63 (by decide) d_M_check_63 rfl ?_
    refine r_iload_n C (q := 65) 1 d_M_check_64 rfl rfl rfl ?_
    refine r_ic_ne C (t := 81) (q := 68) d_M_check_65 (by decide) rfl (fun c65 => ?_) (fun c65 => ?_)
    · replace hf := ite_t c65 hf
      exact r_sub [0, 3, 4] rfl (s_m_check_68 C hf)
    · replace hf := ite_f c65 hf
      exact r_sub [0, 1, 2, 3, 4] rfl (s_m_check_81 C hk15 hf)
  · replace hf := ite_f c54 hf
    exact r_sub [0, 1, 2, 3, 4] rfl (s_m_check_81 C hk15 hf)
theorem s_m_check_15 {X : CxT} {l : Launch} {G : GG} (C : Cx X l (mW G) 5 prog_14_method_56_code "OneSelfModel" (wo y_M_check prog_14_method_56_code 5 (some .int)) (some .int) rm_m_check) {o : Int × St} {N : Nat} {v1 v2 v3 v4 : Int} {k15 : Int → St → MM} (hk15 : ∀ (u4 : Int) (s : St), k15 u4 s = some o → Rj X (mW G) 5 (qI X (mW G) o) 15 [(0, .ref ((mW G).h 0)), (1, vI v1), (2, vI v2), (3, vI v3), (4, vI u4)] [] s) {s : St} (hf : m_check_15 N v1 v2 v3 k15 v4 s = some o) : Rj X (mW G) 5 (qI X (mW G) o) 15 [(0, .ref ((mW G).h 0)), (1, vI v1), (2, vI v2), (3, vI v3), (4, vI v4)] [] s := by
  unfold m_check_15 at hf
  refine r_iload C (q := 17) 4 d_M_check_15 rfl rfl ?_
  refine r_aload_n C (q := 18) 0 d_M_check_17 rfl rfl rfl ?_
  refine gxm_M_checks C (q := 21) fl_M_265 d_M_check_18 rfl ?_
  refine r_ic_ge C (t := 87) (q := 24) d_M_check_21 (by decide) rfl (fun c21 => ?_) (fun c21 => ?_)
  · replace hf := ite_t c21 hf
    refine r_aload_n C (q := 88) 0 d_M_check_87 rfl rfl rfl ?_
    refine gxm_M_checks C (q := 91) fl_M_265 d_M_check_88 rfl ?_
    refine r_bipush C (q := 93) (x := 40) d_M_check_91 rfl rfl ?_
    refine r_ic_ne C (t := 99) (q := 96) d_M_check_93 (by decide) rfl (fun c93 => ?_) (fun c93 => ?_)
    · replace hf := ite_t c93 hf
      refine r_bipush C (q := 98) (x := (-4)) d_M_check_96 rfl rfl ?_
      exact r_ireturn C hf d_M_check_98
    · replace hf := ite_f c93 hf
      refine r_aload_n C (q := 100) 0 d_M_check_99 rfl rfl rfl ?_
      refine gxm_M_checkA C (q := 103) fl_M_90 d_M_check_100 rfl ?_
      refine r_aload_n C (q := 104) 0 d_M_check_103 rfl rfl rfl ?_
      refine gxm_M_checks C (q := 107) fl_M_265 d_M_check_104 rfl ?_
      refine r_iload_n C (q := 108) 1 d_M_check_107 rfl rfl rfl ?_
      obtain ⟨g108, hf⟩ := gd_s hf
      refine r_iast C (q := 109) 25 (Nat.le_of_ble_eq_true rfl) (fun _ => rfl) 0 rfl g108 (by decide) d_M_check_108 rfl ?_
      refine r_aload_n C (q := 110) 0 d_M_check_109 rfl rfl rfl ?_
      refine gxm_M_checkB C (q := 113) fl_M_93 d_M_check_110 rfl ?_
      refine r_aload_n C (q := 114) 0 d_M_check_113 rfl rfl rfl ?_
      refine gxm_M_checks C (q := 117) fl_M_265 d_M_check_114 rfl ?_
      refine r_iload_n C (q := 118) 2 d_M_check_117 rfl rfl rfl ?_
      obtain ⟨g118, hf⟩ := gd_s hf
      refine r_iast C (q := 119) 26 (Nat.le_of_ble_eq_true rfl) (fun _ => rfl) 0 rfl g118 (by decide) d_M_check_118 rfl ?_
      refine r_aload_n C (q := 120) 0 d_M_check_119 rfl rfl rfl ?_
      refine gxm_M_checkOne C (q := 123) fl_M_96 d_M_check_120 rfl ?_
      refine r_aload_n C (q := 124) 0 d_M_check_123 rfl rfl rfl ?_
      refine gxm_M_checks C (q := 127) fl_M_265 d_M_check_124 rfl ?_
      refine r_iload_n C (q := 128) 3 d_M_check_127 rfl rfl rfl ?_
      obtain ⟨g128, hf⟩ := gd_s hf
      obtain ⟨b128, hf⟩ := gd_s hf
      refine r_zast C (q := 129) 27 (Nat.le_of_ble_eq_true rfl) (fun _ => rfl) 2 rfl g128 b128 (by decide) d_M_check_128 rfl ?_
      refine r_aload_n C (q := 130) 0 d_M_check_129 rfl rfl rfl ?_
      refine r_dup C (q := 131) d_M_check_130 rfl rfl ?_
      refine gxm_M_checks C (q := 134) fl_M_265 d_M_check_131 rfl ?_
      refine r_iconst C (q := 135) d_M_check_134 rfl ?_
      refine r_iadd C (q := 136) d_M_check_135 rfl ?_
      refine pxm_M_checks C (q := 139) fl_M_265 d_M_check_136 rfl ?_
      refine r_aload_n C (q := 140) 0 d_M_check_139 rfl rfl rfl ?_
      refine gxm_M_checks C (q := 143) fl_M_265 d_M_check_140 rfl ?_
      exact r_ireturn C hf d_M_check_143
  · replace hf := ite_f c21 hf
    refine r_aload_n C (q := 25) 0 d_M_check_24 rfl rfl rfl ?_
    refine gxm_M_checkA C (q := 28) fl_M_90 d_M_check_25 rfl ?_
    refine r_iload C (q := 30) 4 d_M_check_28 rfl rfl ?_
    obtain ⟨g30, hf⟩ := gd_s hf
    refine r_iald C (q := 31) 25 (Nat.le_of_ble_eq_true rfl) (fun _ => rfl) 0 rfl g30 (by decide) d_M_check_30 rfl ?_
    refine r_iload_n C (q := 32) 1 d_M_check_31 rfl rfl rfl ?_
    refine r_ic_ne C (t := 46) (q := 35) d_M_check_32 (by decide) rfl (fun c32 => ?_) (fun c32 => ?_)
    · replace hf := ite_t c32 hf
      refine r_aload_n C (q := 36) 0 d_M_check_35 rfl rfl rfl ?_
      refine gxm_M_checkB C (q := 39) fl_M_93 d_M_check_36 rfl ?_
      refine r_iload C (q := 41) 4 d_M_check_39 rfl rfl ?_
      obtain ⟨g41, hf⟩ := gd_s hf
      refine r_iald C (q := 42) 26 (Nat.le_of_ble_eq_true rfl) (fun _ => rfl) 0 rfl g41 (by decide) d_M_check_41 rfl ?_
      refine r_iload_n C (q := 43) 2 d_M_check_42 rfl rfl rfl ?_
      refine r_ic_eq C (t := 68) (q := 46) d_M_check_43 (by decide) rfl (fun c43 => ?_) (fun c43 => ?_)
      · replace hf := ite_t c43 hf
        exact r_sub [0, 3, 4] rfl (s_m_check_68 C hf)
      · replace hf := ite_f c43 hf
        exact r_sub [0, 1, 2, 3, 4] rfl (s_m_check_46 C hk15 hf)
    · replace hf := ite_f c32 hf
      exact r_sub [0, 1, 2, 3, 4] rfl (s_m_check_46 C hk15 hf)
theorem c_m_check {l : Launch} {G : GG} (hi : wo_i (mW G)) {N : Nat} {v1 v2 v3 : Int} {s : St} {o : Int × St} (hf : m_check N v1 v2 v3 s = some o) : CtI l (mW G) y_M_check (wo y_M_check prog_14_method_56_code 5 (some .int)) rm_m_check [.ref ((mW G).h 0), vI v1, vI v2, vI v3] s o := by
  refine ct_I (by decide +kernel) hi (Nat.le_of_ble_eq_true rfl) fun X C => ?_
  unfold m_check at hf
  show Rj X (mW G) 5 (qI X (mW G) o) 0 [(0, .ref ((mW G).h 0)), (1, vI v1), (2, vI v2), (3, vI v3)] [] s
  refine r_aload_n C (q := 1) 0 d_M_check_0 rfl rfl rfl ?_
  refine r_iload_n C (q := 2) 1 d_M_check_1 rfl rfl rfl ?_
  refine r_iload_n C (q := 3) 2 d_M_check_2 rfl rfl rfl ?_
  obtain ⟨r3, s3, hg3, hf⟩ := bd_s hf
  refine r_cVI C (q := 6) (As := [vI v1, vI v2]) (k0 := 0) (c_m_areTwo C.i hg3) mt_M_areTwo ml_M_194 (Nat.le_of_ble_eq_true rfl) rfl rfl rfl rfl rfl rfl ⟨Nat.le_of_ble_eq_true rfl, Nat.le_of_ble_eq_true rfl⟩ rfl (Nat.le_of_ble_eq_true rfl) d_M_check_3 rfl ?_
  refine r_if_ne C (t := 12) (q := 9) d_M_check_6 (by decide) rfl (fun c6 => ?_) (fun c6 => ?_)
  · replace hf := ite_t c6 hf
    refine r_bipush C (q := 11) (x := (-2)) d_M_check_9 rfl rfl ?_
    exact r_ireturn C hf d_M_check_11
  · replace hf := ite_f c6 hf
    refine r_iconst C (q := 13) d_M_check_12 rfl ?_
    refine r_istore C (q := 15) (lv' := [(4, vI 0), (0, .ref ((mW G).h 0)), (1, vI v1), (2, vI v2), (3, vI v3)]) d_M_check_13 (by decide) rfl rfl ?_
    have hL : ∀ (u4 : Int) (z : St), itr (m_check_15 N v1 v2 v3) (fun _ _ => none) N u4 z = some o → Rj X (mW G) 5 (qI X (mW G) o) 15 [(0, .ref ((mW G).h 0)), (1, vI v1), (2, vI v2), (3, vI v3), (4, vI u4)] [] z := itr_ind (m_check_15 N v1 v2 v3) (fun _ _ => none) (fun k => ∀ (u4 : Int) (z : St), k u4 z = some o → Rj X (mW G) 5 (qI X (mW G) o) 15 [(0, .ref ((mW G).h 0)), (1, vI v1), (2, vI v2), (3, vI v3), (4, vI u4)] [] z) (fun _ _  h => by cases h) (fun k hk u4 z h => s_m_check_15 C hk h) N
    exact r_sub [1, 2, 3, 4, 0] rfl (hL _ _  hf)
def m_isCheckedLink (N : Nat) (v1 : Int) (s : St) : MM := gd (inb v1 40) (gd (inb v1 40) (bd (m_isKnown N (s 25 v1) s) (fun r16 s16 => if eq32 r16 0 then (some (0, s16)) else (bd (m_isKnown N (s 26 v1) s16) (fun r24 s24 => if eq32 r24 0 then (some (0, s24)) else (bd (m_scoreOf N (s 25 v1) (s 26 v1) s24) (fun r33 s33 => if lt32 r33 (s33 0 24) then (some (0, s33)) else (some (1, s33)))))))))
abbrev rm_m_isCheckedLink : Room := { frames := 8, cells := 0, slots := 0, locals := 193 }
theorem c_m_isCheckedLink {l : Launch} {G : GG} (hi : wo_i (mW G)) {N : Nat} {v1 : Int} {s : St} {o : Int × St} (hf : m_isCheckedLink N v1 s = some o) : CtI l (mW G) y_M_isCheckedLink (wo y_M_isCheckedLink prog_14_method_57_code 4 (some .boolean)) rm_m_isCheckedLink [.ref ((mW G).h 0), vI v1] s o := by
  refine ct_I (by decide +kernel) hi (Nat.le_of_ble_eq_true rfl) fun X C => ?_
  unfold m_isCheckedLink at hf
  show Rj X (mW G) 4 (qI X (mW G) o) 0 [(0, .ref ((mW G).h 0)), (1, vI v1)] [] s
  refine r_aload_n C (q := 1) 0 d_M_isCheckedLink_0 rfl rfl rfl ?_
  refine gxm_M_checkA C (q := 4) fl_M_90 d_M_isCheckedLink_1 rfl ?_
  refine r_iload_n C (q := 5) 1 d_M_isCheckedLink_4 rfl rfl rfl ?_
  obtain ⟨g5, hf⟩ := gd_s hf
  refine r_iald C (q := 6) 25 (Nat.le_of_ble_eq_true rfl) (fun _ => rfl) 0 rfl g5 (by decide) d_M_isCheckedLink_5 rfl ?_
  refine r_istore_n C (q := 7) (lv' := [(2, vI (s 25 v1)), (0, .ref ((mW G).h 0)), (1, vI v1)]) d_M_isCheckedLink_6 rfl (by decide) rfl rfl ?_
  refine r_aload_n C (q := 8) 1 d_M_isCheckedLink_7 rfl rfl rfl ?_
  refine gxm_M_checkB C (q := 11) fl_M_93 d_M_isCheckedLink_8 rfl ?_
  refine r_iload_n C (q := 12) 2 d_M_isCheckedLink_11 rfl rfl rfl ?_
  obtain ⟨g12, hf⟩ := gd_s hf
  refine r_iald C (q := 13) 26 (Nat.le_of_ble_eq_true rfl) (fun _ => rfl) 0 rfl g12 (by decide) d_M_isCheckedLink_12 rfl ?_
  refine r_istore_n C (q := 14) (lv' := [(3, vI (s 26 v1)), (2, vI (s 25 v1)), (0, .ref ((mW G).h 0)), (1, vI v1)]) d_M_isCheckedLink_13 rfl (by decide) rfl rfl ?_
  refine r_aload_n C (q := 15) 2 d_M_isCheckedLink_14 rfl rfl rfl ?_
  refine r_iload_n C (q := 16) 1 d_M_isCheckedLink_15 rfl rfl rfl ?_
  obtain ⟨r16, s16, hg16, hf⟩ := bd_s hf
  refine r_cVI C (q := 19) (As := [vI (s 25 v1)]) (k0 := 0) (c_m_isKnown C.i hg16) mt_M_isKnown ml_M_151 (Nat.le_of_ble_eq_true rfl) rfl rfl rfl rfl rfl rfl ⟨Nat.le_of_ble_eq_true rfl, Nat.le_of_ble_eq_true rfl⟩ rfl (Nat.le_of_ble_eq_true rfl) d_M_isCheckedLink_16 rfl ?_
  refine r_if_eq C (t := 47) (q := 22) d_M_isCheckedLink_19 (by decide) rfl (fun c19 => ?_) (fun c19 => ?_)
  · replace hf := ite_t c19 hf
    refine r_iconst C (q := 48) d_M_isCheckedLink_47 rfl ?_
    exact r_zreturn C (by decide) hf d_M_isCheckedLink_48
  · replace hf := ite_f c19 hf
    refine r_aload_n C (q := 23) 2 d_M_isCheckedLink_22 rfl rfl rfl ?_
    refine r_iload_n C (q := 24) 0 d_M_isCheckedLink_23 rfl rfl rfl ?_
    obtain ⟨r24, s24, hg24, hf⟩ := bd_s hf
    refine r_cVI C (q := 27) (As := [vI (s 26 v1)]) (k0 := 0) (c_m_isKnown C.i hg24) mt_M_isKnown ml_M_151 (Nat.le_of_ble_eq_true rfl) rfl rfl rfl rfl rfl rfl ⟨Nat.le_of_ble_eq_true rfl, Nat.le_of_ble_eq_true rfl⟩ rfl (Nat.le_of_ble_eq_true rfl) d_M_isCheckedLink_24 rfl ?_
    refine r_if_eq C (t := 47) (q := 30) d_M_isCheckedLink_27 (by decide) rfl (fun c27 => ?_) (fun c27 => ?_)
    · replace hf := ite_t c27 hf
      refine r_iconst C (q := 48) d_M_isCheckedLink_47 rfl ?_
      exact r_zreturn C (by decide) hf d_M_isCheckedLink_48
    · replace hf := ite_f c27 hf
      refine r_aload_n C (q := 31) 2 d_M_isCheckedLink_30 rfl rfl rfl ?_
      refine r_iload_n C (q := 32) 1 d_M_isCheckedLink_31 rfl rfl rfl ?_
      refine r_iload_n C (q := 33) 0 d_M_isCheckedLink_32 rfl rfl rfl ?_
      obtain ⟨r33, s33, hg33, hf⟩ := bd_s hf
      refine r_cVI C (q := 36) (As := [vI (s 25 v1), vI (s 26 v1)]) (k0 := 0) (c_m_scoreOf C.i hg33) mt_M_scoreOf ml_M_201 (Nat.le_of_ble_eq_true rfl) rfl rfl rfl rfl rfl rfl ⟨Nat.le_of_ble_eq_true rfl, Nat.le_of_ble_eq_true rfl⟩ rfl (Nat.le_of_ble_eq_true rfl) d_M_isCheckedLink_33 rfl ?_
      refine r_aload_n C (q := 37) 2 d_M_isCheckedLink_36 rfl rfl rfl ?_
      refine gxm_M_lineNow C (q := 40) fl_M_62 d_M_isCheckedLink_37 rfl ?_
      refine r_ic_lt C (t := 47) (q := 43) d_M_isCheckedLink_40 (by decide) rfl (fun c40 => ?_) (fun c40 => ?_)
      · replace hf := ite_t c40 hf
        refine r_iconst C (q := 48) d_M_isCheckedLink_47 rfl ?_
        exact r_zreturn C (by decide) hf d_M_isCheckedLink_48
      · replace hf := ite_f c40 hf
        refine r_iconst C (q := 44) d_M_isCheckedLink_43 rfl ?_
        refine r_goto C (q := 48) d_M_isCheckedLink_44 (by decide) ?_
        exact r_zreturn C (by decide) hf d_M_isCheckedLink_48
def m_checkedOf_63 (N : Nat) (k4 : Int → Int → St → MM) (v1 v3 t0 t1 : Int) (s : St) : MM := k4 (t1 + t0) (v3 + 1) s
def m_checkedOf_58 (N : Nat) (k4 : Int → Int → St → MM) (v1 v3 t0 : Int) (s : St) : MM := m_checkedOf_63 N k4 v1 v3 1 t0 s
def m_checkedOf_62 (N : Nat) (k4 : Int → Int → St → MM) (v1 v3 t0 : Int) (s : St) : MM := m_checkedOf_63 N k4 v1 v3 0 t0 s
def m_checkedOf_31 (N : Nat) (k4 : Int → Int → St → MM) (v1 v3 t0 : Int) (s : St) : MM := if le32 v1 1 then (m_checkedOf_62 N k4 v1 v3 t0 s) else (bd (m_isCheckedLink N v3 s) (fun r38 s38 => if eq32 r38 0 then (m_checkedOf_62 N k4 v1 v3 t0 s38) else (if eq32 v1 2 then (m_checkedOf_58 N k4 v1 v3 t0 s38) else (gd (inb v3 40) (if eq32 (s38 27 v3) 0 then (m_checkedOf_58 N k4 v1 v3 t0 s38) else (m_checkedOf_62 N k4 v1 v3 t0 s38))))))
def m_checkedOf_4 (N : Nat) (v1 : Int) (k4 : Int → Int → St → MM) (v2 v3 : Int) (s : St) : MM := if le32 (s 0 37) v3 then (some (v2, s)) else (if eq32 v1 0 then (m_checkedOf_58 N k4 v1 v3 v2 s) else (if eq32 v1 1 then (gd (inb v3 40) (if eq32 (s 27 v3) 0 then (m_checkedOf_31 N k4 v1 v3 v2 s) else (m_checkedOf_58 N k4 v1 v3 v2 s))) else (m_checkedOf_31 N k4 v1 v3 v2 s)))
def m_checkedOf (N : Nat) (v1 : Int) (s : St) : MM := itr (m_checkedOf_4 N v1) (fun _ _ _ => none) N 0 0 s
abbrev rm_m_checkedOf : Room := { frames := 9, cells := 0, slots := 0, locals := 216 }
theorem s_m_checkedOf_63 {X : CxT} {l : Launch} {G : GG} (C : Cx X l (mW G) 4 prog_14_method_58_code "OneSelfModel" (wo y_M_checkedOf prog_14_method_58_code 4 (some .int)) (some .int) rm_m_checkedOf) {o : Int × St} {N : Nat} {v1 v3 t0 t1 : Int} {k4 : Int → Int → St → MM} (hk4 : ∀ (u2 u3 : Int) (s : St), k4 u2 u3 s = some o → Rj X (mW G) 4 (qI X (mW G) o) 4 [(0, .ref ((mW G).h 0)), (1, vI v1), (2, vI u2), (3, vI u3)] [] s) {s : St} (hf : m_checkedOf_63 N k4 v1 v3 t0 t1 s = some o) : Rj X (mW G) 4 (qI X (mW G) o) 63 [(0, .ref ((mW G).h 0)), (1, vI v1), (3, vI v3)] [vI t0, vI t1] s := by
  unfold m_checkedOf_63 at hf
  refine r_iadd C (q := 64) d_M_checkedOf_63 rfl ?_
  refine r_istore_n C (q := 65) (lv' := [(2, vI (t1 + t0)), (0, .ref ((mW G).h 0)), (1, vI v1), (3, vI v3)]) d_M_checkedOf_64 rfl (by decide) rfl rfl ?_
  refine r_iinc C (q := 68) (lv' := [(3, vI (v3 + 1)), (2, vI (t1 + t0)), (0, .ref ((mW G).h 0)), (1, vI v1)]) 3 d_M_checkedOf_65 rfl (by decide) rfl rfl ?_
  refine r_goto C (q := 4) d_M_checkedOf_68 (by decide) ?_
  exact r_sub [2, 3, 1, 0] rfl (hk4 _ _ _  hf)
theorem s_m_checkedOf_58 {X : CxT} {l : Launch} {G : GG} (C : Cx X l (mW G) 4 prog_14_method_58_code "OneSelfModel" (wo y_M_checkedOf prog_14_method_58_code 4 (some .int)) (some .int) rm_m_checkedOf) {o : Int × St} {N : Nat} {v1 v3 t0 : Int} {k4 : Int → Int → St → MM} (hk4 : ∀ (u2 u3 : Int) (s : St), k4 u2 u3 s = some o → Rj X (mW G) 4 (qI X (mW G) o) 4 [(0, .ref ((mW G).h 0)), (1, vI v1), (2, vI u2), (3, vI u3)] [] s) {s : St} (hf : m_checkedOf_58 N k4 v1 v3 t0 s = some o) : Rj X (mW G) 4 (qI X (mW G) o) 58 [(0, .ref ((mW G).h 0)), (1, vI v1), (3, vI v3)] [vI t0] s := by
  unfold m_checkedOf_58 at hf
  refine r_iconst C (q := 59) d_M_checkedOf_58 rfl ?_
  refine r_goto C (q := 63) d_M_checkedOf_59 (by decide) ?_
  exact r_sub [0, 1, 2] rfl (s_m_checkedOf_63 C hk4 hf)
theorem s_m_checkedOf_62 {X : CxT} {l : Launch} {G : GG} (C : Cx X l (mW G) 4 prog_14_method_58_code "OneSelfModel" (wo y_M_checkedOf prog_14_method_58_code 4 (some .int)) (some .int) rm_m_checkedOf) {o : Int × St} {N : Nat} {v1 v3 t0 : Int} {k4 : Int → Int → St → MM} (hk4 : ∀ (u2 u3 : Int) (s : St), k4 u2 u3 s = some o → Rj X (mW G) 4 (qI X (mW G) o) 4 [(0, .ref ((mW G).h 0)), (1, vI v1), (2, vI u2), (3, vI u3)] [] s) {s : St} (hf : m_checkedOf_62 N k4 v1 v3 t0 s = some o) : Rj X (mW G) 4 (qI X (mW G) o) 62 [(0, .ref ((mW G).h 0)), (1, vI v1), (3, vI v3)] [vI t0] s := by
  unfold m_checkedOf_62 at hf
  refine r_iconst C (q := 63) d_M_checkedOf_62 rfl ?_
  exact r_sub [0, 1, 2] rfl (s_m_checkedOf_63 C hk4 hf)
theorem s_m_checkedOf_31 {X : CxT} {l : Launch} {G : GG} (C : Cx X l (mW G) 4 prog_14_method_58_code "OneSelfModel" (wo y_M_checkedOf prog_14_method_58_code 4 (some .int)) (some .int) rm_m_checkedOf) {o : Int × St} {N : Nat} {v1 v3 t0 : Int} {k4 : Int → Int → St → MM} (hk4 : ∀ (u2 u3 : Int) (s : St), k4 u2 u3 s = some o → Rj X (mW G) 4 (qI X (mW G) o) 4 [(0, .ref ((mW G).h 0)), (1, vI v1), (2, vI u2), (3, vI u3)] [] s) {s : St} (hf : m_checkedOf_31 N k4 v1 v3 t0 s = some o) : Rj X (mW G) 4 (qI X (mW G) o) 31 [(0, .ref ((mW G).h 0)), (1, vI v1), (3, vI v3)] [vI t0] s := by
  unfold m_checkedOf_31 at hf
  refine r_iload_n C (q := 32) 1 d_M_checkedOf_31 rfl rfl rfl ?_
  refine r_iconst C (q := 33) d_M_checkedOf_32 rfl ?_
  refine r_ic_le C (t := 62) (q := 36) d_M_checkedOf_33 (by decide) rfl (fun c33 => ?_) (fun c33 => ?_)
  · replace hf := ite_t c33 hf
    exact r_sub [0, 1, 2] rfl (s_m_checkedOf_62 C hk4 hf)
  · replace hf := ite_f c33 hf
    refine r_aload_n C (q := 37) 0 d_M_checkedOf_36 rfl rfl rfl ?_
    refine r_iload_n C (q := 38) 2 d_M_checkedOf_37 rfl rfl rfl ?_
    obtain ⟨r38, s38, hg38, hf⟩ := bd_s hf
    refine r_cVI C (q := 41) (As := [vI v3]) (k0 := 0) (c_m_isCheckedLink C.i hg38) mt_M_isCheckedLink ml_M_268 (Nat.le_of_ble_eq_true rfl) rfl rfl rfl rfl rfl rfl ⟨Nat.le_of_ble_eq_true rfl, Nat.le_of_ble_eq_true rfl⟩ rfl (Nat.le_of_ble_eq_true rfl) d_M_checkedOf_38 rfl ?_
    refine r_if_eq C (t := 62) (q := 44) d_M_checkedOf_41 (by decide) rfl (fun c41 => ?_) (fun c41 => ?_)
    · replace hf := ite_t c41 hf
      exact r_sub [0, 1, 2] rfl (s_m_checkedOf_62 C hk4 hf)
    · replace hf := ite_f c41 hf
      refine r_iload_n C (q := 45) 1 d_M_checkedOf_44 rfl rfl rfl ?_
      refine r_iconst C (q := 46) d_M_checkedOf_45 rfl ?_
      refine r_ic_eq C (t := 58) (q := 49) d_M_checkedOf_46 (by decide) rfl (fun c46 => ?_) (fun c46 => ?_)
      · replace hf := ite_t c46 hf
        exact r_sub [0, 1, 2] rfl (s_m_checkedOf_58 C hk4 hf)
      · replace hf := ite_f c46 hf
        refine r_aload_n C (q := 50) 0 d_M_checkedOf_49 rfl rfl rfl ?_
        refine gxm_M_checkOne C (q := 53) fl_M_96 d_M_checkedOf_50 rfl ?_
        refine r_iload_n C (q := 54) 2 d_M_checkedOf_53 rfl rfl rfl ?_
        obtain ⟨g54, hf⟩ := gd_s hf
        refine r_zald C (q := 55) 27 (Nat.le_of_ble_eq_true rfl) (fun _ => rfl) 2 rfl g54 (by decide) d_M_checkedOf_54 rfl ?_
        refine r_if_ne C (t := 62) (q := 58) d_M_checkedOf_55 (by decide) rfl (fun c55 => ?_) (fun c55 => ?_)
        · replace hf := ite_t c55 hf
          exact r_sub [0, 1, 2] rfl (s_m_checkedOf_58 C hk4 hf)
        · replace hf := ite_f c55 hf
          exact r_sub [0, 1, 2] rfl (s_m_checkedOf_62 C hk4 hf)
theorem s_m_checkedOf_4 {X : CxT} {l : Launch} {G : GG} (C : Cx X l (mW G) 4 prog_14_method_58_code "OneSelfModel" (wo y_M_checkedOf prog_14_method_58_code 4 (some .int)) (some .int) rm_m_checkedOf) {o : Int × St} {N : Nat} {v1 v2 v3 : Int} {k4 : Int → Int → St → MM} (hk4 : ∀ (u2 u3 : Int) (s : St), k4 u2 u3 s = some o → Rj X (mW G) 4 (qI X (mW G) o) 4 [(0, .ref ((mW G).h 0)), (1, vI v1), (2, vI u2), (3, vI u3)] [] s) {s : St} (hf : m_checkedOf_4 N v1 k4 v2 v3 s = some o) : Rj X (mW G) 4 (qI X (mW G) o) 4 [(0, .ref ((mW G).h 0)), (1, vI v1), (2, vI v2), (3, vI v3)] [] s := by
  unfold m_checkedOf_4 at hf
  refine r_iload_n C (q := 5) 3 d_M_checkedOf_4 rfl rfl rfl ?_
  refine r_aload_n C (q := 6) 0 d_M_checkedOf_5 rfl rfl rfl ?_
  refine gxm_M_checks C (q := 9) fl_M_265 d_M_checkedOf_6 rfl ?_
  refine r_ic_ge C (t := 71) (q := 12) d_M_checkedOf_9 (by decide) rfl (fun c9 => ?_) (fun c9 => ?_)
  · replace hf := ite_t c9 hf
    refine r_iload_n C (q := 72) 2 d_M_checkedOf_71 rfl rfl rfl ?_
    exact r_ireturn C hf d_M_checkedOf_72
  · replace hf := ite_f c9 hf
    refine r_iload_n C (q := 13) 2 d_M_checkedOf_12 rfl rfl rfl ?_
    refine r_iload_n C (q := 14) 1 d_M_checkedOf_13 rfl rfl rfl ?_
    refine r_if_eq C (t := 58) (q := 17) d_M_checkedOf_14 (by decide) rfl (fun c14 => ?_) (fun c14 => ?_)
    · replace hf := ite_t c14 hf
      exact r_sub [0, 1, 3] rfl (s_m_checkedOf_58 C hk4 hf)
    · replace hf := ite_f c14 hf
      refine r_iload_n C (q := 18) 1 d_M_checkedOf_17 rfl rfl rfl ?_
      refine r_iconst C (q := 19) d_M_checkedOf_18 rfl ?_
      refine r_ic_ne C (t := 31) (q := 22) d_M_checkedOf_19 (by decide) rfl (fun c19 => ?_) (fun c19 => ?_)
      · replace hf := ite_t c19 hf
        refine r_aload_n C (q := 23) 0 d_M_checkedOf_22 rfl rfl rfl ?_
        refine gxm_M_checkOne C (q := 26) fl_M_96 d_M_checkedOf_23 rfl ?_
        refine r_iload_n C (q := 27) 3 d_M_checkedOf_26 rfl rfl rfl ?_
        obtain ⟨g27, hf⟩ := gd_s hf
        refine r_zald C (q := 28) 27 (Nat.le_of_ble_eq_true rfl) (fun _ => rfl) 2 rfl g27 (by decide) d_M_checkedOf_27 rfl ?_
        refine r_if_ne C (t := 58) (q := 31) d_M_checkedOf_28 (by decide) rfl (fun c28 => ?_) (fun c28 => ?_)
        · replace hf := ite_t c28 hf
          exact r_sub [0, 1, 3] rfl (s_m_checkedOf_31 C hk4 hf)
        · replace hf := ite_f c28 hf
          exact r_sub [0, 1, 3] rfl (s_m_checkedOf_58 C hk4 hf)
      · replace hf := ite_f c19 hf
        exact r_sub [0, 1, 3] rfl (s_m_checkedOf_31 C hk4 hf)
theorem c_m_checkedOf {l : Launch} {G : GG} (hi : wo_i (mW G)) {N : Nat} {v1 : Int} {s : St} {o : Int × St} (hf : m_checkedOf N v1 s = some o) : CtI l (mW G) y_M_checkedOf (wo y_M_checkedOf prog_14_method_58_code 4 (some .int)) rm_m_checkedOf [.ref ((mW G).h 0), vI v1] s o := by
  refine ct_I (by decide +kernel) hi (Nat.le_of_ble_eq_true rfl) fun X C => ?_
  unfold m_checkedOf at hf
  show Rj X (mW G) 4 (qI X (mW G) o) 0 [(0, .ref ((mW G).h 0)), (1, vI v1)] [] s
  refine r_iconst C (q := 1) d_M_checkedOf_0 rfl ?_
  refine r_istore_n C (q := 2) (lv' := [(2, vI 0), (0, .ref ((mW G).h 0)), (1, vI v1)]) d_M_checkedOf_1 rfl (by decide) rfl rfl ?_
  refine r_iconst C (q := 3) d_M_checkedOf_2 rfl ?_
  refine r_istore_n C (q := 4) (lv' := [(3, vI 0), (2, vI 0), (0, .ref ((mW G).h 0)), (1, vI v1)]) d_M_checkedOf_3 rfl (by decide) rfl rfl ?_
  have hL : ∀ (u2 u3 : Int) (z : St), itr (m_checkedOf_4 N v1) (fun _ _ _ => none) N u2 u3 z = some o → Rj X (mW G) 4 (qI X (mW G) o) 4 [(0, .ref ((mW G).h 0)), (1, vI v1), (2, vI u2), (3, vI u3)] [] z := itr_ind (m_checkedOf_4 N v1) (fun _ _ _ => none) (fun k => ∀ (u2 u3 : Int) (z : St), k u2 u3 z = some o → Rj X (mW G) 4 (qI X (mW G) o) 4 [(0, .ref ((mW G).h 0)), (1, vI v1), (2, vI u2), (3, vI u3)] [] z) (fun _ _ _  h => by cases h) (fun k hk u2 u3 z h => s_m_checkedOf_4 C hk h) N
  exact r_sub [2, 3, 1, 0] rfl (hL _ _ _  hf)
def m_checked (N : Nat) (v1 : Int) (s : St) : MM := bd (m_in N v1 0 3 s) (fun r3 s3 => if eq32 r3 0 then (some ((-2), s3)) else (bd (m_checkedOf N v1 s3) (fun r11 s11 => some (r11, s11))))
abbrev rm_m_checked : Room := { frames := 10, cells := 0, slots := 0, locals := 239 }
theorem c_m_checked {l : Launch} {G : GG} (hi : wo_i (mW G)) {N : Nat} {v1 : Int} {s : St} {o : Int × St} (hf : m_checked N v1 s = some o) : CtI l (mW G) y_M_checked (wo y_M_checked prog_14_method_59_code 2 (some .int)) rm_m_checked [.ref ((mW G).h 0), vI v1] s o := by
  refine ct_I (by decide +kernel) hi (Nat.le_of_ble_eq_true rfl) fun X C => ?_
  unfold m_checked at hf
  show Rj X (mW G) 2 (qI X (mW G) o) 0 [(0, .ref ((mW G).h 0)), (1, vI v1)] [] s
  refine r_iload_n C (q := 1) 1 d_M_checked_0 rfl rfl rfl ?_
  refine r_iconst C (q := 2) d_M_checked_1 rfl ?_
  refine r_iconst C (q := 3) d_M_checked_2 rfl ?_
  obtain ⟨r3, s3, hg3, hf⟩ := bd_s hf
  refine r_cSI C (q := 6) (As := [vI v1, vI 0, vI 3]) (c_m_in C.i hg3) mt_M_in ml_M_133 rfl rfl rfl ⟨Nat.le_of_ble_eq_true rfl, Nat.le_of_ble_eq_true rfl⟩ rfl (Nat.le_of_ble_eq_true rfl) d_M_checked_3 rfl ?_
  refine r_if_eq C (t := 17) (q := 9) d_M_checked_6 (by decide) rfl (fun c6 => ?_) (fun c6 => ?_)
  · replace hf := ite_t c6 hf
    refine r_bipush C (q := 19) (x := (-2)) d_M_checked_17 rfl rfl ?_
    exact r_ireturn C hf d_M_checked_19
  · replace hf := ite_f c6 hf
    refine r_aload_n C (q := 10) 0 d_M_checked_9 rfl rfl rfl ?_
    refine r_iload_n C (q := 11) 1 d_M_checked_10 rfl rfl rfl ?_
    obtain ⟨r11, s11, hg11, hf⟩ := bd_s hf
    refine r_cVI C (q := 14) (As := [vI v1]) (k0 := 0) (c_m_checkedOf C.i hg11) mt_M_checkedOf ml_M_271 (Nat.le_of_ble_eq_true rfl) rfl rfl rfl rfl rfl rfl ⟨Nat.le_of_ble_eq_true rfl, Nat.le_of_ble_eq_true rfl⟩ rfl (Nat.le_of_ble_eq_true rfl) d_M_checked_11 rfl ?_
    refine r_goto C (q := 19) d_M_checked_14 (by decide) ?_
    exact r_ireturn C hf d_M_checked_19
def j_M_waysOf_33 (N : Nat) (k0 : Nat) (n0 : Nat) (k24 : Int → St → MM) (v1 v2 : Int) (k33 : Int → St → MM) (v3 : Int) (s : St) : MM := if le32 v3 0 then (k24 (v2 + 1) s) else (gd (inb v3 (n0 : Int)) (gd (inb (v3 - 1) (n0 : Int)) (gd (inb v3 (n0 : Int)) (k33 (v3 + (-1)) (su s k0 v3 ((s k0 v3) + (s k0 (v3 - 1))))))))
def j_M_waysOf_24 (N : Nat) (k0 : Nat) (n0 : Nat) (v1 : Int) (k24 : Int → St → MM) (v2 : Int) (s : St) : MM := if le32 v1 v2 then (some (0, s)) else (itr (j_M_waysOf_33 N k0 n0 k24 v1 v2) (fun _ _ => none) N (v2 + 1) s)
def j_M_waysOf_6 (N : Nat) (k0 : Nat) (n0 : Nat) (v1 : Int) (k6 : Int → St → MM) (v2 : Int) (s : St) : MM := if le32 62 v2 then (itr (j_M_waysOf_24 N k0 n0 v1) (fun _ _ => none) N 0 s) else (gd (inb v2 (n0 : Int)) (k6 (v2 + 1) (su s k0 v2 0)))
def j_M_waysOf (N : Nat) (k0 : Nat) (n0 : Nat) (v1 : Int) (s : St) : MM := gd (inb 0 (n0 : Int)) (itr (j_M_waysOf_6 N k0 n0 v1) (fun _ _ => none) N 1 (su s k0 0 1))
abbrev rm_j_M_waysOf : Room := { frames := 0, cells := 0, slots := 0, locals := 0 }
theorem s_j_M_waysOf_33 {X : CxT} {l : Launch} {w : WoT} {k0 n0 : Nat} (hk0 : k0 < w.n) {cA : ClassId} (hc0 : ∀ f, w.c k0 f = .inl (cA, n0, .inr (.inl (fun j : Nat => Int64.ofInt (f j))))) (t0 : Nat) (ht0 : w.tys[t0]? = some (cA, .long)) (hn0 : n0 < 2147483648) (C : Cx X l w 4 prog_14_method_60_code "OneSelfModel" (wo y_M_waysOf prog_14_method_60_code 4 none) none rm_j_M_waysOf) {o : Int × St} {N : Nat} {v1 v2 v3 : Int} {k24 : Int → St → MM} (hk24 : ∀ (u2 : Int) (s : St), k24 u2 s = some o → Rj X w 4 (qV X w o) 24 [(0, .ref (w.h k0)), (1, vI v1), (2, vI u2)] [] s) {k33 : Int → St → MM} (hk33 : ∀ (u3 : Int) (s : St), k33 u3 s = some o → Rj X w 4 (qV X w o) 33 [(0, .ref (w.h k0)), (1, vI v1), (2, vI v2), (3, vI u3)] [] s) {s : St} (hf : j_M_waysOf_33 N k0 n0 k24 v1 v2 k33 v3 s = some o) : Rj X w 4 (qV X w o) 33 [(0, .ref (w.h k0)), (1, vI v1), (2, vI v2), (3, vI v3)] [] s := by
  unfold j_M_waysOf_33 at hf
  refine r_iload_n C (q := 34) 3 d_M_waysOf_33 rfl rfl rfl ?_
  refine r_if_le C (t := 54) (q := 37) d_M_waysOf_34 (by decide) rfl (fun c34 => ?_) (fun c34 => ?_)
  · replace hf := ite_t c34 hf
    refine r_iinc C (q := 57) (lv' := [(2, vI (v2 + 1)), (0, .ref (w.h k0)), (1, vI v1), (3, vI v3)]) 2 d_M_waysOf_54 rfl (by decide) rfl rfl ?_
    refine r_goto C (q := 24) d_M_waysOf_57 (by decide) ?_
    exact r_sub [1, 2, 0] rfl (hk24 _ _  hf)
  · replace hf := ite_f c34 hf
    refine r_aload_n C (q := 38) 0 d_M_waysOf_37 rfl rfl rfl ?_
    refine r_iload_n C (q := 39) 3 d_M_waysOf_38 rfl rfl rfl ?_
    refine r_dup2 C (q := 40) d_M_waysOf_39 rfl rfl rfl ?_
    obtain ⟨g40, hf⟩ := gd_s hf
    refine r_lald C (q := 41) k0 hk0 hc0 t0 ht0 g40 hn0 d_M_waysOf_40 rfl ?_
    refine r_aload_n C (q := 42) 0 d_M_waysOf_41 rfl rfl rfl ?_
    refine r_iload_n C (q := 43) 3 d_M_waysOf_42 rfl rfl rfl ?_
    refine r_iconst C (q := 44) d_M_waysOf_43 rfl ?_
    refine r_isub C (q := 45) d_M_waysOf_44 rfl ?_
    obtain ⟨g45, hf⟩ := gd_s hf
    refine r_lald C (q := 46) k0 hk0 hc0 t0 ht0 g45 hn0 d_M_waysOf_45 rfl ?_
    refine r_ladd C (q := 47) d_M_waysOf_46 rfl ?_
    obtain ⟨g47, hf⟩ := gd_s hf
    refine r_last C (q := 48) k0 hk0 hc0 t0 ht0 g47 hn0 d_M_waysOf_47 rfl ?_
    refine r_iinc C (q := 51) (lv' := [(3, vI (v3 + (-1))), (0, .ref (w.h k0)), (1, vI v1), (2, vI v2)]) 3 d_M_waysOf_48 rfl (by decide) rfl rfl ?_
    refine r_goto C (q := 33) d_M_waysOf_51 (by decide) ?_
    exact r_sub [1, 2, 3, 0] rfl (hk33 _ _  hf)
theorem s_j_M_waysOf_24 {X : CxT} {l : Launch} {w : WoT} {k0 n0 : Nat} (hk0 : k0 < w.n) {cA : ClassId} (hc0 : ∀ f, w.c k0 f = .inl (cA, n0, .inr (.inl (fun j : Nat => Int64.ofInt (f j))))) (t0 : Nat) (ht0 : w.tys[t0]? = some (cA, .long)) (hn0 : n0 < 2147483648) (C : Cx X l w 4 prog_14_method_60_code "OneSelfModel" (wo y_M_waysOf prog_14_method_60_code 4 none) none rm_j_M_waysOf) {o : Int × St} {N : Nat} {v1 v2 : Int} {k24 : Int → St → MM} (hk24 : ∀ (u2 : Int) (s : St), k24 u2 s = some o → Rj X w 4 (qV X w o) 24 [(0, .ref (w.h k0)), (1, vI v1), (2, vI u2)] [] s) {s : St} (hf : j_M_waysOf_24 N k0 n0 v1 k24 v2 s = some o) : Rj X w 4 (qV X w o) 24 [(0, .ref (w.h k0)), (1, vI v1), (2, vI v2)] [] s := by
  unfold j_M_waysOf_24 at hf
  refine r_iload_n C (q := 25) 2 d_M_waysOf_24 rfl rfl rfl ?_
  refine r_iload_n C (q := 26) 1 d_M_waysOf_25 rfl rfl rfl ?_
  refine r_ic_ge C (t := 60) (q := 29) d_M_waysOf_26 (by decide) rfl (fun c26 => ?_) (fun c26 => ?_)
  · replace hf := ite_t c26 hf
    exact r_return C hf d_M_waysOf_60
  · replace hf := ite_f c26 hf
    refine r_iload_n C (q := 30) 2 d_M_waysOf_29 rfl rfl rfl ?_
    refine r_iconst C (q := 31) d_M_waysOf_30 rfl ?_
    refine r_iadd C (q := 32) d_M_waysOf_31 rfl ?_
    refine r_istore_n C (q := 33) (lv' := [(3, vI (v2 + 1)), (0, .ref (w.h k0)), (1, vI v1), (2, vI v2)]) d_M_waysOf_32 rfl (by decide) rfl rfl ?_
    have hL : ∀ (u3 : Int) (z : St), itr (j_M_waysOf_33 N k0 n0 k24 v1 v2) (fun _ _ => none) N u3 z = some o → Rj X w 4 (qV X w o) 33 [(0, .ref (w.h k0)), (1, vI v1), (2, vI v2), (3, vI u3)] [] z := itr_ind (j_M_waysOf_33 N k0 n0 k24 v1 v2) (fun _ _ => none) (fun k => ∀ (u3 : Int) (z : St), k u3 z = some o → Rj X w 4 (qV X w o) 33 [(0, .ref (w.h k0)), (1, vI v1), (2, vI v2), (3, vI u3)] [] z) (fun _ _  h => by cases h) (fun k hk u3 z h => s_j_M_waysOf_33 hk0 hc0 t0 ht0 hn0 C hk24 hk h) N
    exact r_sub [1, 2, 3, 0] rfl (hL _ _  hf)
theorem s_j_M_waysOf_6 {X : CxT} {l : Launch} {w : WoT} {k0 n0 : Nat} (hk0 : k0 < w.n) {cA : ClassId} (hc0 : ∀ f, w.c k0 f = .inl (cA, n0, .inr (.inl (fun j : Nat => Int64.ofInt (f j))))) (t0 : Nat) (ht0 : w.tys[t0]? = some (cA, .long)) (hn0 : n0 < 2147483648) (C : Cx X l w 4 prog_14_method_60_code "OneSelfModel" (wo y_M_waysOf prog_14_method_60_code 4 none) none rm_j_M_waysOf) {o : Int × St} {N : Nat} {v1 v2 : Int} {k6 : Int → St → MM} (hk6 : ∀ (u2 : Int) (s : St), k6 u2 s = some o → Rj X w 4 (qV X w o) 6 [(0, .ref (w.h k0)), (1, vI v1), (2, vI u2)] [] s) {s : St} (hf : j_M_waysOf_6 N k0 n0 v1 k6 v2 s = some o) : Rj X w 4 (qV X w o) 6 [(0, .ref (w.h k0)), (1, vI v1), (2, vI v2)] [] s := by
  unfold j_M_waysOf_6 at hf
  refine r_iload_n C (q := 7) 2 d_M_waysOf_6 rfl rfl rfl ?_
  refine r_bipush C (q := 9) (x := 62) d_M_waysOf_7 rfl rfl ?_
  refine r_ic_ge C (t := 22) (q := 12) d_M_waysOf_9 (by decide) rfl (fun c9 => ?_) (fun c9 => ?_)
  · replace hf := ite_t c9 hf
    refine r_iconst C (q := 23) d_M_waysOf_22 rfl ?_
    refine r_istore_n C (q := 24) (lv' := [(2, vI 0), (0, .ref (w.h k0)), (1, vI v1)]) d_M_waysOf_23 rfl (by decide) rfl rfl ?_
    have hL : ∀ (u2 : Int) (z : St), itr (j_M_waysOf_24 N k0 n0 v1) (fun _ _ => none) N u2 z = some o → Rj X w 4 (qV X w o) 24 [(0, .ref (w.h k0)), (1, vI v1), (2, vI u2)] [] z := itr_ind (j_M_waysOf_24 N k0 n0 v1) (fun _ _ => none) (fun k => ∀ (u2 : Int) (z : St), k u2 z = some o → Rj X w 4 (qV X w o) 24 [(0, .ref (w.h k0)), (1, vI v1), (2, vI u2)] [] z) (fun _ _  h => by cases h) (fun k hk u2 z h => s_j_M_waysOf_24 hk0 hc0 t0 ht0 hn0 C hk h) N
    exact r_sub [1, 2, 0] rfl (hL _ _  hf)
  · replace hf := ite_f c9 hf
    refine r_aload_n C (q := 13) 0 d_M_waysOf_12 rfl rfl rfl ?_
    refine r_iload_n C (q := 14) 2 d_M_waysOf_13 rfl rfl rfl ?_
    refine r_lconst C (q := 15) (x := 0) d_M_waysOf_14 rfl rfl ?_
    obtain ⟨g15, hf⟩ := gd_s hf
    refine r_last C (q := 16) k0 hk0 hc0 t0 ht0 g15 hn0 d_M_waysOf_15 rfl ?_
    refine r_iinc C (q := 19) (lv' := [(2, vI (v2 + 1)), (0, .ref (w.h k0)), (1, vI v1)]) 2 d_M_waysOf_16 rfl (by decide) rfl rfl ?_
    refine r_goto C (q := 6) d_M_waysOf_19 (by decide) ?_
    exact r_sub [1, 2, 0] rfl (hk6 _ _  hf)
theorem c_j_M_waysOf {l : Launch} {w : WoT} {k0 n0 : Nat} (hk0 : k0 < w.n) {cA : ClassId} (hc0 : ∀ f, w.c k0 f = .inl (cA, n0, .inr (.inl (fun j : Nat => Int64.ofInt (f j))))) (t0 : Nat) (ht0 : w.tys[t0]? = some (cA, .long)) (hn0 : n0 < 2147483648) (hi : wo_i w) {N : Nat} {v1 : Int} {s : St} {o : Int × St} (hf : j_M_waysOf N k0 n0 v1 s = some o) : CtV l w y_M_waysOf (wo y_M_waysOf prog_14_method_60_code 4 none) rm_j_M_waysOf [.ref (w.h k0), vI v1] s o := by
  refine ct_V (by decide +kernel) hi (Nat.le_of_ble_eq_true rfl) fun X C => ?_
  unfold j_M_waysOf at hf
  show Rj X w 4 (qV X w o) 0 [(0, .ref (w.h k0)), (1, vI v1)] [] s
  refine r_aload_n C (q := 1) 0 d_M_waysOf_0 rfl rfl rfl ?_
  refine r_iconst C (q := 2) d_M_waysOf_1 rfl ?_
  refine r_lconst C (q := 3) (x := 1) d_M_waysOf_2 rfl rfl ?_
  obtain ⟨g3, hf⟩ := gd_s hf
  refine r_last C (q := 4) k0 hk0 hc0 t0 ht0 g3 hn0 d_M_waysOf_3 rfl ?_
  refine r_iconst C (q := 5) d_M_waysOf_4 rfl ?_
  refine r_istore_n C (q := 6) (lv' := [(2, vI 1), (0, .ref (w.h k0)), (1, vI v1)]) d_M_waysOf_5 rfl (by decide) rfl rfl ?_
  have hL : ∀ (u2 : Int) (z : St), itr (j_M_waysOf_6 N k0 n0 v1) (fun _ _ => none) N u2 z = some o → Rj X w 4 (qV X w o) 6 [(0, .ref (w.h k0)), (1, vI v1), (2, vI u2)] [] z := itr_ind (j_M_waysOf_6 N k0 n0 v1) (fun _ _ => none) (fun k => ∀ (u2 : Int) (z : St), k u2 z = some o → Rj X w 4 (qV X w o) 6 [(0, .ref (w.h k0)), (1, vI v1), (2, vI u2)] [] z) (fun _ _  h => by cases h) (fun k hk u2 z h => s_j_M_waysOf_6 hk0 hc0 t0 ht0 hn0 C hk h) N
  exact r_sub [1, 2, 0] rfl (hL _ _  hf)
def m_isLikely_97 (N : Nat) (k41 : Int → Int → Int → St → MM) (v2 v3 v4 v8 t0 t1 : Int) (s : St) : MM := k41 v4 (t1 + t0) (v8 + 1) s
def m_isLikely_80 (N : Nat) (k41 : Int → Int → Int → St → MM) (v2 v3 v6 v8 v9 t0 t1 : Int) (s : St) : MM := if lt32 v8 v3 then (m_isLikely_97 N k41 v2 v3 (t1 + t0) v8 0 v6 s) else (m_isLikely_97 N k41 v2 v3 (t1 + t0) v8 v9 v6 s)
def m_isLikely_41 (N : Nat) (v2 v3 : Int) (k41 : Int → Int → Int → St → MM) (v4 v6 v8 : Int) (s : St) : MM := if lt32 v2 v8 then (gd (inb v2 62) (if lt64 (40 * v4) (s 30 v2) then (some (0, s)) else (gd (inb v2 62) (if lt64 (40 * v6) (s 30 v2) then (some (0, s)) else (some (1, s)))))) else (gd (inb v8 62) (gd (inb (v2 - v8) 62) (if lt32 v3 v8 then (m_isLikely_80 N k41 v2 v3 v6 v8 ((s 28 v8) * (s 29 (v2 - v8))) 0 v4 s) else (m_isLikely_80 N k41 v2 v3 v6 v8 ((s 28 v8) * (s 29 (v2 - v8))) ((s 28 v8) * (s 29 (v2 - v8))) v4 s))))
def m_isLikely (N : Nat) (v1 v2 v3 : Int) (s : St) : MM := bd (j_M_waysOf N 28 62 v1 s) (fun r5 s5 => bd (j_M_waysOf N 29 62 ((s5 0 26) - v1) s5) (fun r18 s18 => bd (j_M_waysOf N 30 62 (s18 0 26) s18) (fun r29 s29 => itr (m_isLikely_41 N v2 v3) (fun _ _ _ _ => none) N 0 0 0 s29)))
abbrev rm_m_isLikely : Room := { frames := 1, cells := 0, slots := 0, locals := 23 }
theorem s_m_isLikely_97 {X : CxT} {l : Launch} {G : GG} (C : Cx X l (mW G) 11 prog_14_method_62_code "OneSelfModel" (wo y_M_isLikely prog_14_method_62_code 11 (some .boolean)) (some .boolean) rm_m_isLikely) {o : Int × St} {N : Nat} {v2 v3 v4 v8 t0 t1 : Int} {k41 : Int → Int → Int → St → MM} (hk41 : ∀ (u4 u6 u8 : Int) (s : St), k41 u4 u6 u8 s = some o → Rj X (mW G) 11 (qI X (mW G) o) 41 [(0, .ref ((mW G).h 0)), (2, vI v2), (3, vI v3), (4, vJ u4), (6, vJ u6), (8, vI u8)] [] s) {s : St} (hf : m_isLikely_97 N k41 v2 v3 v4 v8 t0 t1 s = some o) : Rj X (mW G) 11 (qI X (mW G) o) 97 [(0, .ref ((mW G).h 0)), (2, vI v2), (3, vI v3), (4, vJ v4), (8, vI v8)] [vJ t0, vJ t1] s := by
  unfold m_isLikely_97 at hf
  refine r_ladd C (q := 98) d_M_isLikely_97 rfl ?_
  refine r_lstore C (q := 100) (lv' := [(6, vJ (t1 + t0)), (0, .ref ((mW G).h 0)), (2, vI v2), (3, vI v3), (4, vJ v4), (8, vI v8)]) d_M_isLikely_98 (by decide) rfl rfl ?_
  refine r_iinc C (q := 103) (lv' := [(8, vI (v8 + 1)), (6, vJ (t1 + t0)), (0, .ref ((mW G).h 0)), (2, vI v2), (3, vI v3), (4, vJ v4)]) 5 d_M_isLikely_100 rfl (by decide) rfl rfl ?_
  refine r_goto C (q := 41) d_M_isLikely_103 (by decide) ?_
  exact r_sub [2, 3, 4, 5, 1, 0] rfl (hk41 _ _ _ _  hf)
theorem s_m_isLikely_80 {X : CxT} {l : Launch} {G : GG} (C : Cx X l (mW G) 11 prog_14_method_62_code "OneSelfModel" (wo y_M_isLikely prog_14_method_62_code 11 (some .boolean)) (some .boolean) rm_m_isLikely) {o : Int × St} {N : Nat} {v2 v3 v6 v8 v9 t0 t1 : Int} {k41 : Int → Int → Int → St → MM} (hk41 : ∀ (u4 u6 u8 : Int) (s : St), k41 u4 u6 u8 s = some o → Rj X (mW G) 11 (qI X (mW G) o) 41 [(0, .ref ((mW G).h 0)), (2, vI v2), (3, vI v3), (4, vJ u4), (6, vJ u6), (8, vI u8)] [] s) {s : St} (hf : m_isLikely_80 N k41 v2 v3 v6 v8 v9 t0 t1 s = some o) : Rj X (mW G) 11 (qI X (mW G) o) 80 [(0, .ref ((mW G).h 0)), (2, vI v2), (3, vI v3), (6, vJ v6), (8, vI v8), (9, vJ v9)] [vJ t0, vJ t1] s := by
  unfold m_isLikely_80 at hf
  refine r_ladd C (q := 81) d_M_isLikely_80 rfl ?_
  refine r_lstore C (q := 83) (lv' := [(4, vJ (t1 + t0)), (0, .ref ((mW G).h 0)), (2, vI v2), (3, vI v3), (6, vJ v6), (8, vI v8), (9, vJ v9)]) d_M_isLikely_81 (by decide) rfl rfl ?_
  refine r_lload C (q := 85) 4 d_M_isLikely_83 rfl rfl ?_
  refine r_iload C (q := 87) 5 d_M_isLikely_85 rfl rfl ?_
  refine r_iload_n C (q := 88) 3 d_M_isLikely_87 rfl rfl rfl ?_
  refine r_ic_lt C (t := 96) (q := 91) d_M_isLikely_88 (by decide) rfl (fun c88 => ?_) (fun c88 => ?_)
  · replace hf := ite_t c88 hf
    refine r_lconst C (q := 97) (x := 0) d_M_isLikely_96 rfl rfl ?_
    exact r_sub [1, 2, 3, 0, 5] rfl (s_m_isLikely_97 C hk41 hf)
  · replace hf := ite_f c88 hf
    refine r_lload C (q := 93) 6 d_M_isLikely_91 rfl rfl ?_
    refine r_goto C (q := 97) d_M_isLikely_93 (by decide) ?_
    exact r_sub [1, 2, 3, 0, 5] rfl (s_m_isLikely_97 C hk41 hf)
theorem s_m_isLikely_41 {X : CxT} {l : Launch} {G : GG} (C : Cx X l (mW G) 11 prog_14_method_62_code "OneSelfModel" (wo y_M_isLikely prog_14_method_62_code 11 (some .boolean)) (some .boolean) rm_m_isLikely) {o : Int × St} {N : Nat} {v2 v3 v4 v6 v8 : Int} {k41 : Int → Int → Int → St → MM} (hk41 : ∀ (u4 u6 u8 : Int) (s : St), k41 u4 u6 u8 s = some o → Rj X (mW G) 11 (qI X (mW G) o) 41 [(0, .ref ((mW G).h 0)), (2, vI v2), (3, vI v3), (4, vJ u4), (6, vJ u6), (8, vI u8)] [] s) {s : St} (hf : m_isLikely_41 N v2 v3 k41 v4 v6 v8 s = some o) : Rj X (mW G) 11 (qI X (mW G) o) 41 [(0, .ref ((mW G).h 0)), (2, vI v2), (3, vI v3), (4, vJ v4), (6, vJ v6), (8, vI v8)] [] s := by
  unfold m_isLikely_41 at hf
  refine r_iload C (q := 43) 5 d_M_isLikely_41 rfl rfl ?_
  refine r_iload_n C (q := 44) 1 d_M_isLikely_43 rfl rfl rfl ?_
  refine r_ic_gt C (t := 106) (q := 47) d_M_isLikely_44 (by decide) rfl (fun c44 => ?_) (fun c44 => ?_)
  · replace hf := ite_t c44 hf
    refine r_ldc2 C (q := 109) (x := 40) kc_M_281 rfl d_M_isLikely_106 rfl ?_
    refine r_lload C (q := 111) 3 d_M_isLikely_109 rfl rfl ?_
    refine r_lmul C (q := 112) d_M_isLikely_111 rfl ?_
    refine r_aload_n C (q := 113) 0 d_M_isLikely_112 rfl rfl rfl ?_
    refine gxm_M_wayRow C (q := 116) fl_M_106 d_M_isLikely_113 rfl ?_
    refine r_iload_n C (q := 117) 1 d_M_isLikely_116 rfl rfl rfl ?_
    obtain ⟨g117, hf⟩ := gd_s hf
    refine r_lald C (q := 118) 30 (Nat.le_of_ble_eq_true rfl) (fun _ => rfl) 1 rfl g117 (by decide) d_M_isLikely_117 rfl ?_
    refine r_lc_lt C (t := 142) (q := 119) (q2 := 122) d_M_isLikely_118 rfl d_M_isLikely_119 (by decide) rfl (fun c118 => ?_) (fun c118 => ?_)
    · replace hf := ite_t c118 hf
      refine r_iconst C (q := 143) d_M_isLikely_142 rfl ?_
      exact r_zreturn C (by decide) hf d_M_isLikely_143
    · replace hf := ite_f c118 hf
      refine r_ldc2 C (q := 125) (x := 40) kc_M_281 rfl d_M_isLikely_122 rfl ?_
      refine r_lload C (q := 127) 4 d_M_isLikely_125 rfl rfl ?_
      refine r_lmul C (q := 128) d_M_isLikely_127 rfl ?_
      refine r_aload_n C (q := 129) 0 d_M_isLikely_128 rfl rfl rfl ?_
      refine gxm_M_wayRow C (q := 132) fl_M_106 d_M_isLikely_129 rfl ?_
      refine r_iload_n C (q := 133) 1 d_M_isLikely_132 rfl rfl rfl ?_
      obtain ⟨g133, hf⟩ := gd_s hf
      refine r_lald C (q := 134) 30 (Nat.le_of_ble_eq_true rfl) (fun _ => rfl) 1 rfl g133 (by decide) d_M_isLikely_133 rfl ?_
      refine r_lc_lt C (t := 142) (q := 135) (q2 := 138) d_M_isLikely_134 rfl d_M_isLikely_135 (by decide) rfl (fun c134 => ?_) (fun c134 => ?_)
      · replace hf := ite_t c134 hf
        refine r_iconst C (q := 143) d_M_isLikely_142 rfl ?_
        exact r_zreturn C (by decide) hf d_M_isLikely_143
      · replace hf := ite_f c134 hf
        refine r_iconst C (q := 139) d_M_isLikely_138 rfl ?_
        refine r_goto C (q := 143) d_M_isLikely_139 (by decide) ?_
        exact r_zreturn C (by decide) hf d_M_isLikely_143
  · replace hf := ite_f c44 hf
    refine r_aload_n C (q := 48) 0 d_M_isLikely_47 rfl rfl rfl ?_
    refine gxm_M_falseRow C (q := 51) fl_M_99 d_M_isLikely_48 rfl ?_
    refine r_iload C (q := 53) 5 d_M_isLikely_51 rfl rfl ?_
    obtain ⟨g53, hf⟩ := gd_s hf
    refine r_lald C (q := 54) 28 (Nat.le_of_ble_eq_true rfl) (fun _ => rfl) 1 rfl g53 (by decide) d_M_isLikely_53 rfl ?_
    refine r_aload_n C (q := 55) 0 d_M_isLikely_54 rfl rfl rfl ?_
    refine gxm_M_trueRow C (q := 58) fl_M_103 d_M_isLikely_55 rfl ?_
    refine r_iload_n C (q := 59) 1 d_M_isLikely_58 rfl rfl rfl ?_
    refine r_iload C (q := 61) 5 d_M_isLikely_59 rfl rfl ?_
    refine r_isub C (q := 62) d_M_isLikely_61 rfl ?_
    obtain ⟨g62, hf⟩ := gd_s hf
    refine r_lald C (q := 63) 29 (Nat.le_of_ble_eq_true rfl) (fun _ => rfl) 1 rfl g62 (by decide) d_M_isLikely_62 rfl ?_
    refine r_lmul C (q := 64) d_M_isLikely_63 rfl ?_
    refine r_lstore C (q := 66) (lv' := [(9, vJ ((s 28 v8) * (s 29 (v2 - v8)))), (0, .ref ((mW G).h 0)), (2, vI v2), (3, vI v3), (4, vJ v4), (6, vJ v6), (8, vI v8)]) d_M_isLikely_64 (by decide) rfl rfl ?_
    refine r_lload C (q := 68) 4 d_M_isLikely_66 rfl rfl ?_
    refine r_iload C (q := 70) 6 d_M_isLikely_68 rfl rfl ?_
    refine r_iload_n C (q := 71) 3 d_M_isLikely_70 rfl rfl rfl ?_
    refine r_ic_gt C (t := 79) (q := 74) d_M_isLikely_71 (by decide) rfl (fun c71 => ?_) (fun c71 => ?_)
    · replace hf := ite_t c71 hf
      refine r_lconst C (q := 80) (x := 0) d_M_isLikely_79 rfl rfl ?_
      exact r_sub [1, 2, 3, 5, 6, 0] rfl (s_m_isLikely_80 C hk41 hf)
    · replace hf := ite_f c71 hf
      refine r_lload C (q := 76) 0 d_M_isLikely_74 rfl rfl ?_
      refine r_goto C (q := 80) d_M_isLikely_76 (by decide) ?_
      exact r_sub [1, 2, 3, 5, 6, 0] rfl (s_m_isLikely_80 C hk41 hf)
theorem c_m_isLikely {l : Launch} {G : GG} (hi : wo_i (mW G)) {N : Nat} {v1 v2 v3 : Int} {s : St} {o : Int × St} (hf : m_isLikely N v1 v2 v3 s = some o) : CtI l (mW G) y_M_isLikely (wo y_M_isLikely prog_14_method_62_code 11 (some .boolean)) rm_m_isLikely [.ref ((mW G).h 0), vI v1, vI v2, vI v3] s o := by
  refine ct_I (by decide +kernel) hi (Nat.le_of_ble_eq_true rfl) fun X C => ?_
  unfold m_isLikely at hf
  show Rj X (mW G) 11 (qI X (mW G) o) 0 [(0, .ref ((mW G).h 0)), (1, vI v1), (2, vI v2), (3, vI v3)] [] s
  refine r_aload_n C (q := 1) 0 d_M_isLikely_0 rfl rfl rfl ?_
  refine gxm_M_falseRow C (q := 4) fl_M_99 d_M_isLikely_1 rfl ?_
  refine r_iload_n C (q := 5) 1 d_M_isLikely_4 rfl rfl rfl ?_
  obtain ⟨r5, s5, hg5, hf⟩ := bd_s hf
  refine r_cSV C (q := 8) (As := [.ref ((mW G).h 28), vI v1]) (c_j_M_waysOf (Nat.le_of_ble_eq_true rfl) (fun _ => rfl) 1 rfl (by decide) C.i hg5) mt_M_waysOf ml_M_277 rfl rfl rfl ⟨Nat.le_of_ble_eq_true rfl, Nat.le_of_ble_eq_true rfl⟩ rfl (Nat.le_of_ble_eq_true rfl) d_M_isLikely_5 rfl ?_
  refine r_aload_n C (q := 9) 0 d_M_isLikely_8 rfl rfl rfl ?_
  refine gxm_M_trueRow C (q := 12) fl_M_103 d_M_isLikely_9 rfl ?_
  refine r_aload_n C (q := 13) 0 d_M_isLikely_12 rfl rfl rfl ?_
  refine gxm_M_linkMany C (q := 16) fl_M_223 d_M_isLikely_13 rfl ?_
  refine r_iload_n C (q := 17) 1 d_M_isLikely_16 rfl rfl rfl ?_
  refine r_isub C (q := 18) d_M_isLikely_17 rfl ?_
  obtain ⟨r18, s18, hg18, hf⟩ := bd_s hf
  refine r_cSV C (q := 21) (As := [.ref ((mW G).h 29), vI ((s5 0 26) - v1)]) (c_j_M_waysOf (Nat.le_of_ble_eq_true rfl) (fun _ => rfl) 1 rfl (by decide) C.i hg18) mt_M_waysOf ml_M_277 rfl rfl rfl ⟨Nat.le_of_ble_eq_true rfl, Nat.le_of_ble_eq_true rfl⟩ rfl (Nat.le_of_ble_eq_true rfl) d_M_isLikely_18 rfl ?_
  refine r_aload_n C (q := 22) 0 d_M_isLikely_21 rfl rfl rfl ?_
  refine gxm_M_wayRow C (q := 25) fl_M_106 d_M_isLikely_22 rfl ?_
  refine r_aload_n C (q := 26) 0 d_M_isLikely_25 rfl rfl rfl ?_
  refine gxm_M_linkMany C (q := 29) fl_M_223 d_M_isLikely_26 rfl ?_
  obtain ⟨r29, s29, hg29, hf⟩ := bd_s hf
  refine r_cSV C (q := 32) (As := [.ref ((mW G).h 30), vI (s18 0 26)]) (c_j_M_waysOf (Nat.le_of_ble_eq_true rfl) (fun _ => rfl) 1 rfl (by decide) C.i hg29) mt_M_waysOf ml_M_277 rfl rfl rfl ⟨Nat.le_of_ble_eq_true rfl, Nat.le_of_ble_eq_true rfl⟩ rfl (Nat.le_of_ble_eq_true rfl) d_M_isLikely_29 rfl ?_
  refine r_lconst C (q := 33) (x := 0) d_M_isLikely_32 rfl rfl ?_
  refine r_lstore C (q := 35) (lv' := [(4, vJ 0), (0, .ref ((mW G).h 0)), (1, vI v1), (2, vI v2), (3, vI v3)]) d_M_isLikely_33 (by decide) rfl rfl ?_
  refine r_lconst C (q := 36) (x := 0) d_M_isLikely_35 rfl rfl ?_
  refine r_lstore C (q := 38) (lv' := [(6, vJ 0), (4, vJ 0), (0, .ref ((mW G).h 0)), (1, vI v1), (2, vI v2), (3, vI v3)]) d_M_isLikely_36 (by decide) rfl rfl ?_
  refine r_iconst C (q := 39) d_M_isLikely_38 rfl ?_
  refine r_istore C (q := 41) (lv' := [(8, vI 0), (6, vJ 0), (4, vJ 0), (0, .ref ((mW G).h 0)), (1, vI v1), (2, vI v2), (3, vI v3)]) d_M_isLikely_39 (by decide) rfl rfl ?_
  have hL : ∀ (u4 u6 u8 : Int) (z : St), itr (m_isLikely_41 N v2 v3) (fun _ _ _ _ => none) N u4 u6 u8 z = some o → Rj X (mW G) 11 (qI X (mW G) o) 41 [(0, .ref ((mW G).h 0)), (2, vI v2), (3, vI v3), (4, vJ u4), (6, vJ u6), (8, vI u8)] [] z := itr_ind (m_isLikely_41 N v2 v3) (fun _ _ _ _ => none) (fun k => ∀ (u4 u6 u8 : Int) (z : St), k u4 u6 u8 z = some o → Rj X (mW G) 11 (qI X (mW G) o) 41 [(0, .ref ((mW G).h 0)), (2, vI v2), (3, vI v3), (4, vJ u4), (6, vJ u6), (8, vI u8)] [] z) (fun _ _ _ _  h => by cases h) (fun k hk u4 u6 u8 z h => s_m_isLikely_41 C hk h) N
  exact r_sub [3, 5, 6, 2, 1, 0] rfl (hL _ _ _ _  hf)
def m_bound_91 (N : Nat) (k56 : Int → Int → St → MM) (v1 v2 v3 v4 v5 : Int) (s : St) : MM := k56 v4 (v5 + 1) s
def m_bound_87 (N : Nat) (k56 : Int → Int → St → MM) (v1 v2 v3 v5 : Int) (s : St) : MM := m_bound_91 N k56 v1 v2 v3 v5 v5  s
def m_bound_56 (N : Nat) (v1 v2 v3 : Int) (k56 : Int → Int → St → MM) (v4 v5 : Int) (s : St) : MM := if lt32 (s 0 26) v5 then (some (v4, s)) else (bd (m_isLikely N v5 v2 v3 s) (fun r70 s70 => if eq32 r70 0 then (m_bound_91 N k56 v1 v2 v3 v4 v5  s70) else (if eq32 v1 1 then (m_bound_87 N k56 v1 v2 v3 v5  s70) else (if eq32 v4 ((-1)) then (m_bound_87 N k56 v1 v2 v3 v5  s70) else (m_bound_91 N k56 v1 v2 v3 v4 v5  s70)))))
def m_bound (N : Nat) (v1 : Int) (s : St) : MM := bd (m_in N v1 0 1 s) (fun r3 s3 => if eq32 r3 0 then (some ((-2), s3)) else (bd (m_looks N s3) (fun r13 s13 => if eq32 (s13 0 26) 0 then (some ((-3), s13)) else (if le32 (s13 0 26) 60 then (bd (m_checkedOf N 2 s13) (fun r40 s40 => bd (m_checkedOf N 3 s40) (fun r46 s46 => itr (m_bound_56 N v1 r40 r46) (fun _ _ _ => none) N ((-1)) 0 s46))) else (some ((-4), s13))))))
abbrev rm_m_bound : Room := { frames := 10, cells := 0, slots := 0, locals := 239 }
theorem s_m_bound_91 {X : CxT} {l : Launch} {G : GG} (C : Cx X l (mW G) 6 prog_14_method_61_code "OneSelfModel" (wo y_M_bound prog_14_method_61_code 6 (some .int)) (some .int) rm_m_bound) {o : Int × St} {N : Nat} {v1 v2 v3 v4 v5 : Int} {k56 : Int → Int → St → MM} (hk56 : ∀ (u4 u5 : Int) (s : St), k56 u4 u5 s = some o → Rj X (mW G) 6 (qI X (mW G) o) 56 [(0, .ref ((mW G).h 0)), (1, vI v1), (2, vI v2), (3, vI v3), (4, vI u4), (5, vI u5)] [] s) {s : St} (hf : m_bound_91 N k56 v1 v2 v3 v4 v5 s = some o) : Rj X (mW G) 6 (qI X (mW G) o) 91 [(0, .ref ((mW G).h 0)), (1, vI v1), (2, vI v2), (3, vI v3), (4, vI v4), (5, vI v5)] [] s := by
  unfold m_bound_91 at hf
  refine r_iinc C (q := 94) (lv' := [(5, vI (v5 + 1)), (0, .ref ((mW G).h 0)), (1, vI v1), (2, vI v2), (3, vI v3), (4, vI v4)]) 5 d_M_bound_91 rfl (by decide) rfl rfl ?_
  refine r_goto C (q := 56) d_M_bound_94 (by decide) ?_
  exact r_sub [1, 2, 3, 4, 5, 0] rfl (hk56 _ _ _  hf)
theorem s_m_bound_87 {X : CxT} {l : Launch} {G : GG} (C : Cx X l (mW G) 6 prog_14_method_61_code "OneSelfModel" (wo y_M_bound prog_14_method_61_code 6 (some .int)) (some .int) rm_m_bound) {o : Int × St} {N : Nat} {v1 v2 v3 v5 : Int} {k56 : Int → Int → St → MM} (hk56 : ∀ (u4 u5 : Int) (s : St), k56 u4 u5 s = some o → Rj X (mW G) 6 (qI X (mW G) o) 56 [(0, .ref ((mW G).h 0)), (1, vI v1), (2, vI v2), (3, vI v3), (4, vI u4), (5, vI u5)] [] s) {s : St} (hf : m_bound_87 N k56 v1 v2 v3 v5 s = some o) : Rj X (mW G) 6 (qI X (mW G) o) 87 [(0, .ref ((mW G).h 0)), (1, vI v1), (2, vI v2), (3, vI v3), (5, vI v5)] [] s := by
  unfold m_bound_87 at hf
  refine r_iload C (q := 89) 4 d_M_bound_87 rfl rfl ?_
  refine r_istore C (q := 91) (lv' := [(4, vI v5), (0, .ref ((mW G).h 0)), (1, vI v1), (2, vI v2), (3, vI v3), (5, vI v5)]) d_M_bound_89 (by decide) rfl rfl ?_
  exact r_sub [1, 2, 3, 4, 0, 5] rfl (s_m_bound_91 C hk56 hf)
theorem s_m_bound_56 {X : CxT} {l : Launch} {G : GG} (C : Cx X l (mW G) 6 prog_14_method_61_code "OneSelfModel" (wo y_M_bound prog_14_method_61_code 6 (some .int)) (some .int) rm_m_bound) {o : Int × St} {N : Nat} {v1 v2 v3 v4 v5 : Int} {k56 : Int → Int → St → MM} (hk56 : ∀ (u4 u5 : Int) (s : St), k56 u4 u5 s = some o → Rj X (mW G) 6 (qI X (mW G) o) 56 [(0, .ref ((mW G).h 0)), (1, vI v1), (2, vI v2), (3, vI v3), (4, vI u4), (5, vI u5)] [] s) {s : St} (hf : m_bound_56 N v1 v2 v3 k56 v4 v5 s = some o) : Rj X (mW G) 6 (qI X (mW G) o) 56 [(0, .ref ((mW G).h 0)), (1, vI v1), (2, vI v2), (3, vI v3), (4, vI v4), (5, vI v5)] [] s := by
  unfold m_bound_56 at hf
  refine r_iload C (q := 58) 5 d_M_bound_56 rfl rfl ?_
  refine r_aload_n C (q := 59) 0 d_M_bound_58 rfl rfl rfl ?_
  refine gxm_M_linkMany C (q := 62) fl_M_223 d_M_bound_59 rfl ?_
  refine r_ic_gt C (t := 97) (q := 65) d_M_bound_62 (by decide) rfl (fun c62 => ?_) (fun c62 => ?_)
  · replace hf := ite_t c62 hf
    refine r_iload C (q := 99) 4 d_M_bound_97 rfl rfl ?_
    exact r_ireturn C hf d_M_bound_99
  · replace hf := ite_f c62 hf
    refine r_aload_n C (q := 66) 0 d_M_bound_65 rfl rfl rfl ?_
    refine r_iload C (q := 68) 5 d_M_bound_66 rfl rfl ?_
    refine r_iload_n C (q := 69) 2 d_M_bound_68 rfl rfl rfl ?_
    refine r_iload_n C (q := 70) 3 d_M_bound_69 rfl rfl rfl ?_
    obtain ⟨r70, s70, hg70, hf⟩ := bd_s hf
    refine r_cVI C (q := 73) (As := [vI v5, vI v2, vI v3]) (k0 := 0) (c_m_isLikely C.i hg70) mt_M_isLikely ml_M_274 (Nat.le_of_ble_eq_true rfl) rfl rfl rfl rfl rfl rfl ⟨Nat.le_of_ble_eq_true rfl, Nat.le_of_ble_eq_true rfl⟩ rfl (Nat.le_of_ble_eq_true rfl) d_M_bound_70 rfl ?_
    refine r_if_eq C (t := 91) (q := 76) d_M_bound_73 (by decide) rfl (fun c73 => ?_) (fun c73 => ?_)
    · replace hf := ite_t c73 hf
      exact r_sub [0, 1, 2, 3, 4, 5] rfl (s_m_bound_91 C hk56 hf)
    · replace hf := ite_f c73 hf
      refine r_iload_n C (q := 77) 1 d_M_bound_76 rfl rfl rfl ?_
      refine r_iconst C (q := 78) d_M_bound_77 rfl ?_
      refine r_ic_eq C (t := 87) (q := 81) d_M_bound_78 (by decide) rfl (fun c78 => ?_) (fun c78 => ?_)
      · replace hf := ite_t c78 hf
        exact r_sub [0, 1, 2, 3, 5] rfl (s_m_bound_87 C hk56 hf)
      · replace hf := ite_f c78 hf
        refine r_iload C (q := 83) 4 d_M_bound_81 rfl rfl ?_
        refine r_iconst C (q := 84) d_M_bound_83 rfl ?_
        refine r_ic_ne C (t := 91) (q := 87) d_M_bound_84 (by decide) rfl (fun c84 => ?_) (fun c84 => ?_)
        · replace hf := ite_t c84 hf
          exact r_sub [0, 1, 2, 3, 5] rfl (s_m_bound_87 C hk56 hf)
        · replace hf := ite_f c84 hf
          exact r_sub [0, 1, 2, 3, 4, 5] rfl (s_m_bound_91 C hk56 hf)
theorem c_m_bound {l : Launch} {G : GG} (hi : wo_i (mW G)) {N : Nat} {v1 : Int} {s : St} {o : Int × St} (hf : m_bound N v1 s = some o) : CtI l (mW G) y_M_bound (wo y_M_bound prog_14_method_61_code 6 (some .int)) rm_m_bound [.ref ((mW G).h 0), vI v1] s o := by
  refine ct_I (by decide +kernel) hi (Nat.le_of_ble_eq_true rfl) fun X C => ?_
  unfold m_bound at hf
  show Rj X (mW G) 6 (qI X (mW G) o) 0 [(0, .ref ((mW G).h 0)), (1, vI v1)] [] s
  refine r_iload_n C (q := 1) 1 d_M_bound_0 rfl rfl rfl ?_
  refine r_iconst C (q := 2) d_M_bound_1 rfl ?_
  refine r_iconst C (q := 3) d_M_bound_2 rfl ?_
  obtain ⟨r3, s3, hg3, hf⟩ := bd_s hf
  refine r_cSI C (q := 6) (As := [vI v1, vI 0, vI 1]) (c_m_in C.i hg3) mt_M_in ml_M_133 rfl rfl rfl ⟨Nat.le_of_ble_eq_true rfl, Nat.le_of_ble_eq_true rfl⟩ rfl (Nat.le_of_ble_eq_true rfl) d_M_bound_3 rfl ?_
  refine r_if_ne C (t := 12) (q := 9) d_M_bound_6 (by decide) rfl (fun c6 => ?_) (fun c6 => ?_)
  · replace hf := ite_t c6 hf
    refine r_bipush C (q := 11) (x := (-2)) d_M_bound_9 rfl rfl ?_
    exact r_ireturn C hf d_M_bound_11
  · replace hf := ite_f c6 hf
    refine r_aload_n C (q := 13) 0 d_M_bound_12 rfl rfl rfl ?_
    obtain ⟨r13, s13, hg13, hf⟩ := bd_s hf
    refine r_cVV C (q := 16) (As := []) (k0 := 0) (c_m_looks C.i hg13) mt_M_looks ml_M_226 (Nat.le_of_ble_eq_true rfl) rfl rfl rfl rfl rfl rfl ⟨Nat.le_of_ble_eq_true rfl, Nat.le_of_ble_eq_true rfl⟩ rfl (Nat.le_of_ble_eq_true rfl) d_M_bound_13 rfl ?_
    refine r_aload_n C (q := 17) 0 d_M_bound_16 rfl rfl rfl ?_
    refine gxm_M_linkMany C (q := 20) fl_M_223 d_M_bound_17 rfl ?_
    refine r_if_ne C (t := 26) (q := 23) d_M_bound_20 (by decide) rfl (fun c20 => ?_) (fun c20 => ?_)
    · replace hf := ite_t c20 hf
      refine r_bipush C (q := 25) (x := (-3)) d_M_bound_23 rfl rfl ?_
      exact r_ireturn C hf d_M_bound_25
    · replace hf := ite_f c20 hf
      refine r_aload_n C (q := 27) 0 d_M_bound_26 rfl rfl rfl ?_
      refine gxm_M_linkMany C (q := 30) fl_M_223 d_M_bound_27 rfl ?_
      refine r_bipush C (q := 32) (x := 60) d_M_bound_30 rfl rfl ?_
      refine r_ic_le C (t := 38) (q := 35) d_M_bound_32 (by decide) rfl (fun c32 => ?_) (fun c32 => ?_)
      · replace hf := ite_t c32 hf
        refine r_aload_n C (q := 39) 0 d_M_bound_38 rfl rfl rfl ?_
        refine r_iconst C (q := 40) d_M_bound_39 rfl ?_
        obtain ⟨r40, s40, hg40, hf⟩ := bd_s hf
        refine r_cVI C (q := 43) (As := [vI 2]) (k0 := 0) (c_m_checkedOf C.i hg40) mt_M_checkedOf ml_M_271 (Nat.le_of_ble_eq_true rfl) rfl rfl rfl rfl rfl rfl ⟨Nat.le_of_ble_eq_true rfl, Nat.le_of_ble_eq_true rfl⟩ rfl (Nat.le_of_ble_eq_true rfl) d_M_bound_40 rfl ?_
        refine r_istore_n C (q := 44) (lv' := [(2, vI r40), (0, .ref ((mW G).h 0)), (1, vI v1)]) d_M_bound_43 rfl (by decide) rfl rfl ?_
        refine r_aload_n C (q := 45) 1 d_M_bound_44 rfl rfl rfl ?_
        refine r_iconst C (q := 46) d_M_bound_45 rfl ?_
        obtain ⟨r46, s46, hg46, hf⟩ := bd_s hf
        refine r_cVI C (q := 49) (As := [vI 3]) (k0 := 0) (c_m_checkedOf C.i hg46) mt_M_checkedOf ml_M_271 (Nat.le_of_ble_eq_true rfl) rfl rfl rfl rfl rfl rfl ⟨Nat.le_of_ble_eq_true rfl, Nat.le_of_ble_eq_true rfl⟩ rfl (Nat.le_of_ble_eq_true rfl) d_M_bound_46 rfl ?_
        refine r_istore_n C (q := 50) (lv' := [(3, vI r46), (2, vI r40), (0, .ref ((mW G).h 0)), (1, vI v1)]) d_M_bound_49 rfl (by decide) rfl rfl ?_
        refine r_iconst C (q := 51) d_M_bound_50 rfl ?_
        refine r_istore C (q := 53) (lv' := [(4, vI ((-1))), (3, vI r46), (2, vI r40), (0, .ref ((mW G).h 0)), (1, vI v1)]) d_M_bound_51 (by decide) rfl rfl ?_
        refine r_iconst C (q := 54) d_M_bound_53 rfl ?_
        refine r_istore C (q := 56) (lv' := [(5, vI 0), (4, vI ((-1))), (3, vI r46), (2, vI r40), (0, .ref ((mW G).h 0)), (1, vI v1)]) d_M_bound_54 (by decide) rfl rfl ?_
        have hL : ∀ (u4 u5 : Int) (z : St), itr (m_bound_56 N v1 r40 r46) (fun _ _ _ => none) N u4 u5 z = some o → Rj X (mW G) 6 (qI X (mW G) o) 56 [(0, .ref ((mW G).h 0)), (1, vI v1), (2, vI r40), (3, vI r46), (4, vI u4), (5, vI u5)] [] z := itr_ind (m_bound_56 N v1 r40 r46) (fun _ _ _ => none) (fun k => ∀ (u4 u5 : Int) (z : St), k u4 u5 z = some o → Rj X (mW G) 6 (qI X (mW G) o) 56 [(0, .ref ((mW G).h 0)), (1, vI v1), (2, vI r40), (3, vI r46), (4, vI u4), (5, vI u5)] [] z) (fun _ _ _  h => by cases h) (fun k hk u4 u5 z h => s_m_bound_56 C hk h) N
        exact r_sub [4, 5, 3, 2, 1, 0] rfl (hL _ _ _  hf)
      · replace hf := ite_f c32 hf
        refine r_bipush C (q := 37) (x := (-4)) d_M_bound_35 rfl rfl ?_
        exact r_ireturn C hf d_M_bound_37
