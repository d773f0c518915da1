def m_level (N : Nat) (v1 v2 v3 : Int) (s : St) : MM := bd (m_areTwo N v1 v2 s) (fun r3 s3 => if eq32 r3 0 then (some ((-2), s3)) else (bd (m_in N v3 0 3 s3) (fun r12 s12 => if eq32 r12 0 then (some ((-2), s12)) else (bd (m_levelOf N v1 v2 v3 s12) (fun r22 s22 => some (r22, s22))))))
abbrev rm_m_level : Room := { frames := 7, cells := 0, slots := 0, locals := 168 }
theorem c_m_level {l : Launch} {G : GG} (hi : wo_i (mW G)) {N : Nat} {v1 v2 v3 : Int} {s : St} {o : Int × St} (hf : m_level N v1 v2 v3 s = some o) : CtI l (mW G) y_M_level (wo y_M_level prog_14_method_29_code 4 (some .int)) rm_m_level [.ref ((mW G).h 0), vI v1, vI v2, vI v3] s o := by
  refine ct_I (by decide +kernel) hi (Nat.le_of_ble_eq_true rfl) fun X C => ?_
  unfold m_level at hf
  show Rj X (mW G) 4 (qI X (mW G) o) 0 [(0, .ref ((mW G).h 0)), (1, vI v1), (2, vI v2), (3, vI v3)] [] s
  refine r_aload_n C (q := 1) 0 d_M_level_0 rfl rfl rfl ?_
  refine r_iload_n C (q := 2) 1 d_M_level_1 rfl rfl rfl ?_
  refine r_iload_n C (q := 3) 2 d_M_level_2 rfl rfl rfl ?_
  obtain ⟨r3, s3, hg3, hf⟩ := bd_s hf
  refine r_cVI C (q := 6) (As := [vI v1, vI v2]) (k0 := 0) (c_m_areTwo C.i hg3) mt_M_areTwo ml_M_194 (Nat.le_of_ble_eq_true rfl) rfl rfl rfl rfl rfl rfl ⟨Nat.le_of_ble_eq_true rfl, Nat.le_of_ble_eq_true rfl⟩ rfl (Nat.le_of_ble_eq_true rfl) d_M_level_3 rfl ?_
  refine r_if_eq C (t := 28) (q := 9) d_M_level_6 (by decide) rfl (fun c6 => ?_) (fun c6 => ?_)
  · replace hf := ite_t c6 hf
    refine r_bipush C (q := 30) (x := (-2)) d_M_level_28 rfl rfl ?_
    exact r_ireturn C hf d_M_level_30
  · replace hf := ite_f c6 hf
    refine r_iload_n C (q := 10) 3 d_M_level_9 rfl rfl rfl ?_
    refine r_iconst C (q := 11) d_M_level_10 rfl ?_
    refine r_iconst C (q := 12) d_M_level_11 rfl ?_
    obtain ⟨r12, s12, hg12, hf⟩ := bd_s hf
    refine r_cSI C (q := 15) (As := [vI v3, vI 0, vI 3]) (c_m_in C.i hg12) mt_M_in ml_M_133 rfl rfl rfl ⟨Nat.le_of_ble_eq_true rfl, Nat.le_of_ble_eq_true rfl⟩ rfl (Nat.le_of_ble_eq_true rfl) d_M_level_12 rfl ?_
    refine r_if_eq C (t := 28) (q := 18) d_M_level_15 (by decide) rfl (fun c15 => ?_) (fun c15 => ?_)
    · replace hf := ite_t c15 hf
      refine r_bipush C (q := 30) (x := (-2)) d_M_level_28 rfl rfl ?_
      exact r_ireturn C hf d_M_level_30
    · replace hf := ite_f c15 hf
      refine r_aload_n C (q := 19) 0 d_M_level_18 rfl rfl rfl ?_
      refine r_iload_n C (q := 20) 1 d_M_level_19 rfl rfl rfl ?_
      refine r_iload_n C (q := 21) 2 d_M_level_20 rfl rfl rfl ?_
      refine r_iload_n C (q := 22) 3 d_M_level_21 rfl rfl rfl ?_
      obtain ⟨r22, s22, hg22, hf⟩ := bd_s hf
      refine r_cVI C (q := 25) (As := [vI v1, vI v2, vI v3]) (k0 := 0) (c_m_levelOf C.i hg22) mt_M_levelOf ml_M_197 (Nat.le_of_ble_eq_true rfl) rfl rfl rfl rfl rfl rfl ⟨Nat.le_of_ble_eq_true rfl, Nat.le_of_ble_eq_true rfl⟩ rfl (Nat.le_of_ble_eq_true rfl) d_M_level_22 rfl ?_
      refine r_goto C (q := 30) d_M_level_25 (by decide) ?_
      exact r_ireturn C hf d_M_level_30
def m_points (N : Nat) (v1 v2 v3 : Int) (s : St) : MM := bd (m_in N v1 0 3 s) (fun r3 s3 => if eq32 r3 0 then (some ((-1000), s3)) else (bd (m_in N v2 0 3 s3) (fun r12 s12 => if eq32 r12 0 then (some ((-1000), s12)) else (bd (m_in N v3 ((-100)) 100 s12) (fun r23 s23 => if eq32 r23 0 then (some ((-1000), s23)) else (gd (inb ((4 * v1) + v2) 16) (gd (inb ((4 * v1) + v2) 16) (some (s23 15 ((4 * v1) + v2), su s23 15 ((4 * v1) + v2) v3)))))))))
abbrev rm_m_points : Room := { frames := 1, cells := 0, slots := 0, locals := 22 }
theorem c_m_points {l : Launch} {G : GG} (hi : wo_i (mW G)) {N : Nat} {v1 v2 v3 : Int} {s : St} {o : Int × St} (hf : m_points N v1 v2 v3 s = some o) : CtI l (mW G) y_M_points (wo y_M_points prog_14_method_30_code 5 (some .int)) rm_m_points [.ref ((mW G).h 0), vI v1, vI v2, vI v3] s o := by
  refine ct_I (by decide +kernel) hi (Nat.le_of_ble_eq_true rfl) fun X C => ?_
  unfold m_points at hf
  show Rj X (mW G) 5 (qI X (mW G) o) 0 [(0, .ref ((mW G).h 0)), (1, vI v1), (2, vI v2), (3, vI v3)] [] s
  refine r_iload_n C (q := 1) 1 d_M_points_0 rfl rfl rfl ?_
  refine r_iconst C (q := 2) d_M_points_1 rfl ?_
  refine r_iconst C (q := 3) d_M_points_2 rfl ?_
  obtain ⟨r3, s3, hg3, hf⟩ := bd_s hf
  refine r_cSI C (q := 6) (As := [vI v1, vI 0, vI 3]) (c_m_in C.i hg3) mt_M_in ml_M_133 rfl rfl rfl ⟨Nat.le_of_ble_eq_true rfl, Nat.le_of_ble_eq_true rfl⟩ rfl (Nat.le_of_ble_eq_true rfl) d_M_points_3 rfl ?_
  refine r_if_eq C (t := 29) (q := 9) d_M_points_6 (by decide) rfl (fun c6 => ?_) (fun c6 => ?_)
  · replace hf := ite_t c6 hf
    refine r_sipush C (q := 32) (x := (-1000)) d_M_points_29 rfl rfl ?_
    exact r_ireturn C hf d_M_points_32
  · replace hf := ite_f c6 hf
    refine r_iload_n C (q := 10) 2 d_M_points_9 rfl rfl rfl ?_
    refine r_iconst C (q := 11) d_M_points_10 rfl ?_
    refine r_iconst C (q := 12) d_M_points_11 rfl ?_
    obtain ⟨r12, s12, hg12, hf⟩ := bd_s hf
    refine r_cSI C (q := 15) (As := [vI v2, vI 0, vI 3]) (c_m_in C.i hg12) mt_M_in ml_M_133 rfl rfl rfl ⟨Nat.le_of_ble_eq_true rfl, Nat.le_of_ble_eq_true rfl⟩ rfl (Nat.le_of_ble_eq_true rfl) d_M_points_12 rfl ?_
    refine r_if_eq C (t := 29) (q := 18) d_M_points_15 (by decide) rfl (fun c15 => ?_) (fun c15 => ?_)
    · replace hf := ite_t c15 hf
      refine r_sipush C (q := 32) (x := (-1000)) d_M_points_29 rfl rfl ?_
      exact r_ireturn C hf d_M_points_32
    · replace hf := ite_f c15 hf
      refine r_iload_n C (q := 19) 3 d_M_points_18 rfl rfl rfl ?_
      refine r_bipush C (q := 21) (x := (-100)) d_M_points_19 rfl rfl ?_
      refine r_bipush C (q := 23) (x := 100) d_M_points_21 rfl rfl ?_
      obtain ⟨r23, s23, hg23, hf⟩ := bd_s hf
      refine r_cSI C (q := 26) (As := [vI v3, vI ((-100)), vI 100]) (c_m_in C.i hg23) mt_M_in ml_M_133 rfl rfl rfl ⟨Nat.le_of_ble_eq_true rfl, Nat.le_of_ble_eq_true rfl⟩ rfl (Nat.le_of_ble_eq_true rfl) d_M_points_23 rfl ?_
      refine r_if_ne C (t := 33) (q := 29) d_M_points_26 (by decide) rfl (fun c26 => ?_) (fun c26 => ?_)
      · replace hf := ite_t c26 hf
        refine r_sipush C (q := 32) (x := (-1000)) d_M_points_29 rfl rfl ?_
        exact r_ireturn C hf d_M_points_32
      · replace hf := ite_f c26 hf
        refine r_aload_n C (q := 34) 0 d_M_points_33 rfl rfl rfl ?_
        refine gxm_M_pointsOf C (q := 37) fl_M_56 d_M_points_34 rfl ?_
        refine r_iconst C (q := 38) d_M_points_37 rfl ?_
        refine r_iload_n C (q := 39) 1 d_M_points_38 rfl rfl rfl ?_
        refine r_imul C (q := 40) d_M_points_39 rfl ?_
        refine r_iload_n C (q := 41) 2 d_M_points_40 rfl rfl rfl ?_
        refine r_iadd C (q := 42) d_M_points_41 rfl ?_
        obtain ⟨g42, hf⟩ := gd_s hf
        refine r_iald C (q := 43) 15 (Nat.le_of_ble_eq_true rfl) (fun _ => rfl) 0 rfl g42 (by decide) d_M_points_42 rfl ?_
        refine r_istore C (q := 45) (lv' := [(4, vI (s23 15 ((4 * v1) + v2))), (0, .ref ((mW G).h 0)), (1, vI v1), (2, vI v2), (3, vI v3)]) d_M_points_43 (by decide) rfl rfl ?_
        refine r_aload_n C (q := 46) 1 d_M_points_45 rfl rfl rfl ?_
        refine gxm_M_pointsOf C (q := 49) fl_M_56 d_M_points_46 rfl ?_
        refine r_iconst C (q := 50) d_M_points_49 rfl ?_
        refine r_iload_n C (q := 51) 2 d_M_points_50 rfl rfl rfl ?_
        refine r_imul C (q := 52) d_M_points_51 rfl ?_
        refine r_iload_n C (q := 53) 3 d_M_points_52 rfl rfl rfl ?_
        refine r_iadd C (q := 54) d_M_points_53 rfl ?_
        refine r_iload_n C (q := 55) 4 d_M_points_54 rfl rfl rfl ?_
        obtain ⟨g55, hf⟩ := gd_s hf
        refine r_iast C (q := 56) 15 (Nat.le_of_ble_eq_true rfl) (fun _ => rfl) 0 rfl g55 (by decide) d_M_points_55 rfl ?_
        refine r_iload C (q := 58) 0 d_M_points_56 rfl rfl ?_
        exact r_ireturn C hf d_M_points_58
def m_scoreOf_44 (N : Nat) (k5 : Int → Int → St → MM) (v1 v2 v4 t0 t1 : Int) (s : St) : MM := k5 (t1 + t0) (v4 + 1) s
def m_scoreOf_5 (N : Nat) (v1 v2 : Int) (k5 : Int → Int → St → MM) (v3 v4 : Int) (s : St) : MM := if le32 4 v4 then (some (v3, s)) else (bd (m_levelOf N v1 v2 v4 s) (fun r16 s16 => if eq32 r16 ((-1)) then (m_scoreOf_44 N k5 v1 v2 v4 0 v3 s16) else (gd (inb ((4 * v4) + r16) 16) (m_scoreOf_44 N k5 v1 v2 v4 (s16 15 ((4 * v4) + r16)) v3 s16))))
def m_scoreOf (N : Nat) (v1 v2 : Int) (s : St) : MM := itr (m_scoreOf_5 N v1 v2) (fun _ _ _ => none) N 0 0 s
abbrev rm_m_scoreOf : Room := { frames := 7, cells := 0, slots := 0, locals := 168 }
theorem s_m_scoreOf_44 {X : CxT} {l : Launch} {G : GG} (C : Cx X l (mW G) 6 prog_14_method_31_code "OneSelfModel" (wo y_M_scoreOf prog_14_method_31_code 6 (some .int)) (some .int) rm_m_scoreOf) {o : Int × St} {N : Nat} {v1 v2 v4 t0 t1 : Int} {k5 : Int → Int → St → MM} (hk5 : ∀ (u3 u4 : Int) (s : St), k5 u3 u4 s = some o → Rj X (mW G) 6 (qI X (mW G) o) 5 [(0, .ref ((mW G).h 0)), (1, vI v1), (2, vI v2), (3, vI u3), (4, vI u4)] [] s) {s : St} (hf : m_scoreOf_44 N k5 v1 v2 v4 t0 t1 s = some o) : Rj X (mW G) 6 (qI X (mW G) o) 44 [(0, .ref ((mW G).h 0)), (1, vI v1), (2, vI v2), (4, vI v4)] [vI t0, vI t1] s := by
  unfold m_scoreOf_44 at hf
  refine r_iadd C (q := 45) d_M_scoreOf_44 rfl ?_
  refine r_istore_n C (q := 46) (lv' := [(3, vI (t1 + t0)), (0, .ref ((mW G).h 0)), (1, vI v1), (2, vI v2), (4, vI v4)]) d_M_scoreOf_45 rfl (by decide) rfl rfl ?_
  refine r_iinc C (q := 49) (lv' := [(4, vI (v4 + 1)), (3, vI (t1 + t0)), (0, .ref ((mW G).h 0)), (1, vI v1), (2, vI v2)]) 4 d_M_scoreOf_46 rfl (by decide) rfl rfl ?_
  refine r_goto C (q := 5) d_M_scoreOf_49 (by decide) ?_
  exact r_sub [2, 3, 4, 1, 0] rfl (hk5 _ _ _  hf)
theorem s_m_scoreOf_5 {X : CxT} {l : Launch} {G : GG} (C : Cx X l (mW G) 6 prog_14_method_31_code "OneSelfModel" (wo y_M_scoreOf prog_14_method_31_code 6 (some .int)) (some .int) rm_m_scoreOf) {o : Int × St} {N : Nat} {v1 v2 v3 v4 : Int} {k5 : Int → Int → St → MM} (hk5 : ∀ (u3 u4 : Int) (s : St), k5 u3 u4 s = some o → Rj X (mW G) 6 (qI X (mW G) o) 5 [(0, .ref ((mW G).h 0)), (1, vI v1), (2, vI v2), (3, vI u3), (4, vI u4)] [] s) {s : St} (hf : m_scoreOf_5 N v1 v2 k5 v3 v4 s = some o) : Rj X (mW G) 6 (qI X (mW G) o) 5 [(0, .ref ((mW G).h 0)), (1, vI v1), (2, vI v2), (3, vI v3), (4, vI v4)] [] s := by
  unfold m_scoreOf_5 at hf
  refine r_iload C (q := 7) 4 d_M_scoreOf_5 rfl rfl ?_
  refine r_iconst C (q := 8) d_M_scoreOf_7 rfl ?_
  refine r_ic_ge C (t := 52) (q := 11) d_M_scoreOf_8 (by decide) rfl (fun c8 => ?_) (fun c8 => ?_)
  · replace hf := ite_t c8 hf
    refine r_iload_n C (q := 53) 3 d_M_scoreOf_52 rfl rfl rfl ?_
    exact r_ireturn C hf d_M_scoreOf_53
  · replace hf := ite_f c8 hf
    refine r_aload_n C (q := 12) 0 d_M_scoreOf_11 rfl rfl rfl ?_
    refine r_iload_n C (q := 13) 1 d_M_scoreOf_12 rfl rfl rfl ?_
    refine r_iload_n C (q := 14) 2 d_M_scoreOf_13 rfl rfl rfl ?_
    refine r_iload C (q := 16) 4 d_M_scoreOf_14 rfl rfl ?_
    obtain ⟨r16, s16, hg16, hf⟩ := bd_s hf
    refine r_cVI C (q := 19) (As := [vI v1, vI v2, vI v4]) (k0 := 0) (c_m_levelOf C.i hg16) mt_M_levelOf ml_M_197 (Nat.le_of_ble_eq_true rfl) rfl rfl rfl rfl rfl rfl ⟨Nat.le_of_ble_eq_true rfl, Nat.le_of_ble_eq_true rfl⟩ rfl (Nat.le_of_ble_eq_true rfl) d_M_scoreOf_16 rfl ?_
    refine r_istore C (q := 21) (lv' := [(5, vI r16), (0, .ref ((mW G).h 0)), (1, vI v1), (2, vI v2), (3, vI v3), (4, vI v4)]) d_M_scoreOf_19 (by decide) rfl rfl ?_
    refine r_iload_n C (q := 22) 4 d_M_scoreOf_21 rfl rfl rfl ?_
    refine r_iload C (q := 24) 0 d_M_scoreOf_22 rfl rfl ?_
    refine r_iconst C (q := 25) d_M_scoreOf_24 rfl ?_
    refine r_ic_ne C (t := 32) (q := 28) d_M_scoreOf_25 (by decide) rfl (fun c25 => ?_) (fun c25 => ?_)
    · replace hf := ite_t c25 hf
      refine r_iconst C (q := 29) d_M_scoreOf_28 rfl ?_
      refine r_goto C (q := 44) d_M_scoreOf_29 (by decide) ?_
      exact r_sub [1, 2, 3, 5] rfl (s_m_scoreOf_44 C hk5 hf)
    · replace hf := ite_f c25 hf
      refine r_aload_n C (q := 33) 1 d_M_scoreOf_32 rfl rfl rfl ?_
      refine gxm_M_pointsOf C (q := 36) fl_M_56 d_M_scoreOf_33 rfl ?_
      refine r_iconst C (q := 37) d_M_scoreOf_36 rfl ?_
      refine r_iload C (q := 39) 5 d_M_scoreOf_37 rfl rfl ?_
      refine r_imul C (q := 40) d_M_scoreOf_39 rfl ?_
      refine r_iload C (q := 42) 0 d_M_scoreOf_40 rfl rfl ?_
      refine r_iadd C (q := 43) d_M_scoreOf_42 rfl ?_
      obtain ⟨g43, hf⟩ := gd_s hf
      refine r_iald C (q := 44) 15 (Nat.le_of_ble_eq_true rfl) (fun _ => rfl) 0 rfl g43 (by decide) d_M_scoreOf_43 rfl ?_
      exact r_sub [1, 2, 3, 5] rfl (s_m_scoreOf_44 C hk5 hf)
theorem c_m_scoreOf {l : Launch} {G : GG} (hi : wo_i (mW G)) {N : Nat} {v1 v2 : Int} {s : St} {o : Int × St} (hf : m_scoreOf N v1 v2 s = some o) : CtI l (mW G) y_M_scoreOf (wo y_M_scoreOf prog_14_method_31_code 6 (some .int)) rm_m_scoreOf [.ref ((mW G).h 0), vI v1, vI v2] s o := by
  refine ct_I (by decide +kernel) hi (Nat.le_of_ble_eq_true rfl) fun X C => ?_
  unfold m_scoreOf at hf
  show Rj X (mW G) 6 (qI X (mW G) o) 0 [(0, .ref ((mW G).h 0)), (1, vI v1), (2, vI v2)] [] s
  refine r_iconst C (q := 1) d_M_scoreOf_0 rfl ?_
  refine r_istore_n C (q := 2) (lv' := [(3, vI 0), (0, .ref ((mW G).h 0)), (1, vI v1), (2, vI v2)]) d_M_scoreOf_1 rfl (by decide) rfl rfl ?_
  refine r_iconst C (q := 3) d_M_scoreOf_2 rfl ?_
  refine r_istore C (q := 5) (lv' := [(4, vI 0), (3, vI 0), (0, .ref ((mW G).h 0)), (1, vI v1), (2, vI v2)]) d_M_scoreOf_3 (by decide) rfl rfl ?_
  have hL : ∀ (u3 u4 : Int) (z : St), itr (m_scoreOf_5 N v1 v2) (fun _ _ _ => none) N u3 u4 z = some o → Rj X (mW G) 6 (qI X (mW G) o) 5 [(0, .ref ((mW G).h 0)), (1, vI v1), (2, vI v2), (3, vI u3), (4, vI u4)] [] z := itr_ind (m_scoreOf_5 N v1 v2) (fun _ _ _ => none) (fun k => ∀ (u3 u4 : Int) (z : St), k u3 u4 z = some o → Rj X (mW G) 6 (qI X (mW G) o) 5 [(0, .ref ((mW G).h 0)), (1, vI v1), (2, vI v2), (3, vI u3), (4, vI u4)] [] z) (fun _ _ _  h => by cases h) (fun k hk u3 u4 z h => s_m_scoreOf_5 C hk h) N
  exact r_sub [2, 3, 4, 1, 0] rfl (hL _ _ _  hf)
def m_score (N : Nat) (v1 v2 : Int) (s : St) : MM := bd (m_areTwo N v1 v2 s) (fun r3 s3 => if eq32 r3 0 then (some ((-1000), s3)) else (bd (m_scoreOf N v1 v2 s3) (fun r12 s12 => some (r12, s12))))
abbrev rm_m_score : Room := { frames := 8, cells := 0, slots := 0, locals := 193 }
theorem c_m_score {l : Launch} {G : GG} (hi : wo_i (mW G)) {N : Nat} {v1 v2 : Int} {s : St} {o : Int × St} (hf : m_score N v1 v2 s = some o) : CtI l (mW G) y_M_score (wo y_M_score prog_14_method_32_code 3 (some .int)) rm_m_score [.ref ((mW G).h 0), vI v1, vI v2] s o := by
  refine ct_I (by decide +kernel) hi (Nat.le_of_ble_eq_true rfl) fun X C => ?_
  unfold m_score at hf
  show Rj X (mW G) 3 (qI X (mW G) o) 0 [(0, .ref ((mW G).h 0)), (1, vI v1), (2, vI v2)] [] s
  refine r_aload_n C (q := 1) 0 d_M_score_0 rfl rfl rfl ?_
  refine r_iload_n C (q := 2) 1 d_M_score_1 rfl rfl rfl ?_
  refine r_iload_n C (q := 3) 2 d_M_score_2 rfl rfl rfl ?_
  obtain ⟨r3, s3, hg3, hf⟩ := bd_s hf
  refine r_cVI C (q := 6) (As := [vI v1, vI v2]) (k0 := 0) (c_m_areTwo C.i hg3) mt_M_areTwo ml_M_194 (Nat.le_of_ble_eq_true rfl) rfl rfl rfl rfl rfl rfl ⟨Nat.le_of_ble_eq_true rfl, Nat.le_of_ble_eq_true rfl⟩ rfl (Nat.le_of_ble_eq_true rfl) d_M_score_3 rfl ?_
  refine r_if_eq C (t := 18) (q := 9) d_M_score_6 (by decide) rfl (fun c6 => ?_) (fun c6 => ?_)
  · replace hf := ite_t c6 hf
    refine r_sipush C (q := 21) (x := (-1000)) d_M_score_18 rfl rfl ?_
    exact r_ireturn C hf d_M_score_21
  · replace hf := ite_f c6 hf
    refine r_aload_n C (q := 10) 0 d_M_score_9 rfl rfl rfl ?_
    refine r_iload_n C (q := 11) 1 d_M_score_10 rfl rfl rfl ?_
    refine r_iload_n C (q := 12) 2 d_M_score_11 rfl rfl rfl ?_
    obtain ⟨r12, s12, hg12, hf⟩ := bd_s hf
    refine r_cVI C (q := 15) (As := [vI v1, vI v2]) (k0 := 0) (c_m_scoreOf C.i hg12) mt_M_scoreOf ml_M_201 (Nat.le_of_ble_eq_true rfl) rfl rfl rfl rfl rfl rfl ⟨Nat.le_of_ble_eq_true rfl, Nat.le_of_ble_eq_true rfl⟩ rfl (Nat.le_of_ble_eq_true rfl) d_M_score_12 rfl ?_
    refine r_goto C (q := 21) d_M_score_15 (by decide) ?_
    exact r_ireturn C hf d_M_score_21
def m_chance_43 (N : Nat) (v2 v3 v4 t0 : Int) (s : St) : MM := gd (inb ((t0 + (4 * v2)) + v3) 32) (gd (inb ((t0 + (4 * v2)) + v3) 32) (some (s 16 ((t0 + (4 * v2)) + v3), su s 16 ((t0 + (4 * v2)) + v3) v4)))
def m_chance (N : Nat) (v1 v2 v3 v4 : Int) (s : St) : MM := bd (m_in N v2 0 3 s) (fun r3 s3 => if eq32 r3 0 then (some ((-2), s3)) else (bd (m_in N v3 0 3 s3) (fun r12 s12 => if eq32 r12 0 then (some ((-2), s12)) else (bd (m_in N v4 1 1000 s12) (fun r24 s24 => if eq32 r24 0 then (some ((-2), s24)) else (if eq32 v1 0 then (m_chance_43 N v2 v3 v4 0 s24) else (m_chance_43 N v2 v3 v4 16 s24)))))))
abbrev rm_m_chance : Room := { frames := 1, cells := 0, slots := 0, locals := 22 }
theorem s_m_chance_43 {X : CxT} {l : Launch} {G : GG} (C : Cx X l (mW G) 7 prog_14_method_33_code "OneSelfModel" (wo y_M_chance prog_14_method_33_code 7 (some .int)) (some .int) rm_m_chance) {o : Int × St} {N : Nat} {v2 v3 v4 t0 : Int} {s : St} (hf : m_chance_43 N v2 v3 v4 t0 s = some o) : Rj X (mW G) 7 (qI X (mW G) o) 43 [(0, .ref ((mW G).h 0)), (2, vI v2), (3, vI v3), (4, vI v4)] [vI t0] s := by
  unfold m_chance_43 at hf
  refine r_iconst C (q := 44) d_M_chance_43 rfl ?_
  refine r_iload_n C (q := 45) 1 d_M_chance_44 rfl rfl rfl ?_
  refine r_imul C (q := 46) d_M_chance_45 rfl ?_
  refine r_iadd C (q := 47) d_M_chance_46 rfl ?_
  refine r_iload_n C (q := 48) 2 d_M_chance_47 rfl rfl rfl ?_
  refine r_iadd C (q := 49) d_M_chance_48 rfl ?_
  refine r_istore C (q := 51) (lv' := [(5, vI ((t0 + (4 * v2)) + v3)), (0, .ref ((mW G).h 0)), (2, vI v2), (3, vI v3), (4, vI v4)]) d_M_chance_49 (by decide) rfl rfl ?_
  refine r_aload_n C (q := 52) 1 d_M_chance_51 rfl rfl rfl ?_
  refine gxm_M_chances C (q := 55) fl_M_59 d_M_chance_52 rfl ?_
  refine r_iload C (q := 57) 0 d_M_chance_55 rfl rfl ?_
  obtain ⟨g57, hf⟩ := gd_s hf
  refine r_iald C (q := 58) 16 (Nat.le_of_ble_eq_true rfl) (fun _ => rfl) 0 rfl g57 (by decide) d_M_chance_57 rfl ?_
  refine r_istore C (q := 60) (lv' := [(6, vI (s 16 ((t0 + (4 * v2)) + v3))), (5, vI ((t0 + (4 * v2)) + v3)), (0, .ref ((mW G).h 0)), (2, vI v2), (3, vI v3), (4, vI v4)]) d_M_chance_58 (by decide) rfl rfl ?_
  refine r_aload_n C (q := 61) 2 d_M_chance_60 rfl rfl rfl ?_
  refine gxm_M_chances C (q := 64) fl_M_59 d_M_chance_61 rfl ?_
  refine r_iload C (q := 66) 1 d_M_chance_64 rfl rfl ?_
  refine r_iload C (q := 68) 5 d_M_chance_66 rfl rfl ?_
  obtain ⟨g68, hf⟩ := gd_s hf
  refine r_iast C (q := 69) 16 (Nat.le_of_ble_eq_true rfl) (fun _ => rfl) 0 rfl g68 (by decide) d_M_chance_68 rfl ?_
  refine r_iload C (q := 71) 0 d_M_chance_69 rfl rfl ?_
  exact r_ireturn C hf d_M_chance_71
theorem c_m_chance {l : Launch} {G : GG} (hi : wo_i (mW G)) {N : Nat} {v1 v2 v3 v4 : Int} {s : St} {o : Int × St} (hf : m_chance N v1 v2 v3 v4 s = some o) : CtI l (mW G) y_M_chance (wo y_M_chance prog_14_method_33_code 7 (some .int)) rm_m_chance [.ref ((mW G).h 0), vI v1, vI v2, vI v3, vI v4] s o := by
  refine ct_I (by decide +kernel) hi (Nat.le_of_ble_eq_true rfl) fun X C => ?_
  unfold m_chance at hf
  show Rj X (mW G) 7 (qI X (mW G) o) 0 [(0, .ref ((mW G).h 0)), (1, vI v1), (2, vI v2), (3, vI v3), (4, vI v4)] [] s
  refine r_iload_n C (q := 1) 2 d_M_chance_0 rfl rfl rfl ?_
  refine r_iconst C (q := 2) d_M_chance_1 rfl ?_
  refine r_iconst C (q := 3) d_M_chance_2 rfl ?_
  obtain ⟨r3, s3, hg3, hf⟩ := bd_s hf
  refine r_cSI C (q := 6) (As := [vI v2, vI 0, vI 3]) (c_m_in C.i hg3) mt_M_in ml_M_133 rfl rfl rfl ⟨Nat.le_of_ble_eq_true rfl, Nat.le_of_ble_eq_true rfl⟩ rfl (Nat.le_of_ble_eq_true rfl) d_M_chance_3 rfl ?_
  refine r_if_eq C (t := 30) (q := 9) d_M_chance_6 (by decide) rfl (fun c6 => ?_) (fun c6 => ?_)
  · replace hf := ite_t c6 hf
    refine r_bipush C (q := 32) (x := (-2)) d_M_chance_30 rfl rfl ?_
    exact r_ireturn C hf d_M_chance_32
  · replace hf := ite_f c6 hf
    refine r_iload_n C (q := 10) 3 d_M_chance_9 rfl rfl rfl ?_
    refine r_iconst C (q := 11) d_M_chance_10 rfl ?_
    refine r_iconst C (q := 12) d_M_chance_11 rfl ?_
    obtain ⟨r12, s12, hg12, hf⟩ := bd_s hf
    refine r_cSI C (q := 15) (As := [vI v3, vI 0, vI 3]) (c_m_in C.i hg12) mt_M_in ml_M_133 rfl rfl rfl ⟨Nat.le_of_ble_eq_true rfl, Nat.le_of_ble_eq_true rfl⟩ rfl (Nat.le_of_ble_eq_true rfl) d_M_chance_12 rfl ?_
    refine r_if_eq C (t := 30) (q := 18) d_M_chance_15 (by decide) rfl (fun c15 => ?_) (fun c15 => ?_)
    · replace hf := ite_t c15 hf
      refine r_bipush C (q := 32) (x := (-2)) d_M_chance_30 rfl rfl ?_
      exact r_ireturn C hf d_M_chance_32
    · replace hf := ite_f c15 hf
      refine r_iload C (q := 20) 4 d_M_chance_18 rfl rfl ?_
      refine r_iconst C (q := 21) d_M_chance_20 rfl ?_
      refine r_sipush C (q := 24) (x := 1000) d_M_chance_21 rfl rfl ?_
      obtain ⟨r24, s24, hg24, hf⟩ := bd_s hf
      refine r_cSI C (q := 27) (As := [vI v4, vI 1, vI 1000]) (c_m_in C.i hg24) mt_M_in ml_M_133 rfl rfl rfl ⟨Nat.le_of_ble_eq_true rfl, Nat.le_of_ble_eq_true rfl⟩ rfl (Nat.le_of_ble_eq_true rfl) d_M_chance_24 rfl ?_
      refine r_if_ne C (t := 33) (q := 30) d_M_chance_27 (by decide) rfl (fun c27 => ?_) (fun c27 => ?_)
      · replace hf := ite_t c27 hf
        refine r_bipush C (q := 32) (x := (-2)) d_M_chance_30 rfl rfl ?_
        exact r_ireturn C hf d_M_chance_32
      · replace hf := ite_f c27 hf
        refine r_iload_n C (q := 34) 1 d_M_chance_33 rfl rfl rfl ?_
        refine r_if_eq C (t := 42) (q := 37) d_M_chance_34 (by decide) rfl (fun c34 => ?_) (fun c34 => ?_)
        · replace hf := ite_t c34 hf
          refine r_iconst C (q := 43) d_M_chance_42 rfl ?_
          exact r_sub [0, 2, 3, 4] rfl (s_m_chance_43 C hf)
        · replace hf := ite_f c34 hf
          refine r_bipush C (q := 39) (x := 16) d_M_chance_37 rfl rfl ?_
          refine r_goto C (q := 43) d_M_chance_39 (by decide) ?_
          exact r_sub [0, 2, 3, 4] rfl (s_m_chance_43 C hf)
def m_divisor_6 (N : Nat) (k6 : Int → Int → St → MM) (v4 v6 : Int) (s : St) : MM := if eq64 v6 0 then (some (v4, s)) else (gd (¬ eq64 v6 0) (k6 v6 (v4 - dv64 v4 v6 * v6) s))
def m_divisor (N : Nat) (v0 v2 : Int) (s : St) : MM := itr (m_divisor_6 N ) (fun _ _ _ => none) N v0 v2 s
abbrev rm_m_divisor : Room := { frames := 0, cells := 0, slots := 0, locals := 0 }
theorem s_m_divisor_6 {X : CxT} {l : Launch} {G : GG} (C : Cx X l (mW G) 10 prog_14_method_34_code "OneSelfModel" (wo y_M_divisor prog_14_method_34_code 10 (some .long)) (some .long) rm_m_divisor) {o : Int × St} {N : Nat} {v4 v6 : Int} {k6 : Int → Int → St → MM} (hk6 : ∀ (u4 u6 : Int) (s : St), k6 u4 u6 s = some o → Rj X (mW G) 10 (qL X (mW G) o) 6 [(4, vJ u4), (6, vJ u6)] [] s) {s : St} (hf : m_divisor_6 N  k6 v4 v6 s = some o) : Rj X (mW G) 10 (qL X (mW G) o) 6 [(4, vJ v4), (6, vJ v6)] [] s := by
  unfold m_divisor_6 at hf
  refine r_lload C (q := 8) 1 d_M_divisor_6 rfl rfl ?_
  refine r_lconst C (q := 9) (x := 0) d_M_divisor_8 rfl rfl ?_
  refine r_lc_eq C (t := 31) (q := 10) (q2 := 13) d_M_divisor_9 rfl d_M_divisor_10 (by decide) rfl (fun c9 => ?_) (fun c9 => ?_)
  · replace hf := ite_t c9 hf
    refine r_lload C (q := 33) 0 d_M_divisor_31 rfl rfl ?_
    exact r_lreturn C hf d_M_divisor_33
  · replace hf := ite_f c9 hf
    refine r_lload C (q := 15) 0 d_M_divisor_13 rfl rfl ?_
    refine r_lload C (q := 17) 1 d_M_divisor_15 rfl rfl ?_
    obtain ⟨g17, hf⟩ := gd_s hf
    refine r_lrem C (q := 18) g17 d_M_divisor_17 rfl ?_
    refine r_lstore C (q := 20) (lv' := [(8, vJ (v4 - dv64 v4 v6 * v6)), (4, vJ v4), (6, vJ v6)]) d_M_divisor_18 (by decide) rfl rfl ?_
    refine r_lload C (q := 22) 2 d_M_divisor_20 rfl rfl ?_
    refine r_lstore C (q := 24) (lv' := [(4, vJ v6), (8, vJ (v4 - dv64 v4 v6 * v6)), (6, vJ v6)]) d_M_divisor_22 (by decide) rfl rfl ?_
    refine r_lload C (q := 26) 1 d_M_divisor_24 rfl rfl ?_
    refine r_lstore C (q := 28) (lv' := [(6, vJ (v4 - dv64 v4 v6 * v6)), (4, vJ v6), (8, vJ (v4 - dv64 v4 v6 * v6))]) d_M_divisor_26 (by decide) rfl rfl ?_
    refine r_goto C (q := 6) d_M_divisor_28 (by decide) ?_
    exact r_sub [1, 0] rfl (hk6 _ _ _  hf)
theorem c_m_divisor {l : Launch} {G : GG} (hi : wo_i (mW G)) {N : Nat} {v0 v2 : Int} {s : St} {o : Int × St} (hf : m_divisor N v0 v2 s = some o) : CtL l (mW G) y_M_divisor (wo y_M_divisor prog_14_method_34_code 10 (some .long)) rm_m_divisor [vJ v0, vJ v2] s o := by
  refine ct_L (by decide +kernel) hi (Nat.le_of_ble_eq_true rfl) fun X C => ?_
  unfold m_divisor at hf
  show Rj X (mW G) 10 (qL X (mW G) o) 0 [(0, vJ v0), (2, vJ v2)] [] s
  refine r_lload_n C (q := 1) 0 d_M_divisor_0 rfl rfl rfl ?_
  refine r_lstore C (q := 3) (lv' := [(4, vJ v0), (0, vJ v0), (2, vJ v2)]) d_M_divisor_1 (by decide) rfl rfl ?_
  refine r_lload_n C (q := 4) 2 d_M_divisor_3 rfl rfl rfl ?_
  refine r_lstore C (q := 6) (lv' := [(6, vJ v2), (4, vJ v0), (0, vJ v0), (2, vJ v2)]) d_M_divisor_4 (by decide) rfl rfl ?_
  have hL : ∀ (u4 u6 : Int) (z : St), itr (m_divisor_6 N ) (fun _ _ _ => none) N u4 u6 z = some o → Rj X (mW G) 10 (qL X (mW G) o) 6 [(4, vJ u4), (6, vJ u6)] [] z := itr_ind (m_divisor_6 N ) (fun _ _ _ => none) (fun k => ∀ (u4 u6 : Int) (z : St), k u4 u6 z = some o → Rj X (mW G) 10 (qL X (mW G) o) 6 [(4, vJ u4), (6, vJ u6)] [] z) (fun _ _ _  h => by cases h) (fun k hk u4 u6 z h => s_m_divisor_6 C hk h) N
  exact r_sub [1, 0] rfl (hL _ _ _  hf)
def m_oddsOf_87 (N : Nat) (k12 : Int → St → MM) (v1 v2 v3 t0 t1 : Int) (s : St) : MM := k12 (v3 + 1) (su s 0 23 (t1 * t0))
def m_oddsOf_56 (N : Nat) (k12 : Int → St → MM) (v1 v2 v3 v4 t0 t1 : Int) (s : St) : MM := if eq32 v4 ((-1)) then (m_oddsOf_87 N k12 v1 v2 v3 1 ((su s 0 22 (t1 * t0)) 0 23) (su s 0 22 (t1 * t0))) else (gd (inb ((4 * v3) + v4) 32) (m_oddsOf_87 N k12 v1 v2 v3 (s32 ((su s 0 22 (t1 * t0)) 16 ((4 * v3) + v4))) ((su s 0 22 (t1 * t0)) 0 23) (su s 0 22 (t1 * t0))))
def m_oddsOf_12 (N : Nat) (v1 v2 : Int) (k12 : Int → St → MM) (v3 : Int) (s : St) : MM := if le32 4 v3 then (bd (m_divisor N (s 0 22) (s 0 23) s) (fun r105 s105 => gd (¬ eq64 r105 0) (gd (¬ eq64 r105 0) (some (0, su (su s105 0 22 (dv64 (s105 0 22) r105)) 0 23 (dv64 ((su s105 0 22 (dv64 (s105 0 22) r105)) 0 23) r105)))))) else (bd (m_levelOf N v1 v2 v3 s) (fun r21 s21 => if eq32 r21 ((-1)) then (m_oddsOf_56 N k12 v1 v2 v3 r21 1 (s21 0 22) s21) else (gd (inb ((16 + (4 * v3)) + r21) 32) (m_oddsOf_56 N k12 v1 v2 v3 r21 (s32 (s21 16 ((16 + (4 * v3)) + r21))) (s21 0 22) s21))))
def m_oddsOf (N : Nat) (v1 v2 : Int) (s : St) : MM := itr (m_oddsOf_12 N v1 v2) (fun _ _ => none) N 0 (su (su s 0 22 1) 0 23 1)
abbrev rm_m_oddsOf : Room := { frames := 7, cells := 0, slots := 0, locals := 168 }
theorem s_m_oddsOf_87 {X : CxT} {l : Launch} {G : GG} (C : Cx X l (mW G) 5 prog_14_method_35_code "OneSelfModel" (wo y_M_oddsOf prog_14_method_35_code 5 none) none rm_m_oddsOf) {o : Int × St} {N : Nat} {v1 v2 v3 t0 t1 : Int} {k12 : Int → St → MM} (hk12 : ∀ (u3 : Int) (s : St), k12 u3 s = some o → Rj X (mW G) 5 (qV X (mW G) o) 12 [(0, .ref ((mW G).h 0)), (1, vI v1), (2, vI v2), (3, vI u3)] [] s) {s : St} (hf : m_oddsOf_87 N k12 v1 v2 v3 t0 t1 s = some o) : Rj X (mW G) 5 (qV X (mW G) o) 87 [(0, .ref ((mW G).h 0)), (1, vI v1), (2, vI v2), (3, vI v3)] [vJ t0, vJ t1, .ref ((mW G).h 0)] s := by
  unfold m_oddsOf_87 at hf
  refine r_lmul C (q := 88) d_M_oddsOf_87 rfl ?_
  refine pxm_M_oddsBottom C (q := 91) fl_M_208 d_M_oddsOf_88 rfl ?_
  refine r_iinc C (q := 94) (lv' := [(3, vI (v3 + 1)), (0, .ref ((mW G).h 0)), (1, vI v1), (2, vI v2)]) 3 d_M_oddsOf_91 rfl (by decide) rfl rfl ?_
  refine r_goto C (q := 12) d_M_oddsOf_94 (by decide) ?_
  exact r_sub [1, 2, 3, 0] rfl (hk12 _ _  hf)
theorem s_m_oddsOf_56 {X : CxT} {l : Launch} {G : GG} (C : Cx X l (mW G) 5 prog_14_method_35_code "OneSelfModel" (wo y_M_oddsOf prog_14_method_35_code 5 none) none rm_m_oddsOf) {o : Int × St} {N : Nat} {v1 v2 v3 v4 t0 t1 : Int} {k12 : Int → St → MM} (hk12 : ∀ (u3 : Int) (s : St), k12 u3 s = some o → Rj X (mW G) 5 (qV X (mW G) o) 12 [(0, .ref ((mW G).h 0)), (1, vI v1), (2, vI v2), (3, vI u3)] [] s) {s : St} (hf : m_oddsOf_56 N k12 v1 v2 v3 v4 t0 t1 s = some o) : Rj X (mW G) 5 (qV X (mW G) o) 56 [(0, .ref ((mW G).h 0)), (1, vI v1), (2, vI v2), (3, vI v3), (4, vI v4)] [vJ t0, vJ t1, .ref ((mW G).h 0)] s := by
  unfold m_oddsOf_56 at hf
  refine r_lmul C (q := 57) d_M_oddsOf_56 rfl ?_
  refine pxm_M_oddsTop C (q := 60) fl_M_204 d_M_oddsOf_57 rfl ?_
  refine r_aload_n C (q := 61) 0 d_M_oddsOf_60 rfl rfl rfl ?_
  refine r_dup C (q := 62) d_M_oddsOf_61 rfl rfl ?_
  refine gxm_M_oddsBottom C (q := 65) fl_M_208 d_M_oddsOf_62 rfl ?_
  refine r_iload C (q := 67) 4 d_M_oddsOf_65 rfl rfl ?_
  refine r_iconst C (q := 68) d_M_oddsOf_67 rfl ?_
  refine r_ic_ne C (t := 75) (q := 71) d_M_oddsOf_68 (by decide) rfl (fun c68 => ?_) (fun c68 => ?_)
  · replace hf := ite_t c68 hf
    refine r_lconst C (q := 72) (x := 1) d_M_oddsOf_71 rfl rfl ?_
    refine r_goto C (q := 87) d_M_oddsOf_72 (by decide) ?_
    exact r_sub [0, 1, 2, 3] rfl (s_m_oddsOf_87 C hk12 hf)
  · replace hf := ite_f c68 hf
    refine r_aload_n C (q := 76) 0 d_M_oddsOf_75 rfl rfl rfl ?_
    refine gxm_M_chances C (q := 79) fl_M_59 d_M_oddsOf_76 rfl ?_
    refine r_iconst C (q := 80) d_M_oddsOf_79 rfl ?_
    refine r_iload_n C (q := 81) 3 d_M_oddsOf_80 rfl rfl rfl ?_
    refine r_imul C (q := 82) d_M_oddsOf_81 rfl ?_
    refine r_iload C (q := 84) 4 d_M_oddsOf_82 rfl rfl ?_
    refine r_iadd C (q := 85) d_M_oddsOf_84 rfl ?_
    obtain ⟨g85, hf⟩ := gd_s hf
    refine r_iald C (q := 86) 16 (Nat.le_of_ble_eq_true rfl) (fun _ => rfl) 0 rfl g85 (by decide) d_M_oddsOf_85 rfl ?_
    refine r_i2l C (q := 87) d_M_oddsOf_86 rfl ?_
    exact r_sub [0, 1, 2, 3] rfl (s_m_oddsOf_87 C hk12 hf)
theorem s_m_oddsOf_12 {X : CxT} {l : Launch} {G : GG} (C : Cx X l (mW G) 5 prog_14_method_35_code "OneSelfModel" (wo y_M_oddsOf prog_14_method_35_code 5 none) none rm_m_oddsOf) {o : Int × St} {N : Nat} {v1 v2 v3 : Int} {k12 : Int → St → MM} (hk12 : ∀ (u3 : Int) (s : St), k12 u3 s = some o → Rj X (mW G) 5 (qV X (mW G) o) 12 [(0, .ref ((mW G).h 0)), (1, vI v1), (2, vI v2), (3, vI u3)] [] s) {s : St} (hf : m_oddsOf_12 N v1 v2 k12 v3 s = some o) : Rj X (mW G) 5 (qV X (mW G) o) 12 [(0, .ref ((mW G).h 0)), (1, vI v1), (2, vI v2), (3, vI v3)] [] s := by
  unfold m_oddsOf_12 at hf
  refine r_iload_n C (q := 13) 3 d_M_oddsOf_12 rfl rfl rfl ?_
  refine r_iconst C (q := 14) d_M_oddsOf_13 rfl ?_
  refine r_ic_ge C (t := 97) (q := 17) d_M_oddsOf_14 (by decide) rfl (fun c14 => ?_) (fun c14 => ?_)
  · replace hf := ite_t c14 hf
    refine r_aload_n C (q := 98) 0 d_M_oddsOf_97 rfl rfl rfl ?_
    refine gxm_M_oddsTop C (q := 101) fl_M_204 d_M_oddsOf_98 rfl ?_
    refine r_aload_n C (q := 102) 0 d_M_oddsOf_101 rfl rfl rfl ?_
    refine gxm_M_oddsBottom C (q := 105) fl_M_208 d_M_oddsOf_102 rfl ?_
    obtain ⟨r105, s105, hg105, hf⟩ := bd_s hf
    refine r_cSL C (q := 108) (As := [vJ (s 0 22), vJ (s 0 23)]) (c_m_divisor C.i hg105) mt_M_divisor ml_M_211 rfl rfl rfl ⟨Nat.le_of_ble_eq_true rfl, Nat.le_of_ble_eq_true rfl⟩ rfl (Nat.le_of_ble_eq_true rfl) d_M_oddsOf_105 rfl ?_
    refine r_lstore_n C (q := 109) (lv' := [(3, vJ r105), (0, .ref ((mW G).h 0)), (1, vI v1), (2, vI v2)]) d_M_oddsOf_108 rfl (by decide) rfl rfl ?_
    refine r_aload_n C (q := 110) 1 d_M_oddsOf_109 rfl rfl rfl ?_
    refine r_dup C (q := 111) d_M_oddsOf_110 rfl rfl ?_
    refine gxm_M_oddsTop C (q := 114) fl_M_204 d_M_oddsOf_111 rfl ?_
    refine r_lload_n C (q := 115) 0 d_M_oddsOf_114 rfl rfl rfl ?_
    obtain ⟨g115, hf⟩ := gd_s hf
    refine r_ldiv C (q := 116) g115 d_M_oddsOf_115 rfl ?_
    refine pxm_M_oddsTop C (q := 119) fl_M_204 d_M_oddsOf_116 rfl ?_
    refine r_aload_n C (q := 120) 1 d_M_oddsOf_119 rfl rfl rfl ?_
    refine r_dup C (q := 121) d_M_oddsOf_120 rfl rfl ?_
    refine gxm_M_oddsBottom C (q := 124) fl_M_208 d_M_oddsOf_121 rfl ?_
    refine r_lload_n C (q := 125) 0 d_M_oddsOf_124 rfl rfl rfl ?_
    obtain ⟨g125, hf⟩ := gd_s hf
    refine r_ldiv C (q := 126) g125 d_M_oddsOf_125 rfl ?_
    refine pxm_M_oddsBottom C (q := 129) fl_M_208 d_M_oddsOf_126 rfl ?_
    exact r_return C hf d_M_oddsOf_129
  · replace hf := ite_f c14 hf
    refine r_aload_n C (q := 18) 0 d_M_oddsOf_17 rfl rfl rfl ?_
    refine r_iload_n C (q := 19) 1 d_M_oddsOf_18 rfl rfl rfl ?_
    refine r_iload_n C (q := 20) 2 d_M_oddsOf_19 rfl rfl rfl ?_
    refine r_iload_n C (q := 21) 3 d_M_oddsOf_20 rfl rfl rfl ?_
    obtain ⟨r21, s21, hg21, hf⟩ := bd_s hf
    refine r_cVI C (q := 24) (As := [vI v1, vI v2, vI v3]) (k0 := 0) (c_m_levelOf C.i hg21) mt_M_levelOf ml_M_197 (Nat.le_of_ble_eq_true rfl) rfl rfl rfl rfl rfl rfl ⟨Nat.le_of_ble_eq_true rfl, Nat.le_of_ble_eq_true rfl⟩ rfl (Nat.le_of_ble_eq_true rfl) d_M_oddsOf_21 rfl ?_
    refine r_istore C (q := 26) (lv' := [(4, vI r21), (0, .ref ((mW G).h 0)), (1, vI v1), (2, vI v2), (3, vI v3)]) d_M_oddsOf_24 (by decide) rfl rfl ?_
    refine r_aload_n C (q := 27) 1 d_M_oddsOf_26 rfl rfl rfl ?_
    refine r_dup C (q := 28) d_M_oddsOf_27 rfl rfl ?_
    refine gxm_M_oddsTop C (q := 31) fl_M_204 d_M_oddsOf_28 rfl ?_
    refine r_iload C (q := 33) 0 d_M_oddsOf_31 rfl rfl ?_
    refine r_iconst C (q := 34) d_M_oddsOf_33 rfl ?_
    refine r_ic_ne C (t := 41) (q := 37) d_M_oddsOf_34 (by decide) rfl (fun c34 => ?_) (fun c34 => ?_)
    · replace hf := ite_t c34 hf
      refine r_lconst C (q := 38) (x := 1) d_M_oddsOf_37 rfl rfl ?_
      refine r_goto C (q := 56) d_M_oddsOf_38 (by decide) ?_
      exact r_sub [1, 2, 3, 4, 0] rfl (s_m_oddsOf_56 C hk12 hf)
    · replace hf := ite_f c34 hf
      refine r_aload_n C (q := 42) 1 d_M_oddsOf_41 rfl rfl rfl ?_
      refine gxm_M_chances C (q := 45) fl_M_59 d_M_oddsOf_42 rfl ?_
      refine r_bipush C (q := 47) (x := 16) d_M_oddsOf_45 rfl rfl ?_
      refine r_iconst C (q := 48) d_M_oddsOf_47 rfl ?_
      refine r_iload_n C (q := 49) 4 d_M_oddsOf_48 rfl rfl rfl ?_
      refine r_imul C (q := 50) d_M_oddsOf_49 rfl ?_
      refine r_iadd C (q := 51) d_M_oddsOf_50 rfl ?_
      refine r_iload C (q := 53) 0 d_M_oddsOf_51 rfl rfl ?_
      refine r_iadd C (q := 54) d_M_oddsOf_53 rfl ?_
      obtain ⟨g54, hf⟩ := gd_s hf
      refine r_iald C (q := 55) 16 (Nat.le_of_ble_eq_true rfl) (fun _ => rfl) 0 rfl g54 (by decide) d_M_oddsOf_54 rfl ?_
      refine r_i2l C (q := 56) d_M_oddsOf_55 rfl ?_
      exact r_sub [1, 2, 3, 4, 0] rfl (s_m_oddsOf_56 C hk12 hf)
theorem c_m_oddsOf {l : Launch} {G : GG} (hi : wo_i (mW G)) {N : Nat} {v1 v2 : Int} {s : St} {o : Int × St} (hf : m_oddsOf N v1 v2 s = some o) : CtV l (mW G) y_M_oddsOf (wo y_M_oddsOf prog_14_method_35_code 5 none) rm_m_oddsOf [.ref ((mW G).h 0), vI v1, vI v2] s o := by
  refine ct_V (by decide +kernel) hi (Nat.le_of_ble_eq_true rfl) fun X C => ?_
  unfold m_oddsOf at hf
  show Rj X (mW G) 5 (qV X (mW G) o) 0 [(0, .ref ((mW G).h 0)), (1, vI v1), (2, vI v2)] [] s
  refine r_aload_n C (q := 1) 0 d_M_oddsOf_0 rfl rfl rfl ?_
  refine r_lconst C (q := 2) (x := 1) d_M_oddsOf_1 rfl rfl ?_
  refine pxm_M_oddsTop C (q := 5) fl_M_204 d_M_oddsOf_2 rfl ?_
  refine r_aload_n C (q := 6) 0 d_M_oddsOf_5 rfl rfl rfl ?_
  refine r_lconst C (q := 7) (x := 1) d_M_oddsOf_6 rfl rfl ?_
  refine pxm_M_oddsBottom C (q := 10) fl_M_208 d_M_oddsOf_7 rfl ?_
  refine r_iconst C (q := 11) d_M_oddsOf_10 rfl ?_
  refine r_istore_n C (q := 12) (lv' := [(3, vI 0), (0, .ref ((mW G).h 0)), (1, vI v1), (2, vI v2)]) d_M_oddsOf_11 rfl (by decide) rfl rfl ?_
  have hL : ∀ (u3 : Int) (z : St), itr (m_oddsOf_12 N v1 v2) (fun _ _ => none) N u3 z = some o → Rj X (mW G) 5 (qV X (mW G) o) 12 [(0, .ref ((mW G).h 0)), (1, vI v1), (2, vI v2), (3, vI u3)] [] z := itr_ind (m_oddsOf_12 N v1 v2) (fun _ _ => none) (fun k => ∀ (u3 : Int) (z : St), k u3 z = some o → Rj X (mW G) 5 (qV X (mW G) o) 12 [(0, .ref ((mW G).h 0)), (1, vI v1), (2, vI v2), (3, vI u3)] [] z) (fun _ _  h => by cases h) (fun k hk u3 z h => s_m_oddsOf_12 C hk h) N
  exact r_sub [1, 2, 3, 0] rfl (hL _ _  hf)
def m_odds (N : Nat) (v1 v2 v3 : Int) (s : St) : MM := bd (m_areTwo N v1 v2 s) (fun r3 s3 => if eq32 r3 0 then (some ((-9223372036854775808), s3)) else (bd (m_in N v3 0 1 s3) (fun r12 s12 => if eq32 r12 0 then (some ((-9223372036854775808), s12)) else (bd (m_oddsOf N v1 v2 s12) (fun r25 s25 => if eq32 v3 0 then (some (s25 0 22, s25)) else (some (s25 0 23, s25)))))))
abbrev rm_m_odds : Room := { frames := 8, cells := 0, slots := 0, locals := 192 }
theorem c_m_odds {l : Launch} {G : GG} (hi : wo_i (mW G)) {N : Nat} {v1 v2 v3 : Int} {s : St} {o : Int × St} (hf : m_odds N v1 v2 v3 s = some o) : CtL l (mW G) y_M_odds (wo y_M_odds prog_14_method_36_code 4 (some .long)) rm_m_odds [.ref ((mW G).h 0), vI v1, vI v2, vI v3] s o := by
  refine ct_L (by decide +kernel) hi (Nat.le_of_ble_eq_true rfl) fun X C => ?_
  unfold m_odds at hf
  show Rj X (mW G) 4 (qL X (mW G) o) 0 [(0, .ref ((mW G).h 0)), (1, vI v1), (2, vI v2), (3, vI v3)] [] s
  refine r_aload_n C (q := 1) 0 d_M_odds_0 rfl rfl rfl ?_
  refine r_iload_n C (q := 2) 1 d_M_odds_1 rfl rfl rfl ?_
  refine r_iload_n C (q := 3) 2 d_M_odds_2 rfl rfl rfl ?_
  obtain ⟨r3, s3, hg3, hf⟩ := bd_s hf
  refine r_cVI C (q := 6) (As := [vI v1, vI v2]) (k0 := 0) (c_m_areTwo C.i hg3) mt_M_areTwo ml_M_194 (Nat.le_of_ble_eq_true rfl) rfl rfl rfl rfl rfl rfl ⟨Nat.le_of_ble_eq_true rfl, Nat.le_of_ble_eq_true rfl⟩ rfl (Nat.le_of_ble_eq_true rfl) d_M_odds_3 rfl ?_
  refine r_if_eq C (t := 18) (q := 9) d_M_odds_6 (by decide) rfl (fun c6 => ?_) (fun c6 => ?_)
  · replace hf := ite_t c6 hf
    refine r_ldc2 C (q := 21) (x := (-9223372036854775808)) kc_M_215 rfl d_M_odds_18 rfl ?_
    exact r_lreturn C hf d_M_odds_21
  · replace hf := ite_f c6 hf
    refine r_iload_n C (q := 10) 3 d_M_odds_9 rfl rfl rfl ?_
    refine r_iconst C (q := 11) d_M_odds_10 rfl ?_
    refine r_iconst C (q := 12) d_M_odds_11 rfl ?_
    obtain ⟨r12, s12, hg12, hf⟩ := bd_s hf
    refine r_cSI C (q := 15) (As := [vI v3, vI 0, vI 1]) (c_m_in C.i hg12) mt_M_in ml_M_133 rfl rfl rfl ⟨Nat.le_of_ble_eq_true rfl, Nat.le_of_ble_eq_true rfl⟩ rfl (Nat.le_of_ble_eq_true rfl) d_M_odds_12 rfl ?_
    refine r_if_ne C (t := 22) (q := 18) d_M_odds_15 (by decide) rfl (fun c15 => ?_) (fun c15 => ?_)
    · replace hf := ite_t c15 hf
      refine r_ldc2 C (q := 21) (x := (-9223372036854775808)) kc_M_215 rfl d_M_odds_18 rfl ?_
      exact r_lreturn C hf d_M_odds_21
    · replace hf := ite_f c15 hf
      refine r_aload_n C (q := 23) 0 d_M_odds_22 rfl rfl rfl ?_
      refine r_iload_n C (q := 24) 1 d_M_odds_23 rfl rfl rfl ?_
      refine r_iload_n C (q := 25) 2 d_M_odds_24 rfl rfl rfl ?_
      obtain ⟨r25, s25, hg25, hf⟩ := bd_s hf
      refine r_cVV C (q := 28) (As := [vI v1, vI v2]) (k0 := 0) (c_m_oddsOf C.i hg25) mt_M_oddsOf ml_M_217 (Nat.le_of_ble_eq_true rfl) rfl rfl rfl rfl rfl rfl ⟨Nat.le_of_ble_eq_true rfl, Nat.le_of_ble_eq_true rfl⟩ rfl (Nat.le_of_ble_eq_true rfl) d_M_odds_25 rfl ?_
      refine r_iload_n C (q := 29) 3 d_M_odds_28 rfl rfl rfl ?_
      refine r_if_ne C (t := 39) (q := 32) d_M_odds_29 (by decide) rfl (fun c29 => ?_) (fun c29 => ?_)
      · replace hf := ite_t c29 hf
        refine r_aload_n C (q := 33) 0 d_M_odds_32 rfl rfl rfl ?_
        refine gxm_M_oddsTop C (q := 36) fl_M_204 d_M_odds_33 rfl ?_
        refine r_goto C (q := 43) d_M_odds_36 (by decide) ?_
        exact r_lreturn C hf d_M_odds_43
      · replace hf := ite_f c29 hf
        refine r_aload_n C (q := 40) 0 d_M_odds_39 rfl rfl rfl ?_
        refine gxm_M_oddsBottom C (q := 43) fl_M_208 d_M_odds_40 rfl ?_
        exact r_lreturn C hf d_M_odds_43
def m_belief_72 (N : Nat) (v7 : Int) (k72 : Int → Int → Int → St → MM) (v5 v9 v10 : Int) (s : St) : MM := if le32 6 v10 then (some (v9, s)) else (gd (¬ eq64 v7 0) (gd (¬ eq64 v7 0) (k72 ((v5 * 10) - dv64 (v5 * 10) v7 * v7) ((10 * v9) + (dv64 (v5 * 10) v7)) (v10 + 1) s)))
def m_belief (N : Nat) (v1 v2 v3 v4 : Int) (s : St) : MM := bd (m_areTwo N v1 v2 s) (fun r3 s3 => if eq32 r3 0 then (some ((-2), s3)) else (bd (m_in N v3 1 1000 s3) (fun r14 s14 => if eq32 r14 0 then (some ((-2), s14)) else (bd (m_in N v4 (v3 + 1) 100000 s14) (fun r27 s27 => if eq32 r27 0 then (some ((-2), s27)) else (bd (m_oddsOf N v1 v2 s27) (fun r39 s39 => itr (m_belief_72 N (((s32 v3) * (s39 0 22)) + ((s32 (v4 - v3)) * (s39 0 23)))) (fun _ _ _ _ => none) N ((s32 v3) * (s39 0 22)) 0 0 s39)))))))
abbrev rm_m_belief : Room := { frames := 8, cells := 0, slots := 0, locals := 192 }
theorem s_m_belief_72 {X : CxT} {l : Launch} {G : GG} (C : Cx X l (mW G) 11 prog_14_method_37_code "OneSelfModel" (wo y_M_belief prog_14_method_37_code 11 (some .int)) (some .int) rm_m_belief) {o : Int × St} {N : Nat} {v5 v7 v9 v10 : Int} {k72 : Int → Int → Int → St → MM} (hk72 : ∀ (u5 u9 u10 : Int) (s : St), k72 u5 u9 u10 s = some o → Rj X (mW G) 11 (qI X (mW G) o) 72 [(5, vJ u5), (7, vJ v7), (9, vI u9), (10, vI u10)] [] s) {s : St} (hf : m_belief_72 N v7 k72 v5 v9 v10 s = some o) : Rj X (mW G) 11 (qI X (mW G) o) 72 [(5, vJ v5), (7, vJ v7), (9, vI v9), (10, vI v10)] [] s := by
  unfold m_belief_72 at hf
  refine r_iload C (q := 74) 3 d_M_belief_72 rfl rfl ?_
  refine r_bipush C (q := 76) (x := 6) d_M_belief_74 rfl rfl ?_
  refine r_ic_ge C (t := 114) (q := 79) d_M_belief_76 (by decide) rfl (fun c76 => ?_) (fun c76 => ?_)
  · replace hf := ite_t c76 hf
    refine r_iload C (q := 116) 2 d_M_belief_114 rfl rfl ?_
    exact r_ireturn C hf d_M_belief_116
  · replace hf := ite_f c76 hf
    refine r_lload C (q := 81) 0 d_M_belief_79 rfl rfl ?_
    refine r_ldc2 C (q := 84) (x := 10) kc_M_221 rfl d_M_belief_81 rfl ?_
    refine r_lmul C (q := 85) d_M_belief_84 rfl ?_
    refine r_lstore C (q := 87) (lv' := [(5, vJ (v5 * 10)), (7, vJ v7), (9, vI v9), (10, vI v10)]) d_M_belief_85 (by decide) rfl rfl ?_
    refine r_bipush C (q := 89) (x := 10) d_M_belief_87 rfl rfl ?_
    refine r_iload C (q := 91) 2 d_M_belief_89 rfl rfl ?_
    refine r_imul C (q := 92) d_M_belief_91 rfl ?_
    refine r_lload C (q := 94) 0 d_M_belief_92 rfl rfl ?_
    refine r_lload C (q := 96) 1 d_M_belief_94 rfl rfl ?_
    obtain ⟨g96, hf⟩ := gd_s hf
    refine r_ldiv C (q := 97) g96 d_M_belief_96 rfl ?_
    refine r_l2i C (q := 98) d_M_belief_97 rfl ?_
    refine r_iadd C (q := 99) d_M_belief_98 rfl ?_
    refine r_istore C (q := 101) (lv' := [(9, vI ((10 * v9) + (dv64 (v5 * 10) v7))), (5, vJ (v5 * 10)), (7, vJ v7), (10, vI v10)]) d_M_belief_99 (by decide) rfl rfl ?_
    refine r_lload C (q := 103) 1 d_M_belief_101 rfl rfl ?_
    refine r_lload C (q := 105) 2 d_M_belief_103 rfl rfl ?_
    obtain ⟨g105, hf⟩ := gd_s hf
    refine r_lrem C (q := 106) g105 d_M_belief_105 rfl ?_
    refine r_lstore C (q := 108) (lv' := [(5, vJ ((v5 * 10) - dv64 (v5 * 10) v7 * v7)), (9, vI ((10 * v9) + (dv64 (v5 * 10) v7))), (7, vJ v7), (10, vI v10)]) d_M_belief_106 (by decide) rfl rfl ?_
    refine r_iinc C (q := 111) (lv' := [(10, vI (v10 + 1)), (5, vJ ((v5 * 10) - dv64 (v5 * 10) v7 * v7)), (9, vI ((10 * v9) + (dv64 (v5 * 10) v7))), (7, vJ v7)]) 3 d_M_belief_108 rfl (by decide) rfl rfl ?_
    refine r_goto C (q := 72) d_M_belief_111 (by decide) ?_
    exact r_sub [1, 3, 2, 0] rfl (hk72 _ _ _ _  hf)
theorem c_m_belief {l : Launch} {G : GG} (hi : wo_i (mW G)) {N : Nat} {v1 v2 v3 v4 : Int} {s : St} {o : Int × St} (hf : m_belief N v1 v2 v3 v4 s = some o) : CtI l (mW G) y_M_belief (wo y_M_belief prog_14_method_37_code 11 (some .int)) rm_m_belief [.ref ((mW G).h 0), vI v1, vI v2, vI v3, vI v4] s o := by
  refine ct_I (by decide +kernel) hi (Nat.le_of_ble_eq_true rfl) fun X C => ?_
  unfold m_belief at hf
  show Rj X (mW G) 11 (qI X (mW G) o) 0 [(0, .ref ((mW G).h 0)), (1, vI v1), (2, vI v2), (3, vI v3), (4, vI v4)] [] s
  refine r_aload_n C (q := 1) 0 d_M_belief_0 rfl rfl rfl ?_
  refine r_iload_n C (q := 2) 1 d_M_belief_1 rfl rfl rfl ?_
  refine r_iload_n C (q := 3) 2 d_M_belief_2 rfl rfl rfl ?_
  obtain ⟨r3, s3, hg3, hf⟩ := bd_s hf
  refine r_cVI C (q := 6) (As := [vI v1, vI v2]) (k0 := 0) (c_m_areTwo C.i hg3) mt_M_areTwo ml_M_194 (Nat.le_of_ble_eq_true rfl) rfl rfl rfl rfl rfl rfl ⟨Nat.le_of_ble_eq_true rfl, Nat.le_of_ble_eq_true rfl⟩ rfl (Nat.le_of_ble_eq_true rfl) d_M_belief_3 rfl ?_
  refine r_if_eq C (t := 33) (q := 9) d_M_belief_6 (by decide) rfl (fun c6 => ?_) (fun c6 => ?_)
  · replace hf := ite_t c6 hf
    refine r_bipush C (q := 35) (x := (-2)) d_M_belief_33 rfl rfl ?_
    exact r_ireturn C hf d_M_belief_35
  · replace hf := ite_f c6 hf
    refine r_iload_n C (q := 10) 3 d_M_belief_9 rfl rfl rfl ?_
    refine r_iconst C (q := 11) d_M_belief_10 rfl ?_
    refine r_sipush C (q := 14) (x := 1000) d_M_belief_11 rfl rfl ?_
    obtain ⟨r14, s14, hg14, hf⟩ := bd_s hf
    refine r_cSI C (q := 17) (As := [vI v3, vI 1, vI 1000]) (c_m_in C.i hg14) mt_M_in ml_M_133 rfl rfl rfl ⟨Nat.le_of_ble_eq_true rfl, Nat.le_of_ble_eq_true rfl⟩ rfl (Nat.le_of_ble_eq_true rfl) d_M_belief_14 rfl ?_
    refine r_if_eq C (t := 33) (q := 20) d_M_belief_17 (by decide) rfl (fun c17 => ?_) (fun c17 => ?_)
    · replace hf := ite_t c17 hf
      refine r_bipush C (q := 35) (x := (-2)) d_M_belief_33 rfl rfl ?_
      exact r_ireturn C hf d_M_belief_35
    · replace hf := ite_f c17 hf
      refine r_iload C (q := 22) 4 d_M_belief_20 rfl rfl ?_
      refine r_iload_n C (q := 23) 3 d_M_belief_22 rfl rfl rfl ?_
      refine r_iconst C (q := 24) d_M_belief_23 rfl ?_
      refine r_iadd C (q := 25) d_M_belief_24 rfl ?_
      refine r_ldc C (q := 27) (x := 100000) kc_M_220 rfl d_M_belief_25 rfl ?_
      obtain ⟨r27, s27, hg27, hf⟩ := bd_s hf
      refine r_cSI C (q := 30) (As := [vI v4, vI (v3 + 1), vI 100000]) (c_m_in C.i hg27) mt_M_in ml_M_133 rfl rfl rfl ⟨Nat.le_of_ble_eq_true rfl, Nat.le_of_ble_eq_true rfl⟩ rfl (Nat.le_of_ble_eq_true rfl) d_M_belief_27 rfl ?_
      refine r_if_ne C (t := 36) (q := 33) d_M_belief_30 (by decide) rfl (fun c30 => ?_) (fun c30 => ?_)
      · replace hf := ite_t c30 hf
        refine r_bipush C (q := 35) (x := (-2)) d_M_belief_33 rfl rfl ?_
        exact r_ireturn C hf d_M_belief_35
      · replace hf := ite_f c30 hf
        refine r_aload_n C (q := 37) 0 d_M_belief_36 rfl rfl rfl ?_
        refine r_iload_n C (q := 38) 1 d_M_belief_37 rfl rfl rfl ?_
        refine r_iload_n C (q := 39) 2 d_M_belief_38 rfl rfl rfl ?_
        obtain ⟨r39, s39, hg39, hf⟩ := bd_s hf
        refine r_cVV C (q := 42) (As := [vI v1, vI v2]) (k0 := 0) (c_m_oddsOf C.i hg39) mt_M_oddsOf ml_M_217 (Nat.le_of_ble_eq_true rfl) rfl rfl rfl rfl rfl rfl ⟨Nat.le_of_ble_eq_true rfl, Nat.le_of_ble_eq_true rfl⟩ rfl (Nat.le_of_ble_eq_true rfl) d_M_belief_39 rfl ?_
        refine r_iload_n C (q := 43) 3 d_M_belief_42 rfl rfl rfl ?_
        refine r_i2l C (q := 44) d_M_belief_43 rfl ?_
        refine r_aload_n C (q := 45) 0 d_M_belief_44 rfl rfl rfl ?_
        refine gxm_M_oddsTop C (q := 48) fl_M_204 d_M_belief_45 rfl ?_
        refine r_lmul C (q := 49) d_M_belief_48 rfl ?_
        refine r_lstore C (q := 51) (lv' := [(5, vJ ((s32 v3) * (s39 0 22))), (0, .ref ((mW G).h 0)), (1, vI v1), (2, vI v2), (3, vI v3), (4, vI v4)]) d_M_belief_49 (by decide) rfl rfl ?_
        refine r_lload C (q := 53) 0 d_M_belief_51 rfl rfl ?_
        refine r_iload C (q := 55) 5 d_M_belief_53 rfl rfl ?_
        refine r_iload_n C (q := 56) 4 d_M_belief_55 rfl rfl rfl ?_
        refine r_isub C (q := 57) d_M_belief_56 rfl ?_
        refine r_i2l C (q := 58) d_M_belief_57 rfl ?_
        refine r_aload_n C (q := 59) 1 d_M_belief_58 rfl rfl rfl ?_
        refine gxm_M_oddsBottom C (q := 62) fl_M_208 d_M_belief_59 rfl ?_
        refine r_lmul C (q := 63) d_M_belief_62 rfl ?_
        refine r_ladd C (q := 64) d_M_belief_63 rfl ?_
        refine r_lstore C (q := 66) (lv' := [(7, vJ (((s32 v3) * (s39 0 22)) + ((s32 (v4 - v3)) * (s39 0 23)))), (5, vJ ((s32 v3) * (s39 0 22))), (0, .ref ((mW G).h 0)), (1, vI v1), (2, vI v2), (3, vI v3), (4, vI v4)]) d_M_belief_64 (by decide) rfl rfl ?_
        refine r_iconst C (q := 67) d_M_belief_66 rfl ?_
        refine r_istore C (q := 69) (lv' := [(9, vI 0), (7, vJ (((s32 v3) * (s39 0 22)) + ((s32 (v4 - v3)) * (s39 0 23)))), (5, vJ ((s32 v3) * (s39 0 22))), (0, .ref ((mW G).h 0)), (1, vI v1), (2, vI v2), (3, vI v3), (4, vI v4)]) d_M_belief_67 (by decide) rfl rfl ?_
        refine r_iconst C (q := 70) d_M_belief_69 rfl ?_
        refine r_istore C (q := 72) (lv' := [(10, vI 0), (9, vI 0), (7, vJ (((s32 v3) * (s39 0 22)) + ((s32 (v4 - v3)) * (s39 0 23)))), (5, vJ ((s32 v3) * (s39 0 22))), (0, .ref ((mW G).h 0)), (1, vI v1), (2, vI v2), (3, vI v3), (4, vI v4)]) d_M_belief_70 (by decide) rfl rfl ?_
        have hL : ∀ (u5 u9 u10 : Int) (z : St), itr (m_belief_72 N (((s32 v3) * (s39 0 22)) + ((s32 (v4 - v3)) * (s39 0 23)))) (fun _ _ _ _ => none) N u5 u9 u10 z = some o → Rj X (mW G) 11 (qI X (mW G) o) 72 [(5, vJ u5), (7, vJ (((s32 v3) * (s39 0 22)) + ((s32 (v4 - v3)) * (s39 0 23)))), (9, vI u9), (10, vI u10)] [] z := itr_ind (m_belief_72 N (((s32 v3) * (s39 0 22)) + ((s32 (v4 - v3)) * (s39 0 23)))) (fun _ _ _ _ => none) (fun k => ∀ (u5 u9 u10 : Int) (z : St), k u5 u9 u10 z = some o → Rj X (mW G) 11 (qI X (mW G) o) 72 [(5, vJ u5), (7, vJ (((s32 v3) * (s39 0 22)) + ((s32 (v4 - v3)) * (s39 0 23)))), (9, vI u9), (10, vI u10)] [] z) (fun _ _ _ _  h => by cases h) (fun k hk u5 u9 u10 z h => s_m_belief_72 C hk h) N
        exact r_sub [3, 2, 1, 0] rfl (hL _ _ _ _  hf)
def m_line (N : Nat) (v1 : Int) (s : St) : MM := bd (m_in N v1 ((-400)) 400 s) (fun r7 s7 => if eq32 r7 0 then (some ((-1000), s7)) else (some (s7 0 24, su s7 0 24 v1)))
abbrev rm_m_line : Room := { frames := 1, cells := 0, slots := 0, locals := 22 }
theorem c_m_line {l : Launch} {G : GG} (hi : wo_i (mW G)) {N : Nat} {v1 : Int} {s : St} {o : Int × St} (hf : m_line N v1 s = some o) : CtI l (mW G) y_M_line (wo y_M_line prog_14_method_38_code 3 (some .int)) rm_m_line [.ref ((mW G).h 0), vI v1] s o := by
  refine ct_I (by decide +kernel) hi (Nat.le_of_ble_eq_true rfl) fun X C => ?_
  unfold m_line at hf
  show Rj X (mW G) 3 (qI X (mW G) o) 0 [(0, .ref ((mW G).h 0)), (1, vI v1)] [] s
  refine r_iload_n C (q := 1) 1 d_M_line_0 rfl rfl rfl ?_
  refine r_sipush C (q := 4) (x := (-400)) d_M_line_1 rfl rfl ?_
  refine r_sipush C (q := 7) (x := 400) d_M_line_4 rfl rfl ?_
  obtain ⟨r7, s7, hg7, hf⟩ := bd_s hf
  refine r_cSI C (q := 10) (As := [vI v1, vI ((-400)), vI 400]) (c_m_in C.i hg7) mt_M_in ml_M_133 rfl rfl rfl ⟨Nat.le_of_ble_eq_true rfl, Nat.le_of_ble_eq_true rfl⟩ rfl (Nat.le_of_ble_eq_true rfl) d_M_line_7 rfl ?_
  refine r_if_ne C (t := 17) (q := 13) d_M_line_10 (by decide) rfl (fun c10 => ?_) (fun c10 => ?_)
  · replace hf := ite_t c10 hf
    refine r_sipush C (q := 16) (x := (-1000)) d_M_line_13 rfl rfl ?_
    exact r_ireturn C hf d_M_line_16
  · replace hf := ite_f c10 hf
    refine r_aload_n C (q := 18) 0 d_M_line_17 rfl rfl rfl ?_
    refine gxm_M_lineNow C (q := 21) fl_M_62 d_M_line_18 rfl ?_
    refine r_istore_n C (q := 22) (lv' := [(2, vI (s7 0 24)), (0, .ref ((mW G).h 0)), (1, vI v1)]) d_M_line_21 rfl (by decide) rfl rfl ?_
    refine r_aload_n C (q := 23) 1 d_M_line_22 rfl rfl rfl ?_
    refine r_iload_n C (q := 24) 2 d_M_line_23 rfl rfl rfl ?_
    refine pxm_M_lineNow C (q := 27) fl_M_62 d_M_line_24 rfl ?_
    refine r_iload_n C (q := 28) 0 d_M_line_27 rfl rfl rfl ?_
    exact r_ireturn C hf d_M_line_28
def m_looks_95 (N : Nat) (k7 : Int → St → MM) (k17 : Int → St → MM) (v1 v2 t0 t1 : Int) (s : St) : MM := k17 (v2 + 1) (su s 0 26 (t1 + t0))
def m_looks_56 (N : Nat) (k7 : Int → St → MM) (k17 : Int → St → MM) (v1 v2 t0 : Int) (s : St) : MM := gd (inb ((36 * v1) + v2) 1296) (gd (bit1 t0) (gd (inb ((36 * v2) + v1) 1296) (gd (bit1 t0) (if eq32 t0 0 then (m_looks_95 N k7 k17 v1 v2 0 ((su (su s 17 ((36 * v1) + v2) t0) 17 ((36 * v2) + v1) t0) 0 26) (su (su s 17 ((36 * v1) + v2) t0) 17 ((36 * v2) + v1) t0)) else (m_looks_95 N k7 k17 v1 v2 1 ((su (su s 17 ((36 * v1) + v2) t0) 17 ((36 * v2) + v1) t0) 0 26) (su (su s 17 ((36 * v1) + v2) t0) 17 ((36 * v2) + v1) t0))))))
def m_looks_55 (N : Nat) (k7 : Int → St → MM) (k17 : Int → St → MM) (v1 v2 : Int) (s : St) : MM := m_looks_56 N k7 k17 v1 v2 0 s
def m_looks_17 (N : Nat) (k7 : Int → St → MM) (v1 : Int) (k17 : Int → St → MM) (v2 : Int) (s : St) : MM := if le32 v1 v2 then (k7 (v1 + 1) s) else (bd (m_isKnown N v1 s) (fun r24 s24 => if eq32 r24 0 then (m_looks_55 N k7 k17 v1 v2  s24) else (bd (m_isKnown N v2 s24) (fun r32 s32 => if eq32 r32 0 then (m_looks_55 N k7 k17 v1 v2  s32) else (bd (m_scoreOf N v1 v2 s32) (fun r41 s41 => if lt32 r41 (s41 0 24) then (m_looks_55 N k7 k17 v1 v2  s41) else (m_looks_56 N k7 k17 v1 v2 1 s41)))))))
def m_looks_7 (N : Nat) (k7 : Int → St → MM) (v1 : Int) (s : St) : MM := if le32 (s 0 1) v1 then (some (0, s)) else (itr (m_looks_17 N k7 v1) (fun _ _ => none) N 0 s)
def m_looks (N : Nat) (s : St) : MM := itr (m_looks_7 N ) (fun _ _ => none) N 0 (su s 0 26 0)
abbrev rm_m_looks : Room := { frames := 8, cells := 0, slots := 0, locals := 193 }
theorem s_m_looks_95 {X : CxT} {l : Launch} {G : GG} (C : Cx X l (mW G) 4 prog_14_method_39_code "OneSelfModel" (wo y_M_looks prog_14_method_39_code 4 none) none rm_m_looks) {o : Int × St} {N : Nat} {v1 v2 t0 t1 : Int} {k7 : Int → St → MM} (hk7 : ∀ (u1 : Int) (s : St), k7 u1 s = some o → Rj X (mW G) 4 (qV X (mW G) o) 7 [(0, .ref ((mW G).h 0)), (1, vI u1)] [] s) {k17 : Int → St → MM} (hk17 : ∀ (u2 : Int) (s : St), k17 u2 s = some o → Rj X (mW G) 4 (qV X (mW G) o) 17 [(0, .ref ((mW G).h 0)), (1, vI v1), (2, vI u2)] [] s) {s : St} (hf : m_looks_95 N k7 k17 v1 v2 t0 t1 s = some o) : Rj X (mW G) 4 (qV X (mW G) o) 95 [(0, .ref ((mW G).h 0)), (1, vI v1), (2, vI v2)] [vI t0, vI t1, .ref ((mW G).h 0)] s := by
  unfold m_looks_95 at hf
  refine r_iadd C (q := 96) d_M_looks_95 rfl ?_
  refine pxm_M_linkMany C (q := 99) fl_M_223 d_M_looks_96 rfl ?_
  refine r_iinc C (q := 102) (lv' := [(2, vI (v2 + 1)), (0, .ref ((mW G).h 0)), (1, vI v1)]) 2 d_M_looks_99 rfl (by decide) rfl rfl ?_
  refine r_goto C (q := 17) d_M_looks_102 (by decide) ?_
  exact r_sub [1, 2, 0] rfl (hk17 _ _  hf)
theorem s_m_looks_56 {X : CxT} {l : Launch} {G : GG} (C : Cx X l (mW G) 4 prog_14_method_39_code "OneSelfModel" (wo y_M_looks prog_14_method_39_code 4 none) none rm_m_looks) {o : Int × St} {N : Nat} {v1 v2 t0 : Int} {k7 : Int → St → MM} (hk7 : ∀ (u1 : Int) (s : St), k7 u1 s = some o → Rj X (mW G) 4 (qV X (mW G) o) 7 [(0, .ref ((mW G).h 0)), (1, vI u1)] [] s) {k17 : Int → St → MM} (hk17 : ∀ (u2 : Int) (s : St), k17 u2 s = some o → Rj X (mW G) 4 (qV X (mW G) o) 17 [(0, .ref ((mW G).h 0)), (1, vI v1), (2, vI u2)] [] s) {s : St} (hf : m_looks_56 N k7 k17 v1 v2 t0 s = some o) : Rj X (mW G) 4 (qV X (mW G) o) 56 [(0, .ref ((mW G).h 0)), (1, vI v1), (2, vI v2)] [vI t0] s := by
  unfold m_looks_56 at hf
  refine r_istore_n C (q := 57) (lv' := [(3, vI t0), (0, .ref ((mW G).h 0)), (1, vI v1), (2, vI v2)]) d_M_looks_56 rfl (by decide) rfl rfl ?_
  refine r_aload_n C (q := 58) 1 d_M_looks_57 rfl rfl rfl ?_
  refine gxm_M_isLink C (q := 61) fl_M_65 d_M_looks_58 rfl ?_
  refine r_bipush C (q := 63) (x := 36) d_M_looks_61 rfl rfl ?_
  refine r_iload_n C (q := 64) 2 d_M_looks_63 rfl rfl rfl ?_
  refine r_imul C (q := 65) d_M_looks_64 rfl ?_
  refine r_iload_n C (q := 66) 3 d_M_looks_65 rfl rfl rfl ?_
  refine r_iadd C (q := 67) d_M_looks_66 rfl ?_
  refine r_iload_n C (q := 68) 0 d_M_looks_67 rfl rfl rfl ?_
  obtain ⟨g68, hf⟩ := gd_s hf
  obtain ⟨b68, hf⟩ := gd_s hf
  refine r_zast C (q := 69) 17 (Nat.le_of_ble_eq_true rfl) (fun _ => rfl) 2 rfl g68 b68 (by decide) d_M_looks_68 rfl ?_
  refine r_aload_n C (q := 70) 1 d_M_looks_69 rfl rfl rfl ?_
  refine gxm_M_isLink C (q := 73) fl_M_65 d_M_looks_70 rfl ?_
  refine r_bipush C (q := 75) (x := 36) d_M_looks_73 rfl rfl ?_
  refine r_iload_n C (q := 76) 3 d_M_looks_75 rfl rfl rfl ?_
  refine r_imul C (q := 77) d_M_looks_76 rfl ?_
  refine r_iload_n C (q := 78) 2 d_M_looks_77 rfl rfl rfl ?_
  refine r_iadd C (q := 79) d_M_looks_78 rfl ?_
  refine r_iload_n C (q := 80) 0 d_M_looks_79 rfl rfl rfl ?_
  obtain ⟨g80, hf⟩ := gd_s hf
  obtain ⟨b80, hf⟩ := gd_s hf
  refine r_zast C (q := 81) 17 (Nat.le_of_ble_eq_true rfl) (fun _ => rfl) 2 rfl g80 b80 (by decide) d_M_looks_80 rfl ?_
  refine r_aload_n C (q := 82) 1 d_M_looks_81 rfl rfl rfl ?_
  refine r_dup C (q := 83) d_M_looks_82 rfl rfl ?_
  refine gxm_M_linkMany C (q := 86) fl_M_223 d_M_looks_83 rfl ?_
  refine r_iload_n C (q := 87) 0 d_M_looks_86 rfl rfl rfl ?_
  refine r_if_eq C (t := 94) (q := 90) d_M_looks_87 (by decide) rfl (fun c87 => ?_) (fun c87 => ?_)
  · replace hf := ite_t c87 hf
    refine r_iconst C (q := 95) d_M_looks_94 rfl ?_
    exact r_sub [1, 2, 3] rfl (s_m_looks_95 C hk7 hk17 hf)
  · replace hf := ite_f c87 hf
    refine r_iconst C (q := 91) d_M_looks_90 rfl ?_
    refine r_goto C (q := 95) d_M_looks_91 (by decide) ?_
    exact r_sub [1, 2, 3] rfl (s_m_looks_95 C hk7 hk17 hf)
theorem s_m_looks_55 {X : CxT} {l : Launch} {G : GG} (C : Cx X l (mW G) 4 prog_14_method_39_code "OneSelfModel" (wo y_M_looks prog_14_method_39_code 4 none) none rm_m_looks) {o : Int × St} {N : Nat} {v1 v2 : Int} {k7 : Int → St → MM} (hk7 : ∀ (u1 : Int) (s : St), k7 u1 s = some o → Rj X (mW G) 4 (qV X (mW G) o) 7 [(0, .ref ((mW G).h 0)), (1, vI u1)] [] s) {k17 : Int → St → MM} (hk17 : ∀ (u2 : Int) (s : St), k17 u2 s = some o → Rj X (mW G) 4 (qV X (mW G) o) 17 [(0, .ref ((mW G).h 0)), (1, vI v1), (2, vI u2)] [] s) {s : St} (hf : m_looks_55 N k7 k17 v1 v2 s = some o) : Rj X (mW G) 4 (qV X (mW G) o) 55 [(0, .ref ((mW G).h 0)), (1, vI v1), (2, vI v2)] [] s := by
  unfold m_looks_55 at hf
  refine r_iconst C (q := 56) d_M_looks_55 rfl ?_
  exact r_sub [0, 1, 2] rfl (s_m_looks_56 C hk7 hk17 hf)
theorem s_m_looks_17 {X : CxT} {l : Launch} {G : GG} (C : Cx X l (mW G) 4 prog_14_method_39_code "OneSelfModel" (wo y_M_looks prog_14_method_39_code 4 none) none rm_m_looks) {o : Int × St} {N : Nat} {v1 v2 : Int} {k7 : Int → St → MM} (hk7 : ∀ (u1 : Int) (s : St), k7 u1 s = some o → Rj X (mW G) 4 (qV X (mW G) o) 7 [(0, .ref ((mW G).h 0)), (1, vI u1)] [] s) {k17 : Int → St → MM} (hk17 : ∀ (u2 : Int) (s : St), k17 u2 s = some o → Rj X (mW G) 4 (qV X (mW G) o) 17 [(0, .ref ((mW G).h 0)), (1, vI v1), (2, vI u2)] [] s) {s : St} (hf : m_looks_17 N k7 v1 k17 v2 s = some o) : Rj X (mW G) 4 (qV X (mW G) o) 17 [(0, .ref ((mW G).h 0)), (1, vI v1), (2, vI v2)] [] s := by
  unfold m_looks_17 at hf
  refine r_iload_n C (q := 18) 2 d_M_looks_17 rfl rfl rfl ?_
  refine r_iload_n C (q := 19) 1 d_M_looks_18 rfl rfl rfl ?_
  refine r_ic_ge C (t := 105) (q := 22) d_M_looks_19 (by decide) rfl (fun c19 => ?_) (fun c19 => ?_)
  · replace hf := ite_t c19 hf
    refine r_iinc C (q := 108) (lv' := [(1, vI (v1 + 1)), (0, .ref ((mW G).h 0)), (2, vI v2)]) 1 d_M_looks_105 rfl (by decide) rfl rfl ?_
    refine r_goto C (q := 7) d_M_looks_108 (by decide) ?_
    exact r_sub [1, 0] rfl (hk7 _ _  hf)
  · replace hf := ite_f c19 hf
    refine r_aload_n C (q := 23) 0 d_M_looks_22 rfl rfl rfl ?_
    refine r_iload_n C (q := 24) 1 d_M_looks_23 rfl rfl rfl ?_
    obtain ⟨r24, s24, hg24, hf⟩ := bd_s hf
    refine r_cVI C (q := 27) (As := [vI v1]) (k0 := 0) (c_m_isKnown C.i hg24) mt_M_isKnown ml_M_151 (Nat.le_of_ble_eq_true rfl) rfl rfl rfl rfl rfl rfl ⟨Nat.le_of_ble_eq_true rfl, Nat.le_of_ble_eq_true rfl⟩ rfl (Nat.le_of_ble_eq_true rfl) d_M_looks_24 rfl ?_
    refine r_if_eq C (t := 55) (q := 30) d_M_looks_27 (by decide) rfl (fun c27 => ?_) (fun c27 => ?_)
    · replace hf := ite_t c27 hf
      exact r_sub [0, 1, 2] rfl (s_m_looks_55 C hk7 hk17 hf)
    · replace hf := ite_f c27 hf
      refine r_aload_n C (q := 31) 0 d_M_looks_30 rfl rfl rfl ?_
      refine r_iload_n C (q := 32) 2 d_M_looks_31 rfl rfl rfl ?_
      obtain ⟨r32, s32, hg32, hf⟩ := bd_s hf
      refine r_cVI C (q := 35) (As := [vI v2]) (k0 := 0) (c_m_isKnown C.i hg32) mt_M_isKnown ml_M_151 (Nat.le_of_ble_eq_true rfl) rfl rfl rfl rfl rfl rfl ⟨Nat.le_of_ble_eq_true rfl, Nat.le_of_ble_eq_true rfl⟩ rfl (Nat.le_of_ble_eq_true rfl) d_M_looks_32 rfl ?_
      refine r_if_eq C (t := 55) (q := 38) d_M_looks_35 (by decide) rfl (fun c35 => ?_) (fun c35 => ?_)
      · replace hf := ite_t c35 hf
        exact r_sub [0, 1, 2] rfl (s_m_looks_55 C hk7 hk17 hf)
      · replace hf := ite_f c35 hf
        refine r_aload_n C (q := 39) 0 d_M_looks_38 rfl rfl rfl ?_
        refine r_iload_n C (q := 40) 1 d_M_looks_39 rfl rfl rfl ?_
        refine r_iload_n C (q := 41) 2 d_M_looks_40 rfl rfl rfl ?_
        obtain ⟨r41, s41, hg41, hf⟩ := bd_s hf
        refine r_cVI C (q := 44) (As := [vI v1, vI v2]) (k0 := 0) (c_m_scoreOf C.i hg41) mt_M_scoreOf ml_M_201 (Nat.le_of_ble_eq_true rfl) rfl rfl rfl rfl rfl rfl ⟨Nat.le_of_ble_eq_true rfl, Nat.le_of_ble_eq_true rfl⟩ rfl (Nat.le_of_ble_eq_true rfl) d_M_looks_41 rfl ?_
        refine r_aload_n C (q := 45) 0 d_M_looks_44 rfl rfl rfl ?_
        refine gxm_M_lineNow C (q := 48) fl_M_62 d_M_looks_45 rfl ?_
        refine r_ic_lt C (t := 55) (q := 51) d_M_looks_48 (by decide) rfl (fun c48 => ?_) (fun c48 => ?_)
        · replace hf := ite_t c48 hf
          exact r_sub [0, 1, 2] rfl (s_m_looks_55 C hk7 hk17 hf)
        · replace hf := ite_f c48 hf
          refine r_iconst C (q := 52) d_M_looks_51 rfl ?_
          refine r_goto C (q := 56) d_M_looks_52 (by decide) ?_
          exact r_sub [0, 1, 2] rfl (s_m_looks_56 C hk7 hk17 hf)
theorem s_m_looks_7 {X : CxT} {l : Launch} {G : GG} (C : Cx X l (mW G) 4 prog_14_method_39_code "OneSelfModel" (wo y_M_looks prog_14_method_39_code 4 none) none rm_m_looks) {o : Int × St} {N : Nat} {v1 : Int} {k7 : Int → St → MM} (hk7 : ∀ (u1 : Int) (s : St), k7 u1 s = some o → Rj X (mW G) 4 (qV X (mW G) o) 7 [(0, .ref ((mW G).h 0)), (1, vI u1)] [] s) {s : St} (hf : m_looks_7 N  k7 v1 s = some o) : Rj X (mW G) 4 (qV X (mW G) o) 7 [(0, .ref ((mW G).h 0)), (1, vI v1)] [] s := by
  unfold m_looks_7 at hf
  refine r_iload_n C (q := 8) 1 d_M_looks_7 rfl rfl rfl ?_
  refine r_aload_n C (q := 9) 0 d_M_looks_8 rfl rfl rfl ?_
  refine gxm_M_rows C (q := 12) fl_M_130 d_M_looks_9 rfl ?_
  refine r_ic_ge C (t := 111) (q := 15) d_M_looks_12 (by decide) rfl (fun c12 => ?_) (fun c12 => ?_)
  · replace hf := ite_t c12 hf
    exact r_return C hf d_M_looks_111
  · replace hf := ite_f c12 hf
    refine r_iconst C (q := 16) d_M_looks_15 rfl ?_
    refine r_istore_n C (q := 17) (lv' := [(2, vI 0), (0, .ref ((mW G).h 0)), (1, vI v1)]) d_M_looks_16 rfl (by decide) rfl rfl ?_
    have hL : ∀ (u2 : Int) (z : St), itr (m_looks_17 N k7 v1) (fun _ _ => none) N u2 z = some o → Rj X (mW G) 4 (qV X (mW G) o) 17 [(0, .ref ((mW G).h 0)), (1, vI v1), (2, vI u2)] [] z := itr_ind (m_looks_17 N k7 v1) (fun _ _ => none) (fun k => ∀ (u2 : Int) (z : St), k u2 z = some o → Rj X (mW G) 4 (qV X (mW G) o) 17 [(0, .ref ((mW G).h 0)), (1, vI v1), (2, vI u2)] [] z) (fun _ _  h => by cases h) (fun k hk u2 z h => s_m_looks_17 C hk7 hk h) N
    exact r_sub [1, 2, 0] rfl (hL _ _  hf)
theorem c_m_looks {l : Launch} {G : GG} (hi : wo_i (mW G)) {N : Nat} {s : St} {o : Int × St} (hf : m_looks N s = some o) : CtV l (mW G) y_M_looks (wo y_M_looks prog_14_method_39_code 4 none) rm_m_looks [.ref ((mW G).h 0)] s o := by
  refine ct_V (by decide +kernel) hi (Nat.le_of_ble_eq_true rfl) fun X C => ?_
  unfold m_looks at hf
  show Rj X (mW G) 4 (qV X (mW G) o) 0 [(0, .ref ((mW G).h 0))] [] s
  refine r_aload_n C (q := 1) 0 d_M_looks_0 rfl rfl rfl ?_
  refine r_iconst C (q := 2) d_M_looks_1 rfl ?_
  refine pxm_M_linkMany C (q := 5) fl_M_223 d_M_looks_2 rfl ?_
  refine r_iconst C (q := 6) d_M_looks_5 rfl ?_
  refine r_istore_n C (q := 7) (lv' := [(1, vI 0), (0, .ref ((mW G).h 0))]) d_M_looks_6 rfl (by decide) rfl rfl ?_
  have hL : ∀ (u1 : Int) (z : St), itr (m_looks_7 N ) (fun _ _ => none) N u1 z = some o → Rj X (mW G) 4 (qV X (mW G) o) 7 [(0, .ref ((mW G).h 0)), (1, vI u1)] [] z := itr_ind (m_looks_7 N ) (fun _ _ => none) (fun k => ∀ (u1 : Int) (z : St), k u1 z = some o → Rj X (mW G) 4 (qV X (mW G) o) 7 [(0, .ref ((mW G).h 0)), (1, vI u1)] [] z) (fun _ _  h => by cases h) (fun k hk u1 z h => s_m_looks_7 C hk h) N
  exact r_sub [1, 0] rfl (hL _ _  hf)
def m_links (N : Nat) (s : St) : MM := bd (m_looks N s) (fun r1 s1 => some (s1 0 26, s1))
abbrev rm_m_links : Room := { frames := 9, cells := 0, slots := 0, locals := 216 }
theorem c_m_links {l : Launch} {G : GG} (hi : wo_i (mW G)) {N : Nat} {s : St} {o : Int × St} (hf : m_links N s = some o) : CtI l (mW G) y_M_links (wo y_M_links prog_14_method_40_code 1 (some .int)) rm_m_links [.ref ((mW G).h 0)] s o := by
  refine ct_I (by decide +kernel) hi (Nat.le_of_ble_eq_true rfl) fun X C => ?_
  unfold m_links at hf
  show Rj X (mW G) 1 (qI X (mW G) o) 0 [(0, .ref ((mW G).h 0))] [] s
  refine r_aload_n C (q := 1) 0 d_M_links_0 rfl rfl rfl ?_
  obtain ⟨r1, s1, hg1, hf⟩ := bd_s hf
  refine r_cVV C (q := 4) (As := []) (k0 := 0) (c_m_looks C.i hg1) mt_M_looks ml_M_226 (Nat.le_of_ble_eq_true rfl) rfl rfl rfl rfl rfl rfl ⟨Nat.le_of_ble_eq_true rfl, Nat.le_of_ble_eq_true rfl⟩ rfl (Nat.le_of_ble_eq_true rfl) d_M_links_1 rfl ?_
  refine r_aload_n C (q := 5) 0 d_M_links_4 rfl rfl rfl ?_
  refine gxm_M_linkMany C (q := 8) fl_M_223 d_M_links_5 rfl ?_
  exact r_ireturn C hf d_M_links_8
def m_areRegisters (N : Nat) (v0 v1 : Int) (s : St) : MM := bd (m_in N v0 0 2 s) (fun r3 s3 => if eq32 r3 0 then (some (0, s3)) else (bd (m_in N v1 0 2 s3) (fun r12 s12 => if eq32 r12 0 then (some (0, s12)) else (if eq32 v0 v1 then (some (0, s12)) else (some (1, s12))))))
abbrev rm_m_areRegisters : Room := { frames := 1, cells := 0, slots := 0, locals := 22 }
theorem c_m_areRegisters {l : Launch} {G : GG} (hi : wo_i (mW G)) {N : Nat} {v0 v1 : Int} {s : St} {o : Int × St} (hf : m_areRegisters N v0 v1 s = some o) : CtI l (mW G) y_M_areRegisters (wo y_M_areRegisters prog_14_method_44_code 2 (some .boolean)) rm_m_areRegisters [vI v0, vI v1] s o := by
  refine ct_I (by decide +kernel) hi (Nat.le_of_ble_eq_true rfl) fun X C => ?_
  unfold m_areRegisters at hf
  show Rj X (mW G) 2 (qI X (mW G) o) 0 [(0, vI v0), (1, vI v1)] [] s
  refine r_iload_n C (q := 1) 0 d_M_areRegisters_0 rfl rfl rfl ?_
  refine r_iconst C (q := 2) d_M_areRegisters_1 rfl ?_
  refine r_iconst C (q := 3) d_M_areRegisters_2 rfl ?_
  obtain ⟨r3, s3, hg3, hf⟩ := bd_s hf
  refine r_cSI C (q := 6) (As := [vI v0, vI 0, vI 2]) (c_m_in C.i hg3) mt_M_in ml_M_133 rfl rfl rfl ⟨Nat.le_of_ble_eq_true rfl, Nat.le_of_ble_eq_true rfl⟩ rfl (Nat.le_of_ble_eq_true rfl) d_M_areRegisters_3 rfl ?_
  refine r_if_eq C (t := 27) (q := 9) d_M_areRegisters_6 (by decide) rfl (fun c6 => ?_) (fun c6 => ?_)
  · replace hf := ite_t c6 hf
    refine r_iconst C (q := 28) d_M_areRegisters_27 rfl ?_
    exact r_zreturn C (by decide) hf d_M_areRegisters_28
  · replace hf := ite_f c6 hf
    refine r_iload_n C (q := 10) 1 d_M_areRegisters_9 rfl rfl rfl ?_
    refine r_iconst C (q := 11) d_M_areRegisters_10 rfl ?_
    refine r_iconst C (q := 12) d_M_areRegisters_11 rfl ?_
    obtain ⟨r12, s12, hg12, hf⟩ := bd_s hf
    refine r_cSI C (q := 15) (As := [vI v1, vI 0, vI 2]) (c_m_in C.i hg12) mt_M_in ml_M_133 rfl rfl rfl ⟨Nat.le_of_ble_eq_true rfl, Nat.le_of_ble_eq_true rfl⟩ rfl (Nat.le_of_ble_eq_true rfl) d_M_areRegisters_12 rfl ?_
    refine r_if_eq C (t := 27) (q := 18) d_M_areRegisters_15 (by decide) rfl (fun c15 => ?_) (fun c15 => ?_)
    · replace hf := ite_t c15 hf
      refine r_iconst C (q := 28) d_M_areRegisters_27 rfl ?_
      exact r_zreturn C (by decide) hf d_M_areRegisters_28
    · replace hf := ite_f c15 hf
      refine r_iload_n C (q := 19) 0 d_M_areRegisters_18 rfl rfl rfl ?_
      refine r_iload_n C (q := 20) 1 d_M_areRegisters_19 rfl rfl rfl ?_
      refine r_ic_eq C (t := 27) (q := 23) d_M_areRegisters_20 (by decide) rfl (fun c20 => ?_) (fun c20 => ?_)
      · replace hf := ite_t c20 hf
        refine r_iconst C (q := 28) d_M_areRegisters_27 rfl ?_
        exact r_zreturn C (by decide) hf d_M_areRegisters_28
      · replace hf := ite_f c20 hf
        refine r_iconst C (q := 24) d_M_areRegisters_23 rfl ?_
        refine r_goto C (q := 28) d_M_areRegisters_24 (by decide) ?_
        exact r_zreturn C (by decide) hf d_M_areRegisters_28
def m_knownOf_36 (N : Nat) (k4 : Int → Int → St → MM) (v1 v3 t0 t1 : Int) (s : St) : MM := k4 (t1 + t0) (v3 + 1) s
def m_knownOf_35 (N : Nat) (k4 : Int → Int → St → MM) (v1 v3 t0 : Int) (s : St) : MM := m_knownOf_36 N k4 v1 v3 0 t0 s
def m_knownOf_4 (N : Nat) (v1 : Int) (k4 : Int → Int → St → MM) (v2 v3 : Int) (s : St) : MM := if le32 (s 0 1) v3 then (some (v2, s)) else (bd (m_isKnown N v3 s) (fun r15 s15 => if eq32 r15 0 then (m_knownOf_35 N k4 v1 v3 v2 s15) else (gd (inb v3 36) (if eq32 (s15 1 v3) v1 then (m_knownOf_36 N k4 v1 v3 1 v2 s15) else (m_knownOf_35 N k4 v1 v3 v2 s15)))))
def m_knownOf (N : Nat) (v1 : Int) (s : St) : MM := itr (m_knownOf_4 N v1) (fun _ _ _ => none) N 0 0 s
abbrev rm_m_knownOf : Room := { frames := 1, cells := 0, slots := 0, locals := 22 }
theorem s_m_knownOf_36 {X : CxT} {l : Launch} {G : GG} (C : Cx X l (mW G) 4 prog_14_method_41_code "OneSelfModel" (wo y_M_knownOf prog_14_method_41_code 4 (some .int)) (some .int) rm_m_knownOf) {o : Int × St} {N : Nat} {v1 v3 t0 t1 : Int} {k4 : Int → Int → St → MM} (hk4 : ∀ (u2 u3 : Int) (s : St), k4 u2 u3 s = some o → Rj X (mW G) 4 (qI X (mW G) o) 4 [(0, .ref ((mW G).h 0)), (1, vI v1), (2, vI u2), (3, vI u3)] [] s) {s : St} (hf : m_knownOf_36 N k4 v1 v3 t0 t1 s = some o) : Rj X (mW G) 4 (qI X (mW G) o) 36 [(0, .ref ((mW G).h 0)), (1, vI v1), (3, vI v3)] [vI t0, vI t1] s := by
  unfold m_knownOf_36 at hf
  refine r_iadd C (q := 37) d_M_knownOf_36 rfl ?_
  refine r_istore_n C (q := 38) (lv' := [(2, vI (t1 + t0)), (0, .ref ((mW G).h 0)), (1, vI v1), (3, vI v3)]) d_M_knownOf_37 rfl (by decide) rfl rfl ?_
  refine r_iinc C (q := 41) (lv' := [(3, vI (v3 + 1)), (2, vI (t1 + t0)), (0, .ref ((mW G).h 0)), (1, vI v1)]) 3 d_M_knownOf_38 rfl (by decide) rfl rfl ?_
  refine r_goto C (q := 4) d_M_knownOf_41 (by decide) ?_
  exact r_sub [2, 3, 1, 0] rfl (hk4 _ _ _  hf)
theorem s_m_knownOf_35 {X : CxT} {l : Launch} {G : GG} (C : Cx X l (mW G) 4 prog_14_method_41_code "OneSelfModel" (wo y_M_knownOf prog_14_method_41_code 4 (some .int)) (some .int) rm_m_knownOf) {o : Int × St} {N : Nat} {v1 v3 t0 : Int} {k4 : Int → Int → St → MM} (hk4 : ∀ (u2 u3 : Int) (s : St), k4 u2 u3 s = some o → Rj X (mW G) 4 (qI X (mW G) o) 4 [(0, .ref ((mW G).h 0)), (1, vI v1), (2, vI u2), (3, vI u3)] [] s) {s : St} (hf : m_knownOf_35 N k4 v1 v3 t0 s = some o) : Rj X (mW G) 4 (qI X (mW G) o) 35 [(0, .ref ((mW G).h 0)), (1, vI v1), (3, vI v3)] [vI t0] s := by
  unfold m_knownOf_35 at hf
  refine r_iconst C (q := 36) d_M_knownOf_35 rfl ?_
  exact r_sub [0, 1, 2] rfl (s_m_knownOf_36 C hk4 hf)
theorem s_m_knownOf_4 {X : CxT} {l : Launch} {G : GG} (C : Cx X l (mW G) 4 prog_14_method_41_code "OneSelfModel" (wo y_M_knownOf prog_14_method_41_code 4 (some .int)) (some .int) rm_m_knownOf) {o : Int × St} {N : Nat} {v1 v2 v3 : Int} {k4 : Int → Int → St → MM} (hk4 : ∀ (u2 u3 : Int) (s : St), k4 u2 u3 s = some o → Rj X (mW G) 4 (qI X (mW G) o) 4 [(0, .ref ((mW G).h 0)), (1, vI v1), (2, vI u2), (3, vI u3)] [] s) {s : St} (hf : m_knownOf_4 N v1 k4 v2 v3 s = some o) : Rj X (mW G) 4 (qI X (mW G) o) 4 [(0, .ref ((mW G).h 0)), (1, vI v1), (2, vI v2), (3, vI v3)] [] s := by
  unfold m_knownOf_4 at hf
  refine r_iload_n C (q := 5) 3 d_M_knownOf_4 rfl rfl rfl ?_
  refine r_aload_n C (q := 6) 0 d_M_knownOf_5 rfl rfl rfl ?_
  refine gxm_M_rows C (q := 9) fl_M_130 d_M_knownOf_6 rfl ?_
  refine r_ic_ge C (t := 44) (q := 12) d_M_knownOf_9 (by decide) rfl (fun c9 => ?_) (fun c9 => ?_)
  · replace hf := ite_t c9 hf
    refine r_iload_n C (q := 45) 2 d_M_knownOf_44 rfl rfl rfl ?_
    exact r_ireturn C hf d_M_knownOf_45
  · replace hf := ite_f c9 hf
    refine r_iload_n C (q := 13) 2 d_M_knownOf_12 rfl rfl rfl ?_
    refine r_aload_n C (q := 14) 0 d_M_knownOf_13 rfl rfl rfl ?_
    refine r_iload_n C (q := 15) 3 d_M_knownOf_14 rfl rfl rfl ?_
    obtain ⟨r15, s15, hg15, hf⟩ := bd_s hf
    refine r_cVI C (q := 18) (As := [vI v3]) (k0 := 0) (c_m_isKnown C.i hg15) mt_M_isKnown ml_M_151 (Nat.le_of_ble_eq_true rfl) rfl rfl rfl rfl rfl rfl ⟨Nat.le_of_ble_eq_true rfl, Nat.le_of_ble_eq_true rfl⟩ rfl (Nat.le_of_ble_eq_true rfl) d_M_knownOf_15 rfl ?_
    refine r_if_eq C (t := 35) (q := 21) d_M_knownOf_18 (by decide) rfl (fun c18 => ?_) (fun c18 => ?_)
    · replace hf := ite_t c18 hf
      exact r_sub [0, 1, 3] rfl (s_m_knownOf_35 C hk4 hf)
    · replace hf := ite_f c18 hf
      refine r_aload_n C (q := 22) 0 d_M_knownOf_21 rfl rfl rfl ?_
      refine gxm_M_registerOf C (q := 25) fl_M_7 d_M_knownOf_22 rfl ?_
      refine r_iload_n C (q := 26) 3 d_M_knownOf_25 rfl rfl rfl ?_
      obtain ⟨g26, hf⟩ := gd_s hf
      refine r_iald C (q := 27) 1 (Nat.le_of_ble_eq_true rfl) (fun _ => rfl) 0 rfl g26 (by decide) d_M_knownOf_26 rfl ?_
      refine r_iload_n C (q := 28) 1 d_M_knownOf_27 rfl rfl rfl ?_
      refine r_ic_ne C (t := 35) (q := 31) d_M_knownOf_28 (by decide) rfl (fun c28 => ?_) (fun c28 => ?_)
      · replace hf := ite_t c28 hf
        refine r_iconst C (q := 32) d_M_knownOf_31 rfl ?_
        refine r_goto C (q := 36) d_M_knownOf_32 (by decide) ?_
        exact r_sub [0, 1, 3] rfl (s_m_knownOf_36 C hk4 hf)
      · replace hf := ite_f c28 hf
        exact r_sub [0, 1, 3] rfl (s_m_knownOf_35 C hk4 hf)
theorem c_m_knownOf {l : Launch} {G : GG} (hi : wo_i (mW G)) {N : Nat} {v1 : Int} {s : St} {o : Int × St} (hf : m_knownOf N v1 s = some o) : CtI l (mW G) y_M_knownOf (wo y_M_knownOf prog_14_method_41_code 4 (some .int)) rm_m_knownOf [.ref ((mW G).h 0), vI v1] s o := by
  refine ct_I (by decide +kernel) hi (Nat.le_of_ble_eq_true rfl) fun X C => ?_
  unfold m_knownOf at hf
  show Rj X (mW G) 4 (qI X (mW G) o) 0 [(0, .ref ((mW G).h 0)), (1, vI v1)] [] s
  refine r_iconst C (q := 1) d_M_knownOf_0 rfl ?_
  refine r_istore_n C (q := 2) (lv' := [(2, vI 0), (0, .ref ((mW G).h 0)), (1, vI v1)]) d_M_knownOf_1 rfl (by decide) rfl rfl ?_
  refine r_iconst C (q := 3) d_M_knownOf_2 rfl ?_
  refine r_istore_n C (q := 4) (lv' := [(3, vI 0), (2, vI 0), (0, .ref ((mW G).h 0)), (1, vI v1)]) d_M_knownOf_3 rfl (by decide) rfl rfl ?_
  have hL : ∀ (u2 u3 : Int) (z : St), itr (m_knownOf_4 N v1) (fun _ _ _ => none) N u2 u3 z = some o → Rj X (mW G) 4 (qI X (mW G) o) 4 [(0, .ref ((mW G).h 0)), (1, vI v1), (2, vI u2), (3, vI u3)] [] z := itr_ind (m_knownOf_4 N v1) (fun _ _ _ => none) (fun k => ∀ (u2 u3 : Int) (z : St), k u2 u3 z = some o → Rj X (mW G) 4 (qI X (mW G) o) 4 [(0, .ref ((mW G).h 0)), (1, vI v1), (2, vI u2), (3, vI u3)] [] z) (fun _ _ _  h => by cases h) (fun k hk u2 u3 z h => s_m_knownOf_4 C hk h) N
  exact r_sub [2, 3, 1, 0] rfl (hL _ _ _  hf)
def m_follows_129 (N : Nat) (k9 : Int → Int → St → MM) (k31 : Int → St → MM) (v1 v2 v3 t0 t1 : Int) (s : St) : MM := gd (inb t1 10) (k31 (v3 + (-1)) (su s 22 t1 t0))
def m_follows_123 (N : Nat) (k9 : Int → Int → St → MM) (k31 : Int → St → MM) (v1 v2 v3 t0 : Int) (s : St) : MM := gd (inb v2 10) (m_follows_129 N k9 k31 v1 v2 v3 (s 22 v2) t0 s)
def m_follows_62 (N : Nat) (k9 : Int → Int → St → MM) (k31 : Int → St → MM) (v1 v2 v3 t0 : Int) (s : St) : MM := if eq32 t0 0 then (m_follows_123 N k9 k31 v1 v2 v3 v2 s) else (gd (inb ((10 * v2) + v3) 100) (gd (inb ((1024 * (v2 + 1)) + (or32 v1 (sl32 1 v3))) 11264) (gd (inb ((1024 * v2) + v1) 11264) (if eq32 ((s 20 ((10 * v2) + v3)) + (s 21 ((1024 * (v2 + 1)) + (or32 v1 (sl32 1 v3))))) (s 21 ((1024 * v2) + v1)) then (m_follows_129 N k9 k31 v1 v2 v3 v3 v2 s) else (m_follows_123 N k9 k31 v1 v2 v3 v2 s)))))
def m_follows_61 (N : Nat) (k9 : Int → Int → St → MM) (k31 : Int → St → MM) (v1 v2 v3 : Int) (s : St) : MM := m_follows_62 N k9 k31 v1 v2 v3 0 s
def m_follows_181 (N : Nat) (k9 : Int → Int → St → MM) (v1 v2 t0 t1 : Int) (s : St) : MM := k9 v1 (v2 + 1) (su s 0 34 (t1 + t0))
def m_follows_159 (N : Nat) (k9 : Int → Int → St → MM) (v2 t0 t1 : Int) (s : St) : MM := gd (inb v2 10) (if eq32 (s 22 v2) ((-1)) then (m_follows_181 N k9 (or32 t1 t0) v2 0 (s 0 34) s) else (m_follows_181 N k9 (or32 t1 t0) v2 1 (s 0 34) s))
def m_follows_31 (N : Nat) (k9 : Int → Int → St → MM) (v1 v2 : Int) (k31 : Int → St → MM) (v3 : Int) (s : St) : MM := if lt32 v3 0 then (gd (inb v2 10) (if eq32 (s 22 v2) ((-1)) then (m_follows_159 N k9 v2 0 v1 s) else (gd (inb v2 10) (m_follows_159 N k9 v2 (sl32 1 (s 22 v2)) v1 s)))) else (gd (inb ((10 * v2) + v3) 100) (if le32 (s 20 ((10 * v2) + v3)) 0 then (m_follows_61 N k9 k31 v1 v2 v3  s) else (if eq32 (an32 (sr32 v1 v3) 1) 0 then (m_follows_62 N k9 k31 v1 v2 v3 1 s) else (m_follows_61 N k9 k31 v1 v2 v3  s))))
def m_follows_9 (N : Nat) (k9 : Int → Int → St → MM) (v1 v2 : Int) (s : St) : MM := if le32 (s 0 27) v2 then (some (0, s)) else (gd (inb v2 10) (itr (m_follows_31 N k9 v1 v2) (fun _ _ => none) N (((su s 22 v2 ((-1))) 0 28) - 1) (su s 22 v2 ((-1)))))
def m_follows (N : Nat) (s : St) : MM := itr (m_follows_9 N ) (fun _ _ _ => none) N 0 0 (su s 0 34 0)
abbrev rm_m_follows : Room := { frames := 0, cells := 0, slots := 0, locals := 0 }
theorem s_m_follows_129 {X : CxT} {l : Launch} {G : GG} (C : Cx X l (mW G) 5 prog_14_method_43_code "OneSelfModel" (wo y_M_follows prog_14_method_43_code 5 none) none rm_m_follows) {o : Int × St} {N : Nat} {v1 v2 v3 t0 t1 : Int} {k9 : Int → Int → St → MM} (hk9 : ∀ (u1 u2 : Int) (s : St), k9 u1 u2 s = some o → Rj X (mW G) 5 (qV X (mW G) o) 9 [(0, .ref ((mW G).h 0)), (1, vI u1), (2, vI u2)] [] s) {k31 : Int → St → MM} (hk31 : ∀ (u3 : Int) (s : St), k31 u3 s = some o → Rj X (mW G) 5 (qV X (mW G) o) 31 [(0, .ref ((mW G).h 0)), (1, vI v1), (2, vI v2), (3, vI u3)] [] s) {s : St} (hf : m_follows_129 N k9 k31 v1 v2 v3 t0 t1 s = some o) : Rj X (mW G) 5 (qV X (mW G) o) 129 [(0, .ref ((mW G).h 0)), (1, vI v1), (2, vI v2), (3, vI v3)] [vI t0, vI t1, .ref ((mW G).h 22)] s := by
  unfold m_follows_129 at hf
  obtain ⟨g129, hf⟩ := gd_s hf
  refine r_iast C (q := 130) 22 (Nat.le_of_ble_eq_true rfl) (fun _ => rfl) 0 rfl g129 (by decide) d_M_follows_129 rfl ?_
  refine r_iinc C (q := 133) (lv' := [(3, vI (v3 + (-1))), (0, .ref ((mW G).h 0)), (1, vI v1), (2, vI v2)]) 3 d_M_follows_130 rfl (by decide) rfl rfl ?_
  refine r_goto C (q := 31) d_M_follows_133 (by decide) ?_
  exact r_sub [1, 2, 3, 0] rfl (hk31 _ _  hf)
theorem s_m_follows_123 {X : CxT} {l : Launch} {G : GG} (C : Cx X l (mW G) 5 prog_14_method_43_code "OneSelfModel" (wo y_M_follows prog_14_method_43_code 5 none) none rm_m_follows) {o : Int × St} {N : Nat} {v1 v2 v3 t0 : Int} {k9 : Int → Int → St → MM} (hk9 : ∀ (u1 u2 : Int) (s : St), k9 u1 u2 s = some o → Rj X (mW G) 5 (qV X (mW G) o) 9 [(0, .ref ((mW G).h 0)), (1, vI u1), (2, vI u2)] [] s) {k31 : Int → St → MM} (hk31 : ∀ (u3 : Int) (s : St), k31 u3 s = some o → Rj X (mW G) 5 (qV X (mW G) o) 31 [(0, .ref ((mW G).h 0)), (1, vI v1), (2, vI v2), (3, vI u3)] [] s) {s : St} (hf : m_follows_123 N k9 k31 v1 v2 v3 t0 s = some o) : Rj X (mW G) 5 (qV X (mW G) o) 123 [(0, .ref ((mW G).h 0)), (1, vI v1), (2, vI v2), (3, vI v3)] [vI t0, .ref ((mW G).h 22)] s := by
  unfold m_follows_123 at hf
  refine r_aload_n C (q := 124) 0 d_M_follows_123 rfl rfl rfl ?_
  refine gxm_M_mates C (q := 127) fl_M_81 d_M_follows_124 rfl ?_
  refine r_iload_n C (q := 128) 2 d_M_follows_127 rfl rfl rfl ?_
  obtain ⟨g128, hf⟩ := gd_s hf
  refine r_iald C (q := 129) 22 (Nat.le_of_ble_eq_true rfl) (fun _ => rfl) 0 rfl g128 (by decide) d_M_follows_128 rfl ?_
  exact r_sub [0, 1, 2, 3] rfl (s_m_follows_129 C hk9 hk31 hf)
theorem s_m_follows_62 {X : CxT} {l : Launch} {G : GG} (C : Cx X l (mW G) 5 prog_14_method_43_code "OneSelfModel" (wo y_M_follows prog_14_method_43_code 5 none) none rm_m_follows) {o : Int × St} {N : Nat} {v1 v2 v3 t0 : Int} {k9 : Int → Int → St → MM} (hk9 : ∀ (u1 u2 : Int) (s : St), k9 u1 u2 s = some o → Rj X (mW G) 5 (qV X (mW G) o) 9 [(0, .ref ((mW G).h 0)), (1, vI u1), (2, vI u2)] [] s) {k31 : Int → St → MM} (hk31 : ∀ (u3 : Int) (s : St), k31 u3 s = some o → Rj X (mW G) 5 (qV X (mW G) o) 31 [(0, .ref ((mW G).h 0)), (1, vI v1), (2, vI v2), (3, vI u3)] [] s) {s : St} (hf : m_follows_62 N k9 k31 v1 v2 v3 t0 s = some o) : Rj X (mW G) 5 (qV X (mW G) o) 62 [(0, .ref ((mW G).h 0)), (1, vI v1), (2, vI v2), (3, vI v3)] [vI t0] s := by
  unfold m_follows_62 at hf
  refine r_istore C (q := 64) (lv' := [(4, vI t0), (0, .ref ((mW G).h 0)), (1, vI v1), (2, vI v2), (3, vI v3)]) d_M_follows_62 (by decide) rfl rfl ?_
  refine r_aload_n C (q := 65) 1 d_M_follows_64 rfl rfl rfl ?_
  refine gxm_M_mates C (q := 68) fl_M_81 d_M_follows_65 rfl ?_
  refine r_iload_n C (q := 69) 3 d_M_follows_68 rfl rfl rfl ?_
  refine r_iload C (q := 71) 0 d_M_follows_69 rfl rfl ?_
  refine r_if_eq C (t := 123) (q := 74) d_M_follows_71 (by decide) rfl (fun c71 => ?_) (fun c71 => ?_)
  · replace hf := ite_t c71 hf
    exact r_sub [1, 2, 3, 4] rfl (s_m_follows_123 C hk9 hk31 hf)
  · replace hf := ite_f c71 hf
    refine r_aload_n C (q := 75) 1 d_M_follows_74 rfl rfl rfl ?_
    refine gxm_M_worths C (q := 78) fl_M_75 d_M_follows_75 rfl ?_
    refine r_bipush C (q := 80) (x := 10) d_M_follows_78 rfl rfl ?_
    refine r_iload_n C (q := 81) 3 d_M_follows_80 rfl rfl rfl ?_
    refine r_imul C (q := 82) d_M_follows_81 rfl ?_
    refine r_iload_n C (q := 83) 4 d_M_follows_82 rfl rfl rfl ?_
    refine r_iadd C (q := 84) d_M_follows_83 rfl ?_
    obtain ⟨g84, hf⟩ := gd_s hf
    refine r_iald C (q := 85) 20 (Nat.le_of_ble_eq_true rfl) (fun _ => rfl) 0 rfl g84 (by decide) d_M_follows_84 rfl ?_
    refine r_aload_n C (q := 86) 1 d_M_follows_85 rfl rfl rfl ?_
    refine gxm_M_bests C (q := 89) fl_M_78 d_M_follows_86 rfl ?_
    refine r_sipush C (q := 92) (x := 1024) d_M_follows_89 rfl rfl ?_
    refine r_iload_n C (q := 93) 3 d_M_follows_92 rfl rfl rfl ?_
    refine r_iconst C (q := 94) d_M_follows_93 rfl ?_
    refine r_iadd C (q := 95) d_M_follows_94 rfl ?_
    refine r_imul C (q := 96) d_M_follows_95 rfl ?_
    refine r_iload_n C (q := 97) 2 d_M_follows_96 rfl rfl rfl ?_
    refine r_iconst C (q := 98) d_M_follows_97 rfl ?_
    refine r_iload_n C (q := 99) 4 d_M_follows_98 rfl rfl rfl ?_
    refine r_ishl C (q := 100) d_M_follows_99 rfl ?_
    refine r_ior C (q := 101) d_M_follows_100 rfl ?_
    refine r_iadd C (q := 102) d_M_follows_101 rfl ?_
    obtain ⟨g102, hf⟩ := gd_s hf
    refine r_iald C (q := 103) 21 (Nat.le_of_ble_eq_true rfl) (fun _ => rfl) 0 rfl g102 (by decide) d_M_follows_102 rfl ?_
    refine r_iadd C (q := 104) d_M_follows_103 rfl ?_
    refine r_aload_n C (q := 105) 1 d_M_follows_104 rfl rfl rfl ?_
    refine gxm_M_bests C (q := 108) fl_M_78 d_M_follows_105 rfl ?_
    refine r_sipush C (q := 111) (x := 1024) d_M_follows_108 rfl rfl ?_
    refine r_iload_n C (q := 112) 3 d_M_follows_111 rfl rfl rfl ?_
    refine r_imul C (q := 113) d_M_follows_112 rfl ?_
    refine r_iload_n C (q := 114) 2 d_M_follows_113 rfl rfl rfl ?_
    refine r_iadd C (q := 115) d_M_follows_114 rfl ?_
    obtain ⟨g115, hf⟩ := gd_s hf
    refine r_iald C (q := 116) 21 (Nat.le_of_ble_eq_true rfl) (fun _ => rfl) 0 rfl g115 (by decide) d_M_follows_115 rfl ?_
    refine r_ic_ne C (t := 123) (q := 119) d_M_follows_116 (by decide) rfl (fun c116 => ?_) (fun c116 => ?_)
    · replace hf := ite_t c116 hf
      refine r_iload_n C (q := 120) 4 d_M_follows_119 rfl rfl rfl ?_
      refine r_goto C (q := 129) d_M_follows_120 (by decide) ?_
      exact r_sub [1, 2, 3, 4] rfl (s_m_follows_129 C hk9 hk31 hf)
    · replace hf := ite_f c116 hf
      exact r_sub [1, 2, 3, 4] rfl (s_m_follows_123 C hk9 hk31 hf)
theorem s_m_follows_61 {X : CxT} {l : Launch} {G : GG} (C : Cx X l (mW G) 5 prog_14_method_43_code "OneSelfModel" (wo y_M_follows prog_14_method_43_code 5 none) none rm_m_follows) {o : Int × St} {N : Nat} {v1 v2 v3 : Int} {k9 : Int → Int → St → MM} (hk9 : ∀ (u1 u2 : Int) (s : St), k9 u1 u2 s = some o → Rj X (mW G) 5 (qV X (mW G) o) 9 [(0, .ref ((mW G).h 0)), (1, vI u1), (2, vI u2)] [] s) {k31 : Int → St → MM} (hk31 : ∀ (u3 : Int) (s : St), k31 u3 s = some o → Rj X (mW G) 5 (qV X (mW G) o) 31 [(0, .ref ((mW G).h 0)), (1, vI v1), (2, vI v2), (3, vI u3)] [] s) {s : St} (hf : m_follows_61 N k9 k31 v1 v2 v3 s = some o) : Rj X (mW G) 5 (qV X (mW G) o) 61 [(0, .ref ((mW G).h 0)), (1, vI v1), (2, vI v2), (3, vI v3)] [] s := by
  unfold m_follows_61 at hf
  refine r_iconst C (q := 62) d_M_follows_61 rfl ?_
  exact r_sub [0, 1, 2, 3] rfl (s_m_follows_62 C hk9 hk31 hf)
theorem s_m_follows_181 {X : CxT} {l : Launch} {G : GG} (C : Cx X l (mW G) 5 prog_14_method_43_code "OneSelfModel" (wo y_M_follows prog_14_method_43_code 5 none) none rm_m_follows) {o : Int × St} {N : Nat} {v1 v2 t0 t1 : Int} {k9 : Int → Int → St → MM} (hk9 : ∀ (u1 u2 : Int) (s : St), k9 u1 u2 s = some o → Rj X (mW G) 5 (qV X (mW G) o) 9 [(0, .ref ((mW G).h 0)), (1, vI u1), (2, vI u2)] [] s) {s : St} (hf : m_follows_181 N k9 v1 v2 t0 t1 s = some o) : Rj X (mW G) 5 (qV X (mW G) o) 181 [(0, .ref ((mW G).h 0)), (1, vI v1), (2, vI v2)] [vI t0, vI t1, .ref ((mW G).h 0)] s := by
  unfold m_follows_181 at hf
  refine r_iadd C (q := 182) d_M_follows_181 rfl ?_
  refine pxm_M_laidMany C (q := 185) fl_M_241 d_M_follows_182 rfl ?_
  refine r_iinc C (q := 188) (lv' := [(2, vI (v2 + 1)), (0, .ref ((mW G).h 0)), (1, vI v1)]) 2 d_M_follows_185 rfl (by decide) rfl rfl ?_
  refine r_goto C (q := 9) d_M_follows_188 (by decide) ?_
  exact r_sub [1, 2, 0] rfl (hk9 _ _ _  hf)
theorem s_m_follows_159 {X : CxT} {l : Launch} {G : GG} (C : Cx X l (mW G) 5 prog_14_method_43_code "OneSelfModel" (wo y_M_follows prog_14_method_43_code 5 none) none rm_m_follows) {o : Int × St} {N : Nat} {v2 t0 t1 : Int} {k9 : Int → Int → St → MM} (hk9 : ∀ (u1 u2 : Int) (s : St), k9 u1 u2 s = some o → Rj X (mW G) 5 (qV X (mW G) o) 9 [(0, .ref ((mW G).h 0)), (1, vI u1), (2, vI u2)] [] s) {s : St} (hf : m_follows_159 N k9 v2 t0 t1 s = some o) : Rj X (mW G) 5 (qV X (mW G) o) 159 [(0, .ref ((mW G).h 0)), (2, vI v2)] [vI t0, vI t1] s := by
  unfold m_follows_159 at hf
  refine r_ior C (q := 160) d_M_follows_159 rfl ?_
  refine r_istore_n C (q := 161) (lv' := [(1, vI (or32 t1 t0)), (0, .ref ((mW G).h 0)), (2, vI v2)]) d_M_follows_160 rfl (by decide) rfl rfl ?_
  refine r_aload_n C (q := 162) 1 d_M_follows_161 rfl rfl rfl ?_
  refine r_dup C (q := 163) d_M_follows_162 rfl rfl ?_
  refine gxm_M_laidMany C (q := 166) fl_M_241 d_M_follows_163 rfl ?_
  refine r_aload_n C (q := 167) 1 d_M_follows_166 rfl rfl rfl ?_
  refine gxm_M_mates C (q := 170) fl_M_81 d_M_follows_167 rfl ?_
  refine r_iload_n C (q := 171) 2 d_M_follows_170 rfl rfl rfl ?_
  obtain ⟨g171, hf⟩ := gd_s hf
  refine r_iald C (q := 172) 22 (Nat.le_of_ble_eq_true rfl) (fun _ => rfl) 0 rfl g171 (by decide) d_M_follows_171 rfl ?_
  refine r_iconst C (q := 173) d_M_follows_172 rfl ?_
  refine r_ic_ne C (t := 180) (q := 176) d_M_follows_173 (by decide) rfl (fun c173 => ?_) (fun c173 => ?_)
  · replace hf := ite_t c173 hf
    refine r_iconst C (q := 177) d_M_follows_176 rfl ?_
    refine r_goto C (q := 181) d_M_follows_177 (by decide) ?_
    exact r_sub [1, 0, 2] rfl (s_m_follows_181 C hk9 hf)
  · replace hf := ite_f c173 hf
    refine r_iconst C (q := 181) d_M_follows_180 rfl ?_
    exact r_sub [1, 0, 2] rfl (s_m_follows_181 C hk9 hf)
theorem s_m_follows_31 {X : CxT} {l : Launch} {G : GG} (C : Cx X l (mW G) 5 prog_14_method_43_code "OneSelfModel" (wo y_M_follows prog_14_method_43_code 5 none) none rm_m_follows) {o : Int × St} {N : Nat} {v1 v2 v3 : Int} {k9 : Int → Int → St → MM} (hk9 : ∀ (u1 u2 : Int) (s : St), k9 u1 u2 s = some o → Rj X (mW G) 5 (qV X (mW G) o) 9 [(0, .ref ((mW G).h 0)), (1, vI u1), (2, vI u2)] [] s) {k31 : Int → St → MM} (hk31 : ∀ (u3 : Int) (s : St), k31 u3 s = some o → Rj X (mW G) 5 (qV X (mW G) o) 31 [(0, .ref ((mW G).h 0)), (1, vI v1), (2, vI v2), (3, vI u3)] [] s) {s : St} (hf : m_follows_31 N k9 v1 v2 k31 v3 s = some o) : Rj X (mW G) 5 (qV X (mW G) o) 31 [(0, .ref ((mW G).h 0)), (1, vI v1), (2, vI v2), (3, vI v3)] [] s := by
  unfold m_follows_31 at hf
  refine r_iload_n C (q := 32) 3 d_M_follows_31 rfl rfl rfl ?_
  refine r_if_lt C (t := 136) (q := 35) d_M_follows_32 (by decide) rfl (fun c32 => ?_) (fun c32 => ?_)
  · replace hf := ite_t c32 hf
    refine r_iload_n C (q := 137) 1 d_M_follows_136 rfl rfl rfl ?_
    refine r_aload_n C (q := 138) 0 d_M_follows_137 rfl rfl rfl ?_
    refine gxm_M_mates C (q := 141) fl_M_81 d_M_follows_138 rfl ?_
    refine r_iload_n C (q := 142) 2 d_M_follows_141 rfl rfl rfl ?_
    obtain ⟨g142, hf⟩ := gd_s hf
    refine r_iald C (q := 143) 22 (Nat.le_of_ble_eq_true rfl) (fun _ => rfl) 0 rfl g142 (by decide) d_M_follows_142 rfl ?_
    refine r_iconst C (q := 144) d_M_follows_143 rfl ?_
    refine r_ic_ne C (t := 151) (q := 147) d_M_follows_144 (by decide) rfl (fun c144 => ?_) (fun c144 => ?_)
    · replace hf := ite_t c144 hf
      refine r_iconst C (q := 148) d_M_follows_147 rfl ?_
      refine r_goto C (q := 159) d_M_follows_148 (by decide) ?_
      exact r_sub [0, 2] rfl (s_m_follows_159 C hk9 hf)
    · replace hf := ite_f c144 hf
      refine r_iconst C (q := 152) d_M_follows_151 rfl ?_
      refine r_aload_n C (q := 153) 0 d_M_follows_152 rfl rfl rfl ?_
      refine gxm_M_mates C (q := 156) fl_M_81 d_M_follows_153 rfl ?_
      refine r_iload_n C (q := 157) 2 d_M_follows_156 rfl rfl rfl ?_
      obtain ⟨g157, hf⟩ := gd_s hf
      refine r_iald C (q := 158) 22 (Nat.le_of_ble_eq_true rfl) (fun _ => rfl) 0 rfl g157 (by decide) d_M_follows_157 rfl ?_
      refine r_ishl C (q := 159) d_M_follows_158 rfl ?_
      exact r_sub [0, 2] rfl (s_m_follows_159 C hk9 hf)
  · replace hf := ite_f c32 hf
    refine r_aload_n C (q := 36) 0 d_M_follows_35 rfl rfl rfl ?_
    refine gxm_M_worths C (q := 39) fl_M_75 d_M_follows_36 rfl ?_
    refine r_bipush C (q := 41) (x := 10) d_M_follows_39 rfl rfl ?_
    refine r_iload_n C (q := 42) 2 d_M_follows_41 rfl rfl rfl ?_
    refine r_imul C (q := 43) d_M_follows_42 rfl ?_
    refine r_iload_n C (q := 44) 3 d_M_follows_43 rfl rfl rfl ?_
    refine r_iadd C (q := 45) d_M_follows_44 rfl ?_
    obtain ⟨g45, hf⟩ := gd_s hf
    refine r_iald C (q := 46) 20 (Nat.le_of_ble_eq_true rfl) (fun _ => rfl) 0 rfl g45 (by decide) d_M_follows_45 rfl ?_
    refine r_if_le C (t := 61) (q := 49) d_M_follows_46 (by decide) rfl (fun c46 => ?_) (fun c46 => ?_)
    · replace hf := ite_t c46 hf
      exact r_sub [0, 1, 2, 3] rfl (s_m_follows_61 C hk9 hk31 hf)
    · replace hf := ite_f c46 hf
      refine r_iload_n C (q := 50) 1 d_M_follows_49 rfl rfl rfl ?_
      refine r_iload_n C (q := 51) 3 d_M_follows_50 rfl rfl rfl ?_
      refine r_ishr C (q := 52) d_M_follows_51 rfl ?_
      refine r_iconst C (q := 53) d_M_follows_52 rfl ?_
      refine r_iand C (q := 54) d_M_follows_53 rfl ?_
      refine r_if_ne C (t := 61) (q := 57) d_M_follows_54 (by decide) rfl (fun c54 => ?_) (fun c54 => ?_)
      · replace hf := ite_t c54 hf
        refine r_iconst C (q := 58) d_M_follows_57 rfl ?_
        refine r_goto C (q := 62) d_M_follows_58 (by decide) ?_
        exact r_sub [0, 1, 2, 3] rfl (s_m_follows_62 C hk9 hk31 hf)
      · replace hf := ite_f c54 hf
        exact r_sub [0, 1, 2, 3] rfl (s_m_follows_61 C hk9 hk31 hf)
theorem s_m_follows_9 {X : CxT} {l : Launch} {G : GG} (C : Cx X l (mW G) 5 prog_14_method_43_code "OneSelfModel" (wo y_M_follows prog_14_method_43_code 5 none) none rm_m_follows) {o : Int × St} {N : Nat} {v1 v2 : Int} {k9 : Int → Int → St → MM} (hk9 : ∀ (u1 u2 : Int) (s : St), k9 u1 u2 s = some o → Rj X (mW G) 5 (qV X (mW G) o) 9 [(0, .ref ((mW G).h 0)), (1, vI u1), (2, vI u2)] [] s) {s : St} (hf : m_follows_9 N  k9 v1 v2 s = some o) : Rj X (mW G) 5 (qV X (mW G) o) 9 [(0, .ref ((mW G).h 0)), (1, vI v1), (2, vI v2)] [] s := by
  unfold m_follows_9 at hf
  refine r_iload_n C (q := 10) 2 d_M_follows_9 rfl rfl rfl ?_
  refine r_aload_n C (q := 11) 0 d_M_follows_10 rfl rfl rfl ?_
  refine gxm_M_ofA C (q := 14) fl_M_232 d_M_follows_11 rfl ?_
  refine r_ic_ge C (t := 191) (q := 17) d_M_follows_14 (by decide) rfl (fun c14 => ?_) (fun c14 => ?_)
  · replace hf := ite_t c14 hf
    exact r_return C hf d_M_follows_191
  · replace hf := ite_f c14 hf
    refine r_aload_n C (q := 18) 0 d_M_follows_17 rfl rfl rfl ?_
    refine gxm_M_mates C (q := 21) fl_M_81 d_M_follows_18 rfl ?_
    refine r_iload_n C (q := 22) 2 d_M_follows_21 rfl rfl rfl ?_
    refine r_iconst C (q := 23) d_M_follows_22 rfl ?_
    obtain ⟨g23, hf⟩ := gd_s hf
    refine r_iast C (q := 24) 22 (Nat.le_of_ble_eq_true rfl) (fun _ => rfl) 0 rfl g23 (by decide) d_M_follows_23 rfl ?_
    refine r_aload_n C (q := 25) 0 d_M_follows_24 rfl rfl rfl ?_
    refine gxm_M_ofB C (q := 28) fl_M_235 d_M_follows_25 rfl ?_
    refine r_iconst C (q := 29) d_M_follows_28 rfl ?_
    refine r_isub C (q := 30) d_M_follows_29 rfl ?_
    refine r_istore_n C (q := 31) (lv' := [(3, vI (((su s 22 v2 ((-1))) 0 28) - 1)), (0, .ref ((mW G).h 0)), (1, vI v1), (2, vI v2)]) d_M_follows_30 rfl (by decide) rfl rfl ?_
    have hL : ∀ (u3 : Int) (z : St), itr (m_follows_31 N k9 v1 v2) (fun _ _ => none) N u3 z = some o → Rj X (mW G) 5 (qV X (mW G) o) 31 [(0, .ref ((mW G).h 0)), (1, vI v1), (2, vI v2), (3, vI u3)] [] z := itr_ind (m_follows_31 N k9 v1 v2) (fun _ _ => none) (fun k => ∀ (u3 : Int) (z : St), k u3 z = some o → Rj X (mW G) 5 (qV X (mW G) o) 31 [(0, .ref ((mW G).h 0)), (1, vI v1), (2, vI v2), (3, vI u3)] [] z) (fun _ _  h => by cases h) (fun k hk u3 z h => s_m_follows_31 C hk9 hk h) N
    exact r_sub [1, 2, 3, 0] rfl (hL _ _  hf)
theorem c_m_follows {l : Launch} {G : GG} (hi : wo_i (mW G)) {N : Nat} {s : St} {o : Int × St} (hf : m_follows N s = some o) : CtV l (mW G) y_M_follows (wo y_M_follows prog_14_method_43_code 5 none) rm_m_follows [.ref ((mW G).h 0)] s o := by
  refine ct_V (by decide +kernel) hi (Nat.le_of_ble_eq_true rfl) fun X C => ?_
  unfold m_follows at hf
  show Rj X (mW G) 5 (qV X (mW G) o) 0 [(0, .ref ((mW G).h 0))] [] s
  refine r_iconst C (q := 1) d_M_follows_0 rfl ?_
  refine r_istore_n C (q := 2) (lv' := [(1, vI 0), (0, .ref ((mW G).h 0))]) d_M_follows_1 rfl (by decide) rfl rfl ?_
  refine r_aload_n C (q := 3) 1 d_M_follows_2 rfl rfl rfl ?_
  refine r_iconst C (q := 4) d_M_follows_3 rfl ?_
  refine pxm_M_laidMany C (q := 7) fl_M_241 d_M_follows_4 rfl ?_
  refine r_iconst C (q := 8) d_M_follows_7 rfl ?_
  refine r_istore_n C (q := 9) (lv' := [(2, vI 0), (1, vI 0), (0, .ref ((mW G).h 0))]) d_M_follows_8 rfl (by decide) rfl rfl ?_
  have hL : ∀ (u1 u2 : Int) (z : St), itr (m_follows_9 N ) (fun _ _ _ => none) N u1 u2 z = some o → Rj X (mW G) 5 (qV X (mW G) o) 9 [(0, .ref ((mW G).h 0)), (1, vI u1), (2, vI u2)] [] z := itr_ind (m_follows_9 N ) (fun _ _ _ => none) (fun k => ∀ (u1 u2 : Int) (z : St), k u1 u2 z = some o → Rj X (mW G) 5 (qV X (mW G) o) 9 [(0, .ref ((mW G).h 0)), (1, vI u1), (2, vI u2)] [] z) (fun _ _ _  h => by cases h) (fun k hk u1 u2 z h => s_m_follows_9 C hk h) N
  exact r_sub [2, 1, 0] rfl (hL _ _ _  hf)
