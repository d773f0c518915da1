def m_lose (N : Nat) (v1 : Int) (s : St) : MM := bd (m_isSheet N v1 s) (fun r1 s1 => if eq32 r1 0 then (some ((-2), s1)) else (gd (inb v1 4) (if eq32 (s1 33 v1) 0 then (bd (m_meets N 1 s1) (fun r21 s21 => some (r21, s21))) else (gd (inb v1 4) (gd (inb v1 4) (some ((su s1 33 v1 0) 35 v1, su s1 33 v1 0)))))))
abbrev rm_m_lose : Room := { frames := 2, cells := 0, slots := 0, locals := 42 }
theorem c_m_lose {l : Launch} {G : GG} (hi : wo_i (mW G)) {N : Nat} {v1 : Int} {s : St} {o : Int × St} (hf : m_lose N v1 s = some o) : CtI l (mW G) y_M_lose (wo y_M_lose prog_14_method_76_code 2 (some .int)) rm_m_lose [.ref ((mW G).h 0), vI v1] s o := by
  refine ct_I (by decide +kernel) hi (Nat.le_of_ble_eq_true rfl) fun X C => ?_
  unfold m_lose at hf
  show Rj X (mW G) 2 (qI X (mW G) o) 0 [(0, .ref ((mW G).h 0)), (1, vI v1)] [] s
  refine r_iload_n C (q := 1) 1 d_M_lose_0 rfl rfl rfl ?_
  obtain ⟨r1, s1, hg1, hf⟩ := bd_s hf
  refine r_cSI C (q := 4) (As := [vI v1]) (c_m_isSheet C.i hg1) mt_M_isSheet ml_M_140 rfl rfl rfl ⟨Nat.le_of_ble_eq_true rfl, Nat.le_of_ble_eq_true rfl⟩ rfl (Nat.le_of_ble_eq_true rfl) d_M_lose_1 rfl ?_
  refine r_if_ne C (t := 10) (q := 7) d_M_lose_4 (by decide) rfl (fun c4 => ?_) (fun c4 => ?_)
  · replace hf := ite_t c4 hf
    refine r_bipush C (q := 9) (x := (-2)) d_M_lose_7 rfl rfl ?_
    exact r_ireturn C hf d_M_lose_9
  · replace hf := ite_f c4 hf
    refine r_aload_n C (q := 11) 0 d_M_lose_10 rfl rfl rfl ?_
    refine gxm_M_isThere C (q := 14) fl_M_115 d_M_lose_11 rfl ?_
    refine r_iload_n C (q := 15) 1 d_M_lose_14 rfl rfl rfl ?_
    obtain ⟨g15, hf⟩ := gd_s hf
    refine r_zald C (q := 16) 33 (Nat.le_of_ble_eq_true rfl) (fun _ => rfl) 2 rfl g15 (by decide) d_M_lose_15 rfl ?_
    refine r_if_ne C (t := 25) (q := 19) d_M_lose_16 (by decide) rfl (fun c16 => ?_) (fun c16 => ?_)
    · replace hf := ite_t c16 hf
      refine r_aload_n C (q := 20) 0 d_M_lose_19 rfl rfl rfl ?_
      refine r_iconst C (q := 21) d_M_lose_20 rfl ?_
      obtain ⟨r21, s21, hg21, hf⟩ := bd_s hf
      refine r_cVI C (q := 24) (As := [vI 1]) (k0 := 0) (c_m_meets C.i hg21) mt_M_meets ml_M_144 (Nat.le_of_ble_eq_true rfl) rfl rfl rfl rfl rfl rfl ⟨Nat.le_of_ble_eq_true rfl, Nat.le_of_ble_eq_true rfl⟩ rfl (Nat.le_of_ble_eq_true rfl) d_M_lose_21 rfl ?_
      exact r_ireturn C hf d_M_lose_24
    · replace hf := ite_f c16 hf
      refine r_aload_n C (q := 26) 0 d_M_lose_25 rfl rfl rfl ?_
      refine gxm_M_isThere C (q := 29) fl_M_115 d_M_lose_26 rfl ?_
      refine r_iload_n C (q := 30) 1 d_M_lose_29 rfl rfl rfl ?_
      refine r_iconst C (q := 31) d_M_lose_30 rfl ?_
      obtain ⟨g31, hf⟩ := gd_s hf
      refine r_zast C (q := 32) 33 (Nat.le_of_ble_eq_true rfl) (fun _ => rfl) 2 rfl g31 (by decide) (by decide) d_M_lose_31 rfl ?_
      refine r_aload_n C (q := 33) 0 d_M_lose_32 rfl rfl rfl ?_
      refine gxm_M_sizes C (q := 36) fl_M_121 d_M_lose_33 rfl ?_
      refine r_iload_n C (q := 37) 1 d_M_lose_36 rfl rfl rfl ?_
      obtain ⟨g37, hf⟩ := gd_s hf
      refine r_iald C (q := 38) 35 (Nat.le_of_ble_eq_true rfl) (fun _ => rfl) 0 rfl g37 (by decide) d_M_lose_37 rfl ?_
      exact r_ireturn C hf d_M_lose_38
def m_lacks (N : Nat) (v1 v2 v3 : Int) (s : St) : MM := gd (inb v1 4) (if eq32 (s 33 v1) 0 then (some (1, s)) else (gd (inb v1 4) (if eq32 (s 34 v1) v2 then (gd (inb v1 4) (bd (m_in N v3 0 ((s 35 v1) - 1) s) (fun r37 s37 => if eq32 r37 0 then (some (2, s37)) else (some (0, s37))))) else (some (3, s)))))
abbrev rm_m_lacks : Room := { frames := 1, cells := 0, slots := 0, locals := 22 }
theorem c_m_lacks {l : Launch} {G : GG} (hi : wo_i (mW G)) {N : Nat} {v1 v2 v3 : Int} {s : St} {o : Int × St} (hf : m_lacks N v1 v2 v3 s = some o) : CtI l (mW G) y_M_lacks (wo y_M_lacks prog_14_method_77_code 4 (some .int)) rm_m_lacks [.ref ((mW G).h 0), vI v1, vI v2, vI v3] s o := by
  refine ct_I (by decide +kernel) hi (Nat.le_of_ble_eq_true rfl) fun X C => ?_
  unfold m_lacks at hf
  show Rj X (mW G) 4 (qI X (mW G) o) 0 [(0, .ref ((mW G).h 0)), (1, vI v1), (2, vI v2), (3, vI v3)] [] s
  refine r_aload_n C (q := 1) 0 d_M_lacks_0 rfl rfl rfl ?_
  refine gxm_M_isThere C (q := 4) fl_M_115 d_M_lacks_1 rfl ?_
  refine r_iload_n C (q := 5) 1 d_M_lacks_4 rfl rfl rfl ?_
  obtain ⟨g5, hf⟩ := gd_s hf
  refine r_zald C (q := 6) 33 (Nat.le_of_ble_eq_true rfl) (fun _ => rfl) 2 rfl g5 (by decide) d_M_lacks_5 rfl ?_
  refine r_if_ne C (t := 13) (q := 9) d_M_lacks_6 (by decide) rfl (fun c6 => ?_) (fun c6 => ?_)
  · replace hf := ite_t c6 hf
    refine r_iconst C (q := 10) d_M_lacks_9 rfl ?_
    refine r_goto C (q := 48) d_M_lacks_10 (by decide) ?_
    exact r_ireturn C hf d_M_lacks_48
  · replace hf := ite_f c6 hf
    refine r_aload_n C (q := 14) 0 d_M_lacks_13 rfl rfl rfl ?_
    refine gxm_M_types C (q := 17) fl_M_118 d_M_lacks_14 rfl ?_
    refine r_iload_n C (q := 18) 1 d_M_lacks_17 rfl rfl rfl ?_
    obtain ⟨g18, hf⟩ := gd_s hf
    refine r_iald C (q := 19) 34 (Nat.le_of_ble_eq_true rfl) (fun _ => rfl) 0 rfl g18 (by decide) d_M_lacks_18 rfl ?_
    refine r_iload_n C (q := 20) 2 d_M_lacks_19 rfl rfl rfl ?_
    refine r_ic_eq C (t := 27) (q := 23) d_M_lacks_20 (by decide) rfl (fun c20 => ?_) (fun c20 => ?_)
    · replace hf := ite_t c20 hf
      refine r_iload_n C (q := 28) 3 d_M_lacks_27 rfl rfl rfl ?_
      refine r_iconst C (q := 29) d_M_lacks_28 rfl ?_
      refine r_aload_n C (q := 30) 0 d_M_lacks_29 rfl rfl rfl ?_
      refine gxm_M_sizes C (q := 33) fl_M_121 d_M_lacks_30 rfl ?_
      refine r_iload_n C (q := 34) 1 d_M_lacks_33 rfl rfl rfl ?_
      obtain ⟨g34, hf⟩ := gd_s hf
      refine r_iald C (q := 35) 35 (Nat.le_of_ble_eq_true rfl) (fun _ => rfl) 0 rfl g34 (by decide) d_M_lacks_34 rfl ?_
      refine r_iconst C (q := 36) d_M_lacks_35 rfl ?_
      refine r_isub C (q := 37) d_M_lacks_36 rfl ?_
      obtain ⟨r37, s37, hg37, hf⟩ := bd_s hf
      refine r_cSI C (q := 40) (As := [vI v3, vI 0, vI ((s 35 v1) - 1)]) (c_m_in C.i hg37) mt_M_in ml_M_133 rfl rfl rfl ⟨Nat.le_of_ble_eq_true rfl, Nat.le_of_ble_eq_true rfl⟩ rfl (Nat.le_of_ble_eq_true rfl) d_M_lacks_37 rfl ?_
      refine r_if_eq C (t := 47) (q := 43) d_M_lacks_40 (by decide) rfl (fun c40 => ?_) (fun c40 => ?_)
      · replace hf := ite_t c40 hf
        refine r_iconst C (q := 48) d_M_lacks_47 rfl ?_
        exact r_ireturn C hf d_M_lacks_48
      · replace hf := ite_f c40 hf
        refine r_iconst C (q := 44) d_M_lacks_43 rfl ?_
        refine r_goto C (q := 48) d_M_lacks_44 (by decide) ?_
        exact r_ireturn C hf d_M_lacks_48
    · replace hf := ite_f c20 hf
      refine r_iconst C (q := 24) d_M_lacks_23 rfl ?_
      refine r_goto C (q := 48) d_M_lacks_24 (by decide) ?_
      exact r_ireturn C hf d_M_lacks_48
def m_lay_40 (N : Nat) (t0 t1 : Int) (s : St) : MM := gd (inb t1 160) (some (0, su s 36 t1 t0))
def m_lay (N : Nat) (v1 v2 v3 : Int) (s : St) : MM := gd (inb v1 4) (if eq32 (s 34 v1) 0 then (m_lay_40 N  (i8 v3) ((40 * v1) + v2) s) else (gd (inb v1 4) (if eq32 (s 34 v1) 1 then (m_lay_40 N  (i16 v3) ((40 * v1) + v2) s) else (m_lay_40 N  v3 ((40 * v1) + v2) s))))
abbrev rm_m_lay : Room := { frames := 0, cells := 0, slots := 0, locals := 0 }
theorem s_m_lay_40 {X : CxT} {l : Launch} {G : GG} (C : Cx X l (mW G) 4 prog_14_method_78_code "OneSelfModel" (wo y_M_lay prog_14_method_78_code 4 none) none rm_m_lay) {o : Int × St} {N : Nat} {t0 t1 : Int} {s : St} (hf : m_lay_40 N t0 t1 s = some o) : Rj X (mW G) 4 (qV X (mW G) o) 40 [] [vI t0, vI t1, .ref ((mW G).h 36)] s := by
  unfold m_lay_40 at hf
  obtain ⟨g40, hf⟩ := gd_s hf
  refine r_iast C (q := 41) 36 (Nat.le_of_ble_eq_true rfl) (fun _ => rfl) 0 rfl g40 (by decide) d_M_lay_40 rfl ?_
  exact r_return C hf d_M_lay_41
theorem c_m_lay {l : Launch} {G : GG} (hi : wo_i (mW G)) {N : Nat} {v1 v2 v3 : Int} {s : St} {o : Int × St} (hf : m_lay N v1 v2 v3 s = some o) : CtV l (mW G) y_M_lay (wo y_M_lay prog_14_method_78_code 4 none) rm_m_lay [.ref ((mW G).h 0), vI v1, vI v2, vI v3] s o := by
  refine ct_V (by decide +kernel) hi (Nat.le_of_ble_eq_true rfl) fun X C => ?_
  unfold m_lay at hf
  show Rj X (mW G) 4 (qV X (mW G) o) 0 [(0, .ref ((mW G).h 0)), (1, vI v1), (2, vI v2), (3, vI v3)] [] s
  refine r_aload_n C (q := 1) 0 d_M_lay_0 rfl rfl rfl ?_
  refine gxm_M_items C (q := 4) fl_M_124 d_M_lay_1 rfl ?_
  refine r_bipush C (q := 6) (x := 40) d_M_lay_4 rfl rfl ?_
  refine r_iload_n C (q := 7) 1 d_M_lay_6 rfl rfl rfl ?_
  refine r_imul C (q := 8) d_M_lay_7 rfl ?_
  refine r_iload_n C (q := 9) 2 d_M_lay_8 rfl rfl rfl ?_
  refine r_iadd C (q := 10) d_M_lay_9 rfl ?_
  refine r_aload_n C (q := 11) 0 d_M_lay_10 rfl rfl rfl ?_
  refine gxm_M_types C (q := 14) fl_M_118 d_M_lay_11 rfl ?_
  refine r_iload_n C (q := 15) 1 d_M_lay_14 rfl rfl rfl ?_
  obtain ⟨g15, hf⟩ := gd_s hf
  refine r_iald C (q := 16) 34 (Nat.le_of_ble_eq_true rfl) (fun _ => rfl) 0 rfl g15 (by decide) d_M_lay_15 rfl ?_
  refine r_if_ne C (t := 24) (q := 19) d_M_lay_16 (by decide) rfl (fun c16 => ?_) (fun c16 => ?_)
  · replace hf := ite_t c16 hf
    refine r_iload_n C (q := 20) 3 d_M_lay_19 rfl rfl rfl ?_
    refine r_i2b C (q := 21) d_M_lay_20 rfl ?_
    refine r_goto C (q := 40) d_M_lay_21 (by decide) ?_
    exact r_sub [] rfl (s_m_lay_40 C hf)
  · replace hf := ite_f c16 hf
    refine r_aload_n C (q := 25) 0 d_M_lay_24 rfl rfl rfl ?_
    refine gxm_M_types C (q := 28) fl_M_118 d_M_lay_25 rfl ?_
    refine r_iload_n C (q := 29) 1 d_M_lay_28 rfl rfl rfl ?_
    obtain ⟨g29, hf⟩ := gd_s hf
    refine r_iald C (q := 30) 34 (Nat.le_of_ble_eq_true rfl) (fun _ => rfl) 0 rfl g29 (by decide) d_M_lay_29 rfl ?_
    refine r_iconst C (q := 31) d_M_lay_30 rfl ?_
    refine r_ic_ne C (t := 39) (q := 34) d_M_lay_31 (by decide) rfl (fun c31 => ?_) (fun c31 => ?_)
    · replace hf := ite_t c31 hf
      refine r_iload_n C (q := 35) 3 d_M_lay_34 rfl rfl rfl ?_
      refine r_i2s C (q := 36) d_M_lay_35 rfl ?_
      refine r_goto C (q := 40) d_M_lay_36 (by decide) ?_
      exact r_sub [] rfl (s_m_lay_40 C hf)
    · replace hf := ite_f c31 hf
      refine r_iload_n C (q := 40) 3 d_M_lay_39 rfl rfl rfl ?_
      exact r_sub [] rfl (s_m_lay_40 C hf)
def m_put (N : Nat) (v1 v2 v3 v4 : Int) (s : St) : MM := bd (m_isSheet N v1 s) (fun r1 s1 => if eq32 r1 0 then (some ((-2), s1)) else (bd (m_in N v2 0 2 s1) (fun r10 s10 => if eq32 r10 0 then (some ((-2), s10)) else (bd (m_lacks N v1 v2 v3 s10) (fun r23 s23 => if le32 r23 0 then (bd (m_lay N v1 v3 v4 s23) (fun r45 s45 => some (1, s45))) else (bd (m_meets N r23 s23) (fun r36 s36 => some (r36, s36))))))))
abbrev rm_m_put : Room := { frames := 2, cells := 0, slots := 0, locals := 45 }
theorem c_m_put {l : Launch} {G : GG} (hi : wo_i (mW G)) {N : Nat} {v1 v2 v3 v4 : Int} {s : St} {o : Int × St} (hf : m_put N v1 v2 v3 v4 s = some o) : CtI l (mW G) y_M_put (wo y_M_put prog_14_method_79_code 6 (some .int)) rm_m_put [.ref ((mW G).h 0), vI v1, vI v2, vI v3, vI v4] s o := by
  refine ct_I (by decide +kernel) hi (Nat.le_of_ble_eq_true rfl) fun X C => ?_
  unfold m_put at hf
  show Rj X (mW G) 6 (qI X (mW G) o) 0 [(0, .ref ((mW G).h 0)), (1, vI v1), (2, vI v2), (3, vI v3), (4, vI v4)] [] s
  refine r_iload_n C (q := 1) 1 d_M_put_0 rfl rfl rfl ?_
  obtain ⟨r1, s1, hg1, hf⟩ := bd_s hf
  refine r_cSI C (q := 4) (As := [vI v1]) (c_m_isSheet C.i hg1) mt_M_isSheet ml_M_140 rfl rfl rfl ⟨Nat.le_of_ble_eq_true rfl, Nat.le_of_ble_eq_true rfl⟩ rfl (Nat.le_of_ble_eq_true rfl) d_M_put_1 rfl ?_
  refine r_if_eq C (t := 16) (q := 7) d_M_put_4 (by decide) rfl (fun c4 => ?_) (fun c4 => ?_)
  · replace hf := ite_t c4 hf
    refine r_bipush C (q := 18) (x := (-2)) d_M_put_16 rfl rfl ?_
    exact r_ireturn C hf d_M_put_18
  · replace hf := ite_f c4 hf
    refine r_iload_n C (q := 8) 2 d_M_put_7 rfl rfl rfl ?_
    refine r_iconst C (q := 9) d_M_put_8 rfl ?_
    refine r_iconst C (q := 10) d_M_put_9 rfl ?_
    obtain ⟨r10, s10, hg10, hf⟩ := bd_s hf
    refine r_cSI C (q := 13) (As := [vI v2, vI 0, vI 2]) (c_m_in C.i hg10) mt_M_in ml_M_133 rfl rfl rfl ⟨Nat.le_of_ble_eq_true rfl, Nat.le_of_ble_eq_true rfl⟩ rfl (Nat.le_of_ble_eq_true rfl) d_M_put_10 rfl ?_
    refine r_if_ne C (t := 19) (q := 16) d_M_put_13 (by decide) rfl (fun c13 => ?_) (fun c13 => ?_)
    · replace hf := ite_t c13 hf
      refine r_bipush C (q := 18) (x := (-2)) d_M_put_16 rfl rfl ?_
      exact r_ireturn C hf d_M_put_18
    · replace hf := ite_f c13 hf
      refine r_aload_n C (q := 20) 0 d_M_put_19 rfl rfl rfl ?_
      refine r_iload_n C (q := 21) 1 d_M_put_20 rfl rfl rfl ?_
      refine r_iload_n C (q := 22) 2 d_M_put_21 rfl rfl rfl ?_
      refine r_iload_n C (q := 23) 3 d_M_put_22 rfl rfl rfl ?_
      obtain ⟨r23, s23, hg23, hf⟩ := bd_s hf
      refine r_cVI C (q := 26) (As := [vI v1, vI v2, vI v3]) (k0 := 0) (c_m_lacks C.i hg23) mt_M_lacks ml_M_304 (Nat.le_of_ble_eq_true rfl) rfl rfl rfl rfl rfl rfl ⟨Nat.le_of_ble_eq_true rfl, Nat.le_of_ble_eq_true rfl⟩ rfl (Nat.le_of_ble_eq_true rfl) d_M_put_23 rfl ?_
      refine r_istore C (q := 28) (lv' := [(5, vI r23), (0, .ref ((mW G).h 0)), (1, vI v1), (2, vI v2), (3, vI v3), (4, vI v4)]) d_M_put_26 (by decide) rfl rfl ?_
      refine r_iload C (q := 30) 0 d_M_put_28 rfl rfl ?_
      refine r_if_le C (t := 40) (q := 33) d_M_put_30 (by decide) rfl (fun c30 => ?_) (fun c30 => ?_)
      · replace hf := ite_t c30 hf
        refine r_aload_n C (q := 41) 1 d_M_put_40 rfl rfl rfl ?_
        refine r_iload_n C (q := 42) 2 d_M_put_41 rfl rfl rfl ?_
        refine r_iload_n C (q := 43) 4 d_M_put_42 rfl rfl rfl ?_
        refine r_iload C (q := 45) 5 d_M_put_43 rfl rfl ?_
        obtain ⟨r45, s45, hg45, hf⟩ := bd_s hf
        refine r_cVV C (q := 48) (As := [vI v1, vI v3, vI v4]) (k0 := 0) (c_m_lay C.i hg45) mt_M_lay ml_M_307 (Nat.le_of_ble_eq_true rfl) rfl rfl rfl rfl rfl rfl ⟨Nat.le_of_ble_eq_true rfl, Nat.le_of_ble_eq_true rfl⟩ rfl (Nat.le_of_ble_eq_true rfl) d_M_put_45 rfl ?_
        refine r_iconst C (q := 49) d_M_put_48 rfl ?_
        exact r_ireturn C hf d_M_put_49
      · replace hf := ite_f c30 hf
        refine r_aload_n C (q := 34) 1 d_M_put_33 rfl rfl rfl ?_
        refine r_iload C (q := 36) 0 d_M_put_34 rfl rfl ?_
        obtain ⟨r36, s36, hg36, hf⟩ := bd_s hf
        refine r_cVI C (q := 39) (As := [vI r23]) (k0 := 0) (c_m_meets C.i hg36) mt_M_meets ml_M_144 (Nat.le_of_ble_eq_true rfl) rfl rfl rfl rfl rfl rfl ⟨Nat.le_of_ble_eq_true rfl, Nat.le_of_ble_eq_true rfl⟩ rfl (Nat.le_of_ble_eq_true rfl) d_M_put_36 rfl ?_
        exact r_ireturn C hf d_M_put_39
def m_get (N : Nat) (v1 v2 v3 : Int) (s : St) : MM := bd (m_isSheet N v1 s) (fun r1 s1 => if eq32 r1 0 then (some ((-2147483648), s1)) else (bd (m_in N v2 0 2 s1) (fun r10 s10 => if eq32 r10 0 then (some ((-2147483648), s10)) else (bd (m_lacks N v1 v2 v3 s10) (fun r24 s24 => if le32 r24 0 then (gd (inb ((40 * v1) + v3) 160) (some (s24 36 ((40 * v1) + v3), s24))) else (some ((-2147483648), su s24 0 51 r24)))))))
abbrev rm_m_get : Room := { frames := 2, cells := 0, slots := 0, locals := 45 }
theorem c_m_get {l : Launch} {G : GG} (hi : wo_i (mW G)) {N : Nat} {v1 v2 v3 : Int} {s : St} {o : Int × St} (hf : m_get N v1 v2 v3 s = some o) : CtI l (mW G) y_M_get (wo y_M_get prog_14_method_80_code 5 (some .int)) rm_m_get [.ref ((mW G).h 0), vI v1, vI v2, vI v3] s o := by
  refine ct_I (by decide +kernel) hi (Nat.le_of_ble_eq_true rfl) fun X C => ?_
  unfold m_get at hf
  show Rj X (mW G) 5 (qI X (mW G) o) 0 [(0, .ref ((mW G).h 0)), (1, vI v1), (2, vI v2), (3, vI v3)] [] s
  refine r_iload_n C (q := 1) 1 d_M_get_0 rfl rfl rfl ?_
  obtain ⟨r1, s1, hg1, hf⟩ := bd_s hf
  refine r_cSI C (q := 4) (As := [vI v1]) (c_m_isSheet C.i hg1) mt_M_isSheet ml_M_140 rfl rfl rfl ⟨Nat.le_of_ble_eq_true rfl, Nat.le_of_ble_eq_true rfl⟩ rfl (Nat.le_of_ble_eq_true rfl) d_M_get_1 rfl ?_
  refine r_if_eq C (t := 16) (q := 7) d_M_get_4 (by decide) rfl (fun c4 => ?_) (fun c4 => ?_)
  · replace hf := ite_t c4 hf
    refine r_ldcw C (q := 19) (x := (-2147483648)) kc_M_311 rfl d_M_get_16 rfl ?_
    exact r_ireturn C hf d_M_get_19
  · replace hf := ite_f c4 hf
    refine r_iload_n C (q := 8) 2 d_M_get_7 rfl rfl rfl ?_
    refine r_iconst C (q := 9) d_M_get_8 rfl ?_
    refine r_iconst C (q := 10) d_M_get_9 rfl ?_
    obtain ⟨r10, s10, hg10, hf⟩ := bd_s hf
    refine r_cSI C (q := 13) (As := [vI v2, vI 0, vI 2]) (c_m_in C.i hg10) mt_M_in ml_M_133 rfl rfl rfl ⟨Nat.le_of_ble_eq_true rfl, Nat.le_of_ble_eq_true rfl⟩ rfl (Nat.le_of_ble_eq_true rfl) d_M_get_10 rfl ?_
    refine r_if_ne C (t := 20) (q := 16) d_M_get_13 (by decide) rfl (fun c13 => ?_) (fun c13 => ?_)
    · replace hf := ite_t c13 hf
      refine r_ldcw C (q := 19) (x := (-2147483648)) kc_M_311 rfl d_M_get_16 rfl ?_
      exact r_ireturn C hf d_M_get_19
    · replace hf := ite_f c13 hf
      refine r_aload_n C (q := 21) 0 d_M_get_20 rfl rfl rfl ?_
      refine r_iload_n C (q := 22) 1 d_M_get_21 rfl rfl rfl ?_
      refine r_iload_n C (q := 23) 2 d_M_get_22 rfl rfl rfl ?_
      refine r_iload_n C (q := 24) 3 d_M_get_23 rfl rfl rfl ?_
      obtain ⟨r24, s24, hg24, hf⟩ := bd_s hf
      refine r_cVI C (q := 27) (As := [vI v1, vI v2, vI v3]) (k0 := 0) (c_m_lacks C.i hg24) mt_M_lacks ml_M_304 (Nat.le_of_ble_eq_true rfl) rfl rfl rfl rfl rfl rfl ⟨Nat.le_of_ble_eq_true rfl, Nat.le_of_ble_eq_true rfl⟩ rfl (Nat.le_of_ble_eq_true rfl) d_M_get_24 rfl ?_
      refine r_istore C (q := 29) (lv' := [(4, vI r24), (0, .ref ((mW G).h 0)), (1, vI v1), (2, vI v2), (3, vI v3)]) d_M_get_27 (by decide) rfl rfl ?_
      refine r_iload C (q := 31) 0 d_M_get_29 rfl rfl ?_
      refine r_if_le C (t := 44) (q := 34) d_M_get_31 (by decide) rfl (fun c31 => ?_) (fun c31 => ?_)
      · replace hf := ite_t c31 hf
        refine r_aload_n C (q := 45) 1 d_M_get_44 rfl rfl rfl ?_
        refine gxm_M_items C (q := 48) fl_M_124 d_M_get_45 rfl ?_
        refine r_bipush C (q := 50) (x := 40) d_M_get_48 rfl rfl ?_
        refine r_iload_n C (q := 51) 2 d_M_get_50 rfl rfl rfl ?_
        refine r_imul C (q := 52) d_M_get_51 rfl ?_
        refine r_iload_n C (q := 53) 4 d_M_get_52 rfl rfl rfl ?_
        refine r_iadd C (q := 54) d_M_get_53 rfl ?_
        obtain ⟨g54, hf⟩ := gd_s hf
        refine r_iald C (q := 55) 36 (Nat.le_of_ble_eq_true rfl) (fun _ => rfl) 0 rfl g54 (by decide) d_M_get_54 rfl ?_
        exact r_ireturn C hf d_M_get_55
      · replace hf := ite_f c31 hf
        refine r_aload_n C (q := 35) 1 d_M_get_34 rfl rfl rfl ?_
        refine r_iload C (q := 37) 0 d_M_get_35 rfl rfl ?_
        refine pxm_M_finding C (q := 40) fl_M_301 d_M_get_37 rfl ?_
        refine r_ldcw C (q := 43) (x := (-2147483648)) kc_M_311 rfl d_M_get_40 rfl ?_
        exact r_ireturn C hf d_M_get_43
def m_copy_35 (N : Nat) (s : St) : MM := bd (m_meets N 1 s) (fun r37 s37 => some (r37, s37))
def m_copy_111 (N : Nat) (s : St) : MM := bd (m_meets N 2 s) (fun r113 s113 => some (r113, s113))
def m_copy_157 (N : Nat) (v3 v4 v5 : Int) (k157 : Int → St → MM) (v6 : Int) (s : St) : MM := if le32 v5 v6 then (some (1, s)) else (gd (inb v6 40) (gd (inb (((40 * v3) + v4) + v6) 160) (k157 (v6 + 1) (su s 36 (((40 * v3) + v4) + v6) (s 37 v6)))))
def m_copy_120 (N : Nat) (v1 v2 v3 v4 v5 : Int) (k120 : Int → St → MM) (v6 : Int) (s : St) : MM := if le32 v5 v6 then (itr (m_copy_157 N v3 v4 v5) (fun _ _ => none) N 0 s) else (gd (inb (((40 * v1) + v2) + v6) 160) (gd (inb v6 40) (k120 (v6 + 1) (su s 37 v6 (s 36 (((40 * v1) + v2) + v6))))))
def m_copy (N : Nat) (v1 v2 v3 v4 v5 : Int) (s : St) : MM := bd (m_isSheet N v1 s) (fun r1 s1 => if eq32 r1 0 then (some ((-2), s1)) else (bd (m_isSheet N v3 s1) (fun r8 s8 => if eq32 r8 0 then (some ((-2), s8)) else (gd (inb v1 4) (if eq32 (s8 33 v1) 0 then (m_copy_35 N   s8) else (gd (inb v3 4) (if eq32 (s8 33 v3) 0 then (m_copy_35 N   s8) else (gd (inb v1 4) (gd (inb v3 4) (if eq32 (s8 34 v1) (s8 34 v3) then (if lt32 v2 0 then (m_copy_111 N   s8) else (if lt32 v4 0 then (m_copy_111 N   s8) else (if lt32 v5 0 then (m_copy_111 N   s8) else (gd (inb v1 4) (if lt64 (s32 (s8 35 v1)) ((s32 v2) + (s32 v5)) then (m_copy_111 N   s8) else (gd (inb v3 4) (if le64 ((s32 v4) + (s32 v5)) (s32 (s8 35 v3)) then (itr (m_copy_120 N v1 v2 v3 v4 v5) (fun _ _ => none) N 0 s8) else (m_copy_111 N   s8)))))))) else (bd (m_meets N 4 s8) (fun r58 s58 => some (r58, s58)))))))))))))
abbrev rm_m_copy : Room := { frames := 2, cells := 0, slots := 0, locals := 42 }
theorem s_m_copy_35 {X : CxT} {l : Launch} {G : GG} (C : Cx X l (mW G) 7 prog_14_method_81_code "OneSelfModel" (wo y_M_copy prog_14_method_81_code 7 (some .int)) (some .int) rm_m_copy) {o : Int × St} {N : Nat} {s : St} (hf : m_copy_35 N  s = some o) : Rj X (mW G) 7 (qI X (mW G) o) 35 [(0, .ref ((mW G).h 0))] [] s := by
  unfold m_copy_35 at hf
  refine r_aload_n C (q := 36) 0 d_M_copy_35 rfl rfl rfl ?_
  refine r_iconst C (q := 37) d_M_copy_36 rfl ?_
  obtain ⟨r37, s37, hg37, hf⟩ := bd_s hf
  refine r_cVI C (q := 40) (As := [vI 1]) (k0 := 0) (c_m_meets C.i hg37) mt_M_meets ml_M_144 (Nat.le_of_ble_eq_true rfl) rfl rfl rfl rfl rfl rfl ⟨Nat.le_of_ble_eq_true rfl, Nat.le_of_ble_eq_true rfl⟩ rfl (Nat.le_of_ble_eq_true rfl) d_M_copy_37 rfl ?_
  exact r_ireturn C hf d_M_copy_40
theorem s_m_copy_111 {X : CxT} {l : Launch} {G : GG} (C : Cx X l (mW G) 7 prog_14_method_81_code "OneSelfModel" (wo y_M_copy prog_14_method_81_code 7 (some .int)) (some .int) rm_m_copy) {o : Int × St} {N : Nat} {s : St} (hf : m_copy_111 N  s = some o) : Rj X (mW G) 7 (qI X (mW G) o) 111 [(0, .ref ((mW G).h 0))] [] s := by
  unfold m_copy_111 at hf
  refine r_aload_n C (q := 112) 0 d_M_copy_111 rfl rfl rfl ?_
  refine r_iconst C (q := 113) d_M_copy_112 rfl ?_
  obtain ⟨r113, s113, hg113, hf⟩ := bd_s hf
  refine r_cVI C (q := 116) (As := [vI 2]) (k0 := 0) (c_m_meets C.i hg113) mt_M_meets ml_M_144 (Nat.le_of_ble_eq_true rfl) rfl rfl rfl rfl rfl rfl ⟨Nat.le_of_ble_eq_true rfl, Nat.le_of_ble_eq_true rfl⟩ rfl (Nat.le_of_ble_eq_true rfl) d_M_copy_113 rfl ?_
  exact r_ireturn C hf d_M_copy_116
theorem s_m_copy_157 {X : CxT} {l : Launch} {G : GG} (C : Cx X l (mW G) 7 prog_14_method_81_code "OneSelfModel" (wo y_M_copy prog_14_method_81_code 7 (some .int)) (some .int) rm_m_copy) {o : Int × St} {N : Nat} {v3 v4 v5 v6 : Int} {k157 : Int → St → MM} (hk157 : ∀ (u6 : Int) (s : St), k157 u6 s = some o → Rj X (mW G) 7 (qI X (mW G) o) 157 [(0, .ref ((mW G).h 0)), (3, vI v3), (4, vI v4), (5, vI v5), (6, vI u6)] [] s) {s : St} (hf : m_copy_157 N v3 v4 v5 k157 v6 s = some o) : Rj X (mW G) 7 (qI X (mW G) o) 157 [(0, .ref ((mW G).h 0)), (3, vI v3), (4, vI v4), (5, vI v5), (6, vI v6)] [] s := by
  unfold m_copy_157 at hf
  refine r_iload C (q := 159) 4 d_M_copy_157 rfl rfl ?_
  refine r_iload C (q := 161) 3 d_M_copy_159 rfl rfl ?_
  refine r_ic_ge C (t := 192) (q := 164) d_M_copy_161 (by decide) rfl (fun c161 => ?_) (fun c161 => ?_)
  · replace hf := ite_t c161 hf
    refine r_iconst C (q := 193) d_M_copy_192 rfl ?_
    exact r_ireturn C hf d_M_copy_193
  · replace hf := ite_f c161 hf
    refine r_aload_n C (q := 165) 0 d_M_copy_164 rfl rfl rfl ?_
    refine gxm_M_items C (q := 168) fl_M_124 d_M_copy_165 rfl ?_
    refine r_bipush C (q := 170) (x := 40) d_M_copy_168 rfl rfl ?_
    refine r_iload_n C (q := 171) 1 d_M_copy_170 rfl rfl rfl ?_
    refine r_imul C (q := 172) d_M_copy_171 rfl ?_
    refine r_iload C (q := 174) 2 d_M_copy_172 rfl rfl ?_
    refine r_iadd C (q := 175) d_M_copy_174 rfl ?_
    refine r_iload C (q := 177) 4 d_M_copy_175 rfl rfl ?_
    refine r_iadd C (q := 178) d_M_copy_177 rfl ?_
    refine r_aload_n C (q := 179) 0 d_M_copy_178 rfl rfl rfl ?_
    refine gxm_M_moved C (q := 182) fl_M_127 d_M_copy_179 rfl ?_
    refine r_iload C (q := 184) 4 d_M_copy_182 rfl rfl ?_
    obtain ⟨g184, hf⟩ := gd_s hf
    refine r_iald C (q := 185) 37 (Nat.le_of_ble_eq_true rfl) (fun _ => rfl) 0 rfl g184 (by decide) d_M_copy_184 rfl ?_
    obtain ⟨g185, hf⟩ := gd_s hf
    refine r_iast C (q := 186) 36 (Nat.le_of_ble_eq_true rfl) (fun _ => rfl) 0 rfl g185 (by decide) d_M_copy_185 rfl ?_
    refine r_iinc C (q := 189) (lv' := [(6, vI (v6 + 1)), (0, .ref ((mW G).h 0)), (3, vI v3), (4, vI v4), (5, vI v5)]) 4 d_M_copy_186 rfl (by decide) rfl rfl ?_
    refine r_goto C (q := 157) d_M_copy_189 (by decide) ?_
    exact r_sub [1, 2, 3, 4, 0] rfl (hk157 _ _  hf)
theorem s_m_copy_120 {X : CxT} {l : Launch} {G : GG} (C : Cx X l (mW G) 7 prog_14_method_81_code "OneSelfModel" (wo y_M_copy prog_14_method_81_code 7 (some .int)) (some .int) rm_m_copy) {o : Int × St} {N : Nat} {v1 v2 v3 v4 v5 v6 : Int} {k120 : Int → St → MM} (hk120 : ∀ (u6 : Int) (s : St), k120 u6 s = some o → Rj X (mW G) 7 (qI X (mW G) o) 120 [(0, .ref ((mW G).h 0)), (1, vI v1), (2, vI v2), (3, vI v3), (4, vI v4), (5, vI v5), (6, vI u6)] [] s) {s : St} (hf : m_copy_120 N v1 v2 v3 v4 v5 k120 v6 s = some o) : Rj X (mW G) 7 (qI X (mW G) o) 120 [(0, .ref ((mW G).h 0)), (1, vI v1), (2, vI v2), (3, vI v3), (4, vI v4), (5, vI v5), (6, vI v6)] [] s := by
  unfold m_copy_120 at hf
  refine r_iload C (q := 122) 6 d_M_copy_120 rfl rfl ?_
  refine r_iload C (q := 124) 5 d_M_copy_122 rfl rfl ?_
  refine r_ic_ge C (t := 154) (q := 127) d_M_copy_124 (by decide) rfl (fun c124 => ?_) (fun c124 => ?_)
  · replace hf := ite_t c124 hf
    refine r_iconst C (q := 155) d_M_copy_154 rfl ?_
    refine r_istore C (q := 157) (lv' := [(6, vI 0), (0, .ref ((mW G).h 0)), (1, vI v1), (2, vI v2), (3, vI v3), (4, vI v4), (5, vI v5)]) d_M_copy_155 (by decide) rfl rfl ?_
    have hL : ∀ (u6 : Int) (z : St), itr (m_copy_157 N v3 v4 v5) (fun _ _ => none) N u6 z = some o → Rj X (mW G) 7 (qI X (mW G) o) 157 [(0, .ref ((mW G).h 0)), (3, vI v3), (4, vI v4), (5, vI v5), (6, vI u6)] [] z := itr_ind (m_copy_157 N v3 v4 v5) (fun _ _ => none) (fun k => ∀ (u6 : Int) (z : St), k u6 z = some o → Rj X (mW G) 7 (qI X (mW G) o) 157 [(0, .ref ((mW G).h 0)), (3, vI v3), (4, vI v4), (5, vI v5), (6, vI u6)] [] z) (fun _ _  h => by cases h) (fun k hk u6 z h => s_m_copy_157 C hk h) N
    exact r_sub [1, 4, 5, 6, 0] rfl (hL _ _  hf)
  · replace hf := ite_f c124 hf
    refine r_aload_n C (q := 128) 0 d_M_copy_127 rfl rfl rfl ?_
    refine gxm_M_moved C (q := 131) fl_M_127 d_M_copy_128 rfl ?_
    refine r_iload C (q := 133) 6 d_M_copy_131 rfl rfl ?_
    refine r_aload_n C (q := 134) 0 d_M_copy_133 rfl rfl rfl ?_
    refine gxm_M_items C (q := 137) fl_M_124 d_M_copy_134 rfl ?_
    refine r_bipush C (q := 139) (x := 40) d_M_copy_137 rfl rfl ?_
    refine r_iload_n C (q := 140) 1 d_M_copy_139 rfl rfl rfl ?_
    refine r_imul C (q := 141) d_M_copy_140 rfl ?_
    refine r_iload_n C (q := 142) 2 d_M_copy_141 rfl rfl rfl ?_
    refine r_iadd C (q := 143) d_M_copy_142 rfl ?_
    refine r_iload C (q := 145) 6 d_M_copy_143 rfl rfl ?_
    refine r_iadd C (q := 146) d_M_copy_145 rfl ?_
    obtain ⟨g146, hf⟩ := gd_s hf
    refine r_iald C (q := 147) 36 (Nat.le_of_ble_eq_true rfl) (fun _ => rfl) 0 rfl g146 (by decide) d_M_copy_146 rfl ?_
    obtain ⟨g147, hf⟩ := gd_s hf
    refine r_iast C (q := 148) 37 (Nat.le_of_ble_eq_true rfl) (fun _ => rfl) 0 rfl g147 (by decide) d_M_copy_147 rfl ?_
    refine r_iinc C (q := 151) (lv' := [(6, vI (v6 + 1)), (0, .ref ((mW G).h 0)), (1, vI v1), (2, vI v2), (3, vI v3), (4, vI v4), (5, vI v5)]) 6 d_M_copy_148 rfl (by decide) rfl rfl ?_
    refine r_goto C (q := 120) d_M_copy_151 (by decide) ?_
    exact r_sub [1, 2, 3, 4, 5, 6, 0] rfl (hk120 _ _  hf)
theorem c_m_copy {l : Launch} {G : GG} (hi : wo_i (mW G)) {N : Nat} {v1 v2 v3 v4 v5 : Int} {s : St} {o : Int × St} (hf : m_copy N v1 v2 v3 v4 v5 s = some o) : CtI l (mW G) y_M_copy (wo y_M_copy prog_14_method_81_code 7 (some .int)) rm_m_copy [.ref ((mW G).h 0), vI v1, vI v2, vI v3, vI v4, vI v5] s o := by
  refine ct_I (by decide +kernel) hi (Nat.le_of_ble_eq_true rfl) fun X C => ?_
  unfold m_copy at hf
  show Rj X (mW G) 7 (qI X (mW G) o) 0 [(0, .ref ((mW G).h 0)), (1, vI v1), (2, vI v2), (3, vI v3), (4, vI v4), (5, vI v5)] [] s
  refine r_iload_n C (q := 1) 1 d_M_copy_0 rfl rfl rfl ?_
  obtain ⟨r1, s1, hg1, hf⟩ := bd_s hf
  refine r_cSI C (q := 4) (As := [vI v1]) (c_m_isSheet C.i hg1) mt_M_isSheet ml_M_140 rfl rfl rfl ⟨Nat.le_of_ble_eq_true rfl, Nat.le_of_ble_eq_true rfl⟩ rfl (Nat.le_of_ble_eq_true rfl) d_M_copy_1 rfl ?_
  refine r_if_eq C (t := 14) (q := 7) d_M_copy_4 (by decide) rfl (fun c4 => ?_) (fun c4 => ?_)
  · replace hf := ite_t c4 hf
    refine r_bipush C (q := 16) (x := (-2)) d_M_copy_14 rfl rfl ?_
    exact r_ireturn C hf d_M_copy_16
  · replace hf := ite_f c4 hf
    refine r_iload_n C (q := 8) 3 d_M_copy_7 rfl rfl rfl ?_
    obtain ⟨r8, s8, hg8, hf⟩ := bd_s hf
    refine r_cSI C (q := 11) (As := [vI v3]) (c_m_isSheet C.i hg8) mt_M_isSheet ml_M_140 rfl rfl rfl ⟨Nat.le_of_ble_eq_true rfl, Nat.le_of_ble_eq_true rfl⟩ rfl (Nat.le_of_ble_eq_true rfl) d_M_copy_8 rfl ?_
    refine r_if_ne C (t := 17) (q := 14) d_M_copy_11 (by decide) rfl (fun c11 => ?_) (fun c11 => ?_)
    · replace hf := ite_t c11 hf
      refine r_bipush C (q := 16) (x := (-2)) d_M_copy_14 rfl rfl ?_
      exact r_ireturn C hf d_M_copy_16
    · replace hf := ite_f c11 hf
      refine r_aload_n C (q := 18) 0 d_M_copy_17 rfl rfl rfl ?_
      refine gxm_M_isThere C (q := 21) fl_M_115 d_M_copy_18 rfl ?_
      refine r_iload_n C (q := 22) 1 d_M_copy_21 rfl rfl rfl ?_
      obtain ⟨g22, hf⟩ := gd_s hf
      refine r_zald C (q := 23) 33 (Nat.le_of_ble_eq_true rfl) (fun _ => rfl) 2 rfl g22 (by decide) d_M_copy_22 rfl ?_
      refine r_if_eq C (t := 35) (q := 26) d_M_copy_23 (by decide) rfl (fun c23 => ?_) (fun c23 => ?_)
      · replace hf := ite_t c23 hf
        exact r_sub [0] rfl (s_m_copy_35 C hf)
      · replace hf := ite_f c23 hf
        refine r_aload_n C (q := 27) 0 d_M_copy_26 rfl rfl rfl ?_
        refine gxm_M_isThere C (q := 30) fl_M_115 d_M_copy_27 rfl ?_
        refine r_iload_n C (q := 31) 3 d_M_copy_30 rfl rfl rfl ?_
        obtain ⟨g31, hf⟩ := gd_s hf
        refine r_zald C (q := 32) 33 (Nat.le_of_ble_eq_true rfl) (fun _ => rfl) 2 rfl g31 (by decide) d_M_copy_31 rfl ?_
        refine r_if_ne C (t := 41) (q := 35) d_M_copy_32 (by decide) rfl (fun c32 => ?_) (fun c32 => ?_)
        · replace hf := ite_t c32 hf
          exact r_sub [0] rfl (s_m_copy_35 C hf)
        · replace hf := ite_f c32 hf
          refine r_aload_n C (q := 42) 0 d_M_copy_41 rfl rfl rfl ?_
          refine gxm_M_types C (q := 45) fl_M_118 d_M_copy_42 rfl ?_
          refine r_iload_n C (q := 46) 1 d_M_copy_45 rfl rfl rfl ?_
          obtain ⟨g46, hf⟩ := gd_s hf
          refine r_iald C (q := 47) 34 (Nat.le_of_ble_eq_true rfl) (fun _ => rfl) 0 rfl g46 (by decide) d_M_copy_46 rfl ?_
          refine r_aload_n C (q := 48) 0 d_M_copy_47 rfl rfl rfl ?_
          refine gxm_M_types C (q := 51) fl_M_118 d_M_copy_48 rfl ?_
          refine r_iload_n C (q := 52) 3 d_M_copy_51 rfl rfl rfl ?_
          obtain ⟨g52, hf⟩ := gd_s hf
          refine r_iald C (q := 53) 34 (Nat.le_of_ble_eq_true rfl) (fun _ => rfl) 0 rfl g52 (by decide) d_M_copy_52 rfl ?_
          refine r_ic_eq C (t := 62) (q := 56) d_M_copy_53 (by decide) rfl (fun c53 => ?_) (fun c53 => ?_)
          · replace hf := ite_t c53 hf
            refine r_iload_n C (q := 63) 2 d_M_copy_62 rfl rfl rfl ?_
            refine r_if_lt C (t := 111) (q := 66) d_M_copy_63 (by decide) rfl (fun c63 => ?_) (fun c63 => ?_)
            · replace hf := ite_t c63 hf
              exact r_sub [0] rfl (s_m_copy_111 C hf)
            · replace hf := ite_f c63 hf
              refine r_iload C (q := 68) 4 d_M_copy_66 rfl rfl ?_
              refine r_if_lt C (t := 111) (q := 71) d_M_copy_68 (by decide) rfl (fun c68 => ?_) (fun c68 => ?_)
              · replace hf := ite_t c68 hf
                exact r_sub [0] rfl (s_m_copy_111 C hf)
              · replace hf := ite_f c68 hf
                refine r_iload C (q := 73) 5 d_M_copy_71 rfl rfl ?_
                refine r_if_lt C (t := 111) (q := 76) d_M_copy_73 (by decide) rfl (fun c73 => ?_) (fun c73 => ?_)
                · replace hf := ite_t c73 hf
                  exact r_sub [0] rfl (s_m_copy_111 C hf)
                · replace hf := ite_f c73 hf
                  refine r_iload_n C (q := 77) 2 d_M_copy_76 rfl rfl rfl ?_
                  refine r_i2l C (q := 78) d_M_copy_77 rfl ?_
                  refine r_iload C (q := 80) 5 d_M_copy_78 rfl rfl ?_
                  refine r_i2l C (q := 81) d_M_copy_80 rfl ?_
                  refine r_ladd C (q := 82) d_M_copy_81 rfl ?_
                  refine r_aload_n C (q := 83) 0 d_M_copy_82 rfl rfl rfl ?_
                  refine gxm_M_sizes C (q := 86) fl_M_121 d_M_copy_83 rfl ?_
                  refine r_iload_n C (q := 87) 1 d_M_copy_86 rfl rfl rfl ?_
                  obtain ⟨g87, hf⟩ := gd_s hf
                  refine r_iald C (q := 88) 35 (Nat.le_of_ble_eq_true rfl) (fun _ => rfl) 0 rfl g87 (by decide) d_M_copy_87 rfl ?_
                  refine r_i2l C (q := 89) d_M_copy_88 rfl ?_
                  refine r_lc_gt C (t := 111) (q := 90) (q2 := 93) d_M_copy_89 rfl d_M_copy_90 (by decide) rfl (fun c89 => ?_) (fun c89 => ?_)
                  · replace hf := ite_t c89 hf
                    exact r_sub [0] rfl (s_m_copy_111 C hf)
                  · replace hf := ite_f c89 hf
                    refine r_iload C (q := 95) 4 d_M_copy_93 rfl rfl ?_
                    refine r_i2l C (q := 96) d_M_copy_95 rfl ?_
                    refine r_iload C (q := 98) 5 d_M_copy_96 rfl rfl ?_
                    refine r_i2l C (q := 99) d_M_copy_98 rfl ?_
                    refine r_ladd C (q := 100) d_M_copy_99 rfl ?_
                    refine r_aload_n C (q := 101) 0 d_M_copy_100 rfl rfl rfl ?_
                    refine gxm_M_sizes C (q := 104) fl_M_121 d_M_copy_101 rfl ?_
                    refine r_iload_n C (q := 105) 3 d_M_copy_104 rfl rfl rfl ?_
                    obtain ⟨g105, hf⟩ := gd_s hf
                    refine r_iald C (q := 106) 35 (Nat.le_of_ble_eq_true rfl) (fun _ => rfl) 0 rfl g105 (by decide) d_M_copy_105 rfl ?_
                    refine r_i2l C (q := 107) d_M_copy_106 rfl ?_
                    refine r_lc_le C (t := 117) (q := 108) (q2 := 111) d_M_copy_107 rfl d_M_copy_108 (by decide) rfl (fun c107 => ?_) (fun c107 => ?_)
                    · replace hf := ite_t c107 hf
                      refine r_iconst C (q := 118) d_M_copy_117 rfl ?_
                      refine r_istore C (q := 120) (lv' := [(6, vI 0), (0, .ref ((mW G).h 0)), (1, vI v1), (2, vI v2), (3, vI v3), (4, vI v4), (5, vI v5)]) d_M_copy_118 (by decide) rfl rfl ?_
                      have hL : ∀ (u6 : Int) (z : St), itr (m_copy_120 N v1 v2 v3 v4 v5) (fun _ _ => none) N u6 z = some o → Rj X (mW G) 7 (qI X (mW G) o) 120 [(0, .ref ((mW G).h 0)), (1, vI v1), (2, vI v2), (3, vI v3), (4, vI v4), (5, vI v5), (6, vI u6)] [] z := itr_ind (m_copy_120 N v1 v2 v3 v4 v5) (fun _ _ => none) (fun k => ∀ (u6 : Int) (z : St), k u6 z = some o → Rj X (mW G) 7 (qI X (mW G) o) 120 [(0, .ref ((mW G).h 0)), (1, vI v1), (2, vI v2), (3, vI v3), (4, vI v4), (5, vI v5), (6, vI u6)] [] z) (fun _ _  h => by cases h) (fun k hk u6 z h => s_m_copy_120 C hk h) N
                      exact r_sub [1, 2, 3, 4, 5, 6, 0] rfl (hL _ _  hf)
                    · replace hf := ite_f c107 hf
                      exact r_sub [0] rfl (s_m_copy_111 C hf)
          · replace hf := ite_f c53 hf
            refine r_aload_n C (q := 57) 0 d_M_copy_56 rfl rfl rfl ?_
            refine r_iconst C (q := 58) d_M_copy_57 rfl ?_
            obtain ⟨r58, s58, hg58, hf⟩ := bd_s hf
            refine r_cVI C (q := 61) (As := [vI 4]) (k0 := 0) (c_m_meets C.i hg58) mt_M_meets ml_M_144 (Nat.le_of_ble_eq_true rfl) rfl rfl rfl rfl rfl rfl ⟨Nat.le_of_ble_eq_true rfl, Nat.le_of_ble_eq_true rfl⟩ rfl (Nat.le_of_ble_eq_true rfl) d_M_copy_58 rfl ?_
            exact r_ireturn C hf d_M_copy_61
def m_write_41 (N : Nat) (v2 : Int) (k41 : Int → St → MM) (v3 : Int) (s : St) : MM := gd (inb 0 2) (if le32 (s 13 0) v3 then (some (v3, s)) else (gd (inb v2 4) (if le32 (s 35 v2) v3 then (some (v3, s)) else (gd (inb v3 20) (bd (m_lay N v2 v3 (s 12 v3) s) (fun r70 s70 => k41 (v3 + 1) s70))))))
def m_write (N : Nat) (v1 v2 : Int) (s : St) : MM := bd (m_isRow N v1 s) (fun r2 s2 => if eq32 r2 0 then (some ((-2), s2)) else (bd (m_isSheet N v2 s2) (fun r9 s9 => if eq32 r9 0 then (some ((-2), s9)) else (gd (inb v2 4) (if eq32 (s9 33 v2) 0 then (bd (m_meets N 1 s9) (fun r29 s29 => some (r29, s29))) else (bd (m_soundOf N v1 0 s9) (fun r36 s36 => itr (m_write_41 N v2) (fun _ _ => none) N 0 s36)))))))
abbrev rm_m_write : Room := { frames := 4, cells := 0, slots := 0, locals := 96 }
theorem s_m_write_41 {X : CxT} {l : Launch} {G : GG} (C : Cx X l (mW G) 4 prog_14_method_82_code "OneSelfModel" (wo y_M_write prog_14_method_82_code 4 (some .int)) (some .int) rm_m_write) {o : Int × St} {N : Nat} {v2 v3 : Int} {k41 : Int → St → MM} (hk41 : ∀ (u3 : Int) (s : St), k41 u3 s = some o → Rj X (mW G) 4 (qI X (mW G) o) 41 [(0, .ref ((mW G).h 0)), (2, vI v2), (3, vI u3)] [] s) {s : St} (hf : m_write_41 N v2 k41 v3 s = some o) : Rj X (mW G) 4 (qI X (mW G) o) 41 [(0, .ref ((mW G).h 0)), (2, vI v2), (3, vI v3)] [] s := by
  unfold m_write_41 at hf
  refine r_iload_n C (q := 42) 2 d_M_write_41 rfl rfl rfl ?_
  refine r_aload_n C (q := 43) 0 d_M_write_42 rfl rfl rfl ?_
  refine gxm_M_soundMany C (q := 46) fl_M_50 d_M_write_43 rfl ?_
  refine r_iconst C (q := 47) d_M_write_46 rfl ?_
  obtain ⟨g47, hf⟩ := gd_s hf
  refine r_iald C (q := 48) 13 (Nat.le_of_ble_eq_true rfl) (fun _ => rfl) 0 rfl g47 (by decide) d_M_write_47 rfl ?_
  refine r_ic_ge C (t := 79) (q := 51) d_M_write_48 (by decide) rfl (fun c48 => ?_) (fun c48 => ?_)
  · replace hf := ite_t c48 hf
    refine r_iload_n C (q := 80) 2 d_M_write_79 rfl rfl rfl ?_
    exact r_ireturn C hf d_M_write_80
  · replace hf := ite_f c48 hf
    refine r_iload_n C (q := 52) 2 d_M_write_51 rfl rfl rfl ?_
    refine r_aload_n C (q := 53) 0 d_M_write_52 rfl rfl rfl ?_
    refine gxm_M_sizes C (q := 56) fl_M_121 d_M_write_53 rfl ?_
    refine r_iload_n C (q := 57) 1 d_M_write_56 rfl rfl rfl ?_
    obtain ⟨g57, hf⟩ := gd_s hf
    refine r_iald C (q := 58) 35 (Nat.le_of_ble_eq_true rfl) (fun _ => rfl) 0 rfl g57 (by decide) d_M_write_57 rfl ?_
    refine r_ic_ge C (t := 79) (q := 61) d_M_write_58 (by decide) rfl (fun c58 => ?_) (fun c58 => ?_)
    · replace hf := ite_t c58 hf
      refine r_iload_n C (q := 80) 2 d_M_write_79 rfl rfl rfl ?_
      exact r_ireturn C hf d_M_write_80
    · replace hf := ite_f c58 hf
      refine r_aload_n C (q := 62) 0 d_M_write_61 rfl rfl rfl ?_
      refine r_iload_n C (q := 63) 1 d_M_write_62 rfl rfl rfl ?_
      refine r_iload_n C (q := 64) 2 d_M_write_63 rfl rfl rfl ?_
      refine r_aload_n C (q := 65) 0 d_M_write_64 rfl rfl rfl ?_
      refine gxm_M_sounds C (q := 68) fl_M_47 d_M_write_65 rfl ?_
      refine r_iload_n C (q := 69) 2 d_M_write_68 rfl rfl rfl ?_
      obtain ⟨g69, hf⟩ := gd_s hf
      refine r_iald C (q := 70) 12 (Nat.le_of_ble_eq_true rfl) (fun _ => rfl) 0 rfl g69 (by decide) d_M_write_69 rfl ?_
      obtain ⟨r70, s70, hg70, hf⟩ := bd_s hf
      refine r_cVV C (q := 73) (As := [vI v2, vI v3, vI (s 12 v3)]) (k0 := 0) (c_m_lay C.i hg70) mt_M_lay ml_M_307 (Nat.le_of_ble_eq_true rfl) rfl rfl rfl rfl rfl rfl ⟨Nat.le_of_ble_eq_true rfl, Nat.le_of_ble_eq_true rfl⟩ rfl (Nat.le_of_ble_eq_true rfl) d_M_write_70 rfl ?_
      refine r_iinc C (q := 76) (lv' := [(3, vI (v3 + 1)), (0, .ref ((mW G).h 0)), (2, vI v2)]) 2 d_M_write_73 rfl (by decide) rfl rfl ?_
      refine r_goto C (q := 41) d_M_write_76 (by decide) ?_
      exact r_sub [1, 2, 0] rfl (hk41 _ _  hf)
theorem c_m_write {l : Launch} {G : GG} (hi : wo_i (mW G)) {N : Nat} {v1 v2 : Int} {s : St} {o : Int × St} (hf : m_write N v1 v2 s = some o) : CtI l (mW G) y_M_write (wo y_M_write prog_14_method_82_code 4 (some .int)) rm_m_write [.ref ((mW G).h 0), vI v1, vI v2] s o := by
  refine ct_I (by decide +kernel) hi (Nat.le_of_ble_eq_true rfl) fun X C => ?_
  unfold m_write at hf
  show Rj X (mW G) 4 (qI X (mW G) o) 0 [(0, .ref ((mW G).h 0)), (1, vI v1), (2, vI v2)] [] s
  refine r_aload_n C (q := 1) 0 d_M_write_0 rfl rfl rfl ?_
  refine r_iload_n C (q := 2) 1 d_M_write_1 rfl rfl rfl ?_
  obtain ⟨r2, s2, hg2, hf⟩ := bd_s hf
  refine r_cVI C (q := 5) (As := [vI v1]) (k0 := 0) (c_m_isRow C.i hg2) mt_M_isRow ml_M_148 (Nat.le_of_ble_eq_true rfl) rfl rfl rfl rfl rfl rfl ⟨Nat.le_of_ble_eq_true rfl, Nat.le_of_ble_eq_true rfl⟩ rfl (Nat.le_of_ble_eq_true rfl) d_M_write_2 rfl ?_
  refine r_if_eq C (t := 15) (q := 8) d_M_write_5 (by decide) rfl (fun c5 => ?_) (fun c5 => ?_)
  · replace hf := ite_t c5 hf
    refine r_bipush C (q := 17) (x := (-2)) d_M_write_15 rfl rfl ?_
    exact r_ireturn C hf d_M_write_17
  · replace hf := ite_f c5 hf
    refine r_iload_n C (q := 9) 2 d_M_write_8 rfl rfl rfl ?_
    obtain ⟨r9, s9, hg9, hf⟩ := bd_s hf
    refine r_cSI C (q := 12) (As := [vI v2]) (c_m_isSheet C.i hg9) mt_M_isSheet ml_M_140 rfl rfl rfl ⟨Nat.le_of_ble_eq_true rfl, Nat.le_of_ble_eq_true rfl⟩ rfl (Nat.le_of_ble_eq_true rfl) d_M_write_9 rfl ?_
    refine r_if_ne C (t := 18) (q := 15) d_M_write_12 (by decide) rfl (fun c12 => ?_) (fun c12 => ?_)
    · replace hf := ite_t c12 hf
      refine r_bipush C (q := 17) (x := (-2)) d_M_write_15 rfl rfl ?_
      exact r_ireturn C hf d_M_write_17
    · replace hf := ite_f c12 hf
      refine r_aload_n C (q := 19) 0 d_M_write_18 rfl rfl rfl ?_
      refine gxm_M_isThere C (q := 22) fl_M_115 d_M_write_19 rfl ?_
      refine r_iload_n C (q := 23) 2 d_M_write_22 rfl rfl rfl ?_
      obtain ⟨g23, hf⟩ := gd_s hf
      refine r_zald C (q := 24) 33 (Nat.le_of_ble_eq_true rfl) (fun _ => rfl) 2 rfl g23 (by decide) d_M_write_23 rfl ?_
      refine r_if_ne C (t := 33) (q := 27) d_M_write_24 (by decide) rfl (fun c24 => ?_) (fun c24 => ?_)
      · replace hf := ite_t c24 hf
        refine r_aload_n C (q := 28) 0 d_M_write_27 rfl rfl rfl ?_
        refine r_iconst C (q := 29) d_M_write_28 rfl ?_
        obtain ⟨r29, s29, hg29, hf⟩ := bd_s hf
        refine r_cVI C (q := 32) (As := [vI 1]) (k0 := 0) (c_m_meets C.i hg29) mt_M_meets ml_M_144 (Nat.le_of_ble_eq_true rfl) rfl rfl rfl rfl rfl rfl ⟨Nat.le_of_ble_eq_true rfl, Nat.le_of_ble_eq_true rfl⟩ rfl (Nat.le_of_ble_eq_true rfl) d_M_write_29 rfl ?_
        exact r_ireturn C hf d_M_write_32
      · replace hf := ite_f c24 hf
        refine r_aload_n C (q := 34) 0 d_M_write_33 rfl rfl rfl ?_
        refine r_iload_n C (q := 35) 1 d_M_write_34 rfl rfl rfl ?_
        refine r_iconst C (q := 36) d_M_write_35 rfl ?_
        obtain ⟨r36, s36, hg36, hf⟩ := bd_s hf
        refine r_cVV C (q := 39) (As := [vI v1, vI 0]) (k0 := 0) (c_m_soundOf C.i hg36) mt_M_soundOf ml_M_177 (Nat.le_of_ble_eq_true rfl) rfl rfl rfl rfl rfl rfl ⟨Nat.le_of_ble_eq_true rfl, Nat.le_of_ble_eq_true rfl⟩ rfl (Nat.le_of_ble_eq_true rfl) d_M_write_36 rfl ?_
        refine r_iconst C (q := 40) d_M_write_39 rfl ?_
        refine r_istore_n C (q := 41) (lv' := [(3, vI 0), (0, .ref ((mW G).h 0)), (1, vI v1), (2, vI v2)]) d_M_write_40 rfl (by decide) rfl rfl ?_
        have hL : ∀ (u3 : Int) (z : St), itr (m_write_41 N v2) (fun _ _ => none) N u3 z = some o → Rj X (mW G) 4 (qI X (mW G) o) 41 [(0, .ref ((mW G).h 0)), (2, vI v2), (3, vI u3)] [] z := itr_ind (m_write_41 N v2) (fun _ _ => none) (fun k => ∀ (u3 : Int) (z : St), k u3 z = some o → Rj X (mW G) 4 (qI X (mW G) o) 41 [(0, .ref ((mW G).h 0)), (2, vI v2), (3, vI u3)] [] z) (fun _ _  h => by cases h) (fun k hk u3 z h => s_m_write_41 C hk h) N
        exact r_sub [1, 3, 0] rfl (hL _ _  hf)
def m_count_80 (N : Nat) (v1 : Int) (s : St) : MM := bd (m_knownOf N (v1 - 3) s) (fun r84 s84 => some (r84, s84))
def m_count (N : Nat) (v1 : Int) (s : St) : MM := if s32 v1 = 0 then (some (s 0 0, s)) else (if s32 v1 = 1 then (some (s 0 1, s)) else (if s32 v1 = 2 then (bd (m_knownOf N 0 s) (fun r64 s64 => bd (m_knownOf N 1 s64) (fun r69 s69 => bd (m_knownOf N 2 s69) (fun r75 s75 => some ((r64 + r69) + r75, s75))))) else (if s32 v1 = 3 then (m_count_80 N v1  s) else (if s32 v1 = 4 then (m_count_80 N v1  s) else (if s32 v1 = 5 then (m_count_80 N v1  s) else (if s32 v1 = 6 then (some (s 0 37, s)) else (if s32 v1 = 7 then (some (s 0 12, s)) else (if s32 v1 = 8 then (some (s 0 51, s)) else (some ((-2), s))))))))))
abbrev rm_m_count : Room := { frames := 2, cells := 0, slots := 0, locals := 45 }
theorem s_m_count_80 {X : CxT} {l : Launch} {G : GG} (C : Cx X l (mW G) 3 prog_14_method_83_code "OneSelfModel" (wo y_M_count prog_14_method_83_code 3 (some .int)) (some .int) rm_m_count) {o : Int × St} {N : Nat} {v1 : Int} {s : St} (hf : m_count_80 N v1 s = some o) : Rj X (mW G) 3 (qI X (mW G) o) 80 [(0, .ref ((mW G).h 0)), (1, vI v1)] [] s := by
  unfold m_count_80 at hf
  refine r_aload_n C (q := 81) 0 d_M_count_80 rfl rfl rfl ?_
  refine r_iload_n C (q := 82) 1 d_M_count_81 rfl rfl rfl ?_
  refine r_iconst C (q := 83) d_M_count_82 rfl ?_
  refine r_isub C (q := 84) d_M_count_83 rfl ?_
  obtain ⟨r84, s84, hg84, hf⟩ := bd_s hf
  refine r_cVI C (q := 87) (As := [vI (v1 - 3)]) (k0 := 0) (c_m_knownOf C.i hg84) mt_M_knownOf ml_M_229 (Nat.le_of_ble_eq_true rfl) rfl rfl rfl rfl rfl rfl ⟨Nat.le_of_ble_eq_true rfl, Nat.le_of_ble_eq_true rfl⟩ rfl (Nat.le_of_ble_eq_true rfl) d_M_count_84 rfl ?_
  exact r_ireturn C hf d_M_count_87
theorem c_m_count {l : Launch} {G : GG} (hi : wo_i (mW G)) {N : Nat} {v1 : Int} {s : St} {o : Int × St} (hf : m_count N v1 s = some o) : CtI l (mW G) y_M_count (wo y_M_count prog_14_method_83_code 3 (some .int)) rm_m_count [.ref ((mW G).h 0), vI v1] s o := by
  refine ct_I (by decide +kernel) hi (Nat.le_of_ble_eq_true rfl) fun X C => ?_
  unfold m_count at hf
  show Rj X (mW G) 3 (qI X (mW G) o) 0 [(0, .ref ((mW G).h 0)), (1, vI v1)] [] s
  refine r_iconst C (q := 1) d_M_count_0 rfl ?_
  refine r_istore_n C (q := 2) (lv' := [(2, vI 0), (0, .ref ((mW G).h 0)), (1, vI v1)]) d_M_count_1 rfl (by decide) rfl rfl ?_
  refine r_iload_n C (q := 3) 2 d_M_count_2 rfl rfl rfl ?_
  by_cases c3_0 : s32 v1 = 0
  · replace hf := ite_t c3_0 hf
    refine r_tabIn C (t := 52) d_M_count_3 c3_0 (by decide) (by decide) rfl (by decide) ?_
    refine r_aload_n C (q := 53) 1 d_M_count_52 rfl rfl rfl ?_
    refine gxm_M_day C (q := 56) fl_M_137 d_M_count_53 rfl ?_
    exact r_ireturn C hf d_M_count_56
  replace hf := ite_f c3_0 hf
  by_cases c3_1 : s32 v1 = 1
  · replace hf := ite_t c3_1 hf
    refine r_tabIn C (t := 57) d_M_count_3 c3_1 (by decide) (by decide) rfl (by decide) ?_
    refine r_aload_n C (q := 58) 1 d_M_count_57 rfl rfl rfl ?_
    refine gxm_M_rows C (q := 61) fl_M_130 d_M_count_58 rfl ?_
    exact r_ireturn C hf d_M_count_61
  replace hf := ite_f c3_1 hf
  by_cases c3_2 : s32 v1 = 2
  · replace hf := ite_t c3_2 hf
    refine r_tabIn C (t := 62) d_M_count_3 c3_2 (by decide) (by decide) rfl (by decide) ?_
    refine r_aload_n C (q := 63) 1 d_M_count_62 rfl rfl rfl ?_
    refine r_iconst C (q := 64) d_M_count_63 rfl ?_
    obtain ⟨r64, s64, hg64, hf⟩ := bd_s hf
    refine r_cVI C (q := 67) (As := [vI 0]) (k0 := 0) (c_m_knownOf C.i hg64) mt_M_knownOf ml_M_229 (Nat.le_of_ble_eq_true rfl) rfl rfl rfl rfl rfl rfl ⟨Nat.le_of_ble_eq_true rfl, Nat.le_of_ble_eq_true rfl⟩ rfl (Nat.le_of_ble_eq_true rfl) d_M_count_64 rfl ?_
    refine r_aload_n C (q := 68) 1 d_M_count_67 rfl rfl rfl ?_
    refine r_iconst C (q := 69) d_M_count_68 rfl ?_
    obtain ⟨r69, s69, hg69, hf⟩ := bd_s hf
    refine r_cVI C (q := 72) (As := [vI 1]) (k0 := 0) (c_m_knownOf C.i hg69) mt_M_knownOf ml_M_229 (Nat.le_of_ble_eq_true rfl) rfl rfl rfl rfl rfl rfl ⟨Nat.le_of_ble_eq_true rfl, Nat.le_of_ble_eq_true rfl⟩ rfl (Nat.le_of_ble_eq_true rfl) d_M_count_69 rfl ?_
    refine r_iadd C (q := 73) d_M_count_72 rfl ?_
    refine r_aload_n C (q := 74) 1 d_M_count_73 rfl rfl rfl ?_
    refine r_iconst C (q := 75) d_M_count_74 rfl ?_
    obtain ⟨r75, s75, hg75, hf⟩ := bd_s hf
    refine r_cVI C (q := 78) (As := [vI 2]) (k0 := 0) (c_m_knownOf C.i hg75) mt_M_knownOf ml_M_229 (Nat.le_of_ble_eq_true rfl) rfl rfl rfl rfl rfl rfl ⟨Nat.le_of_ble_eq_true rfl, Nat.le_of_ble_eq_true rfl⟩ rfl (Nat.le_of_ble_eq_true rfl) d_M_count_75 rfl ?_
    refine r_iadd C (q := 79) d_M_count_78 rfl ?_
    exact r_ireturn C hf d_M_count_79
  replace hf := ite_f c3_2 hf
  by_cases c3_3 : s32 v1 = 3
  · replace hf := ite_t c3_3 hf
    refine r_tabIn C (t := 80) d_M_count_3 c3_3 (by decide) (by decide) rfl (by decide) ?_
    exact r_sub [1, 2] rfl (s_m_count_80 C hf)
  replace hf := ite_f c3_3 hf
  by_cases c3_4 : s32 v1 = 4
  · replace hf := ite_t c3_4 hf
    refine r_tabIn C (t := 80) d_M_count_3 c3_4 (by decide) (by decide) rfl (by decide) ?_
    exact r_sub [1, 2] rfl (s_m_count_80 C hf)
  replace hf := ite_f c3_4 hf
  by_cases c3_5 : s32 v1 = 5
  · replace hf := ite_t c3_5 hf
    refine r_tabIn C (t := 80) d_M_count_3 c3_5 (by decide) (by decide) rfl (by decide) ?_
    exact r_sub [1, 2] rfl (s_m_count_80 C hf)
  replace hf := ite_f c3_5 hf
  by_cases c3_6 : s32 v1 = 6
  · replace hf := ite_t c3_6 hf
    refine r_tabIn C (t := 88) d_M_count_3 c3_6 (by decide) (by decide) rfl (by decide) ?_
    refine r_aload_n C (q := 89) 1 d_M_count_88 rfl rfl rfl ?_
    refine gxm_M_checks C (q := 92) fl_M_265 d_M_count_89 rfl ?_
    exact r_ireturn C hf d_M_count_92
  replace hf := ite_f c3_6 hf
  by_cases c3_7 : s32 v1 = 7
  · replace hf := ite_t c3_7 hf
    refine r_tabIn C (t := 93) d_M_count_3 c3_7 (by decide) (by decide) rfl (by decide) ?_
    refine r_aload_n C (q := 94) 1 d_M_count_93 rfl rfl rfl ?_
    refine gxm_M_typed C (q := 97) fl_M_158 d_M_count_94 rfl ?_
    exact r_ireturn C hf d_M_count_97
  replace hf := ite_f c3_7 hf
  by_cases c3_8 : s32 v1 = 8
  · replace hf := ite_t c3_8 hf
    refine r_tabIn C (t := 98) d_M_count_3 c3_8 (by decide) (by decide) rfl (by decide) ?_
    refine r_aload_n C (q := 99) 1 d_M_count_98 rfl rfl rfl ?_
    refine gxm_M_finding C (q := 102) fl_M_301 d_M_count_99 rfl ?_
    exact r_ireturn C hf d_M_count_102
  replace hf := ite_f c3_8 hf
  refine r_tabOut C (t := 103) d_M_count_3 (by omega) (by decide) ?_
  refine r_bipush C (q := 105) (x := (-2)) d_M_count_103 rfl rfl ?_
  exact r_ireturn C hf d_M_count_105
def m_digest_205 (N : Nat) (v3 t0 t1 : Int) (s : St) : MM := if eq32 v3 0 then (some ((31 * (t1 + (s32 t0))) + (s32 ((-3))), s)) else (gd (inb 0 11264) (some ((31 * (t1 + (s32 t0))) + (s32 (s 21 0)), s)))
def m_digest_138 (N : Nat) (k138 : Int → Int → St → MM) (v1 v3 : Int) (s : St) : MM := if le32 4 v3 then (bd (m_counts N s) (fun r163 s163 => bd (m_pairsOf N 63 s163) (fun r174 s174 => bd (m_lays N 0 1 s174) (fun r183 s183 => if eq32 r183 0 then (m_digest_205 N r183 ((-3)) (31 * ((31 * v1) + (s32 r174))) s183) else (m_digest_205 N r183 (s183 0 34) (31 * ((31 * v1) + (s32 r174))) s183))))) else (bd (m_checkedOf N v3 s) (fun r150 s150 => k138 ((31 * v1) + (s32 r150)) (v3 + 1) s150))
def m_digest_112 (N : Nat) (k112 : Int → Int → St → MM) (v1 v3 : Int) (s : St) : MM := if le32 3 v3 then (itr (m_digest_138 N ) (fun _ _ _ => none) N v1 0 s) else (bd (m_bundlesOf N v3 s) (fun r124 s124 => k112 ((31 * v1) + (s32 r124)) (v3 + 1) s124))
def m_digest_44 (N : Nat) (k33 : Int → Int → St → MM) (v3 : Int) (k44 : Int → Int → St → MM) (v1 v4 : Int) (s : St) : MM := if le32 8 v4 then (k33 v1 (v3 + 1) s) else (bd (m_aboutOf N v3 v4 s) (fun r60 s60 => k44 ((31 * v1) + (s32 r60)) (v4 + 1) s60))
def m_digest_33 (N : Nat) (k33 : Int → Int → St → MM) (v1 v3 : Int) (s : St) : MM := if le32 (s 0 1) v3 then (bd (m_reads N s) (fun r79 s79 => bd (m_binds N s79) (fun r83 s83 => itr (m_digest_112 N ) (fun _ _ _ => none) N ((31 * ((31 * v1) + (s32 (s83 0 16)))) + (s32 (s83 0 26))) 0 s83))) else (itr (m_digest_44 N k33 v3) (fun _ _ _ => none) N v1 0 s)
def m_digest_6 (N : Nat) (k6 : Int → Int → St → MM) (v1 v3 : Int) (s : St) : MM := if le32 8 v3 then (itr (m_digest_33 N ) (fun _ _ _ => none) N v1 0 s) else (bd (m_count N v3 s) (fun r19 s19 => k6 ((31 * v1) + (s32 r19)) (v3 + 1) s19))
def m_digest (N : Nat) (s : St) : MM := itr (m_digest_6 N ) (fun _ _ _ => none) N 17 0 s
abbrev rm_m_digest : Room := { frames := 10, cells := 0, slots := 0, locals := 243 }
theorem s_m_digest_205 {X : CxT} {l : Launch} {G : GG} (C : Cx X l (mW G) 5 prog_14_method_84_code "OneSelfModel" (wo y_M_digest prog_14_method_84_code 5 (some .long)) (some .long) rm_m_digest) {o : Int × St} {N : Nat} {v3 t0 t1 : Int} {s : St} (hf : m_digest_205 N v3 t0 t1 s = some o) : Rj X (mW G) 5 (qL X (mW G) o) 205 [(0, .ref ((mW G).h 0)), (3, vI v3)] [vI t0, vJ t1] s := by
  unfold m_digest_205 at hf
  refine r_i2l C (q := 206) d_M_digest_205 rfl ?_
  refine r_ladd C (q := 207) d_M_digest_206 rfl ?_
  refine r_lstore_n C (q := 208) (lv' := [(1, vJ (t1 + (s32 t0))), (0, .ref ((mW G).h 0)), (3, vI v3)]) d_M_digest_207 rfl (by decide) rfl rfl ?_
  refine r_ldc2 C (q := 211) (x := 31) kc_M_314 rfl d_M_digest_208 rfl ?_
  refine r_lload_n C (q := 212) 0 d_M_digest_211 rfl rfl rfl ?_
  refine r_lmul C (q := 213) d_M_digest_212 rfl ?_
  refine r_iload_n C (q := 214) 2 d_M_digest_213 rfl rfl rfl ?_
  refine r_if_eq C (t := 226) (q := 217) d_M_digest_214 (by decide) rfl (fun c214 => ?_) (fun c214 => ?_)
  · replace hf := ite_t c214 hf
    refine r_bipush C (q := 228) (x := (-3)) d_M_digest_226 rfl rfl ?_
    refine r_i2l C (q := 229) d_M_digest_228 rfl ?_
    refine r_ladd C (q := 230) d_M_digest_229 rfl ?_
    exact r_lreturn C hf d_M_digest_230
  · replace hf := ite_f c214 hf
    refine r_aload_n C (q := 218) 1 d_M_digest_217 rfl rfl rfl ?_
    refine gxm_M_bests C (q := 221) fl_M_78 d_M_digest_218 rfl ?_
    refine r_iconst C (q := 222) d_M_digest_221 rfl ?_
    obtain ⟨g222, hf⟩ := gd_s hf
    refine r_iald C (q := 223) 21 (Nat.le_of_ble_eq_true rfl) (fun _ => rfl) 0 rfl g222 (by decide) d_M_digest_222 rfl ?_
    refine r_goto C (q := 228) d_M_digest_223 (by decide) ?_
    refine r_i2l C (q := 229) d_M_digest_228 rfl ?_
    refine r_ladd C (q := 230) d_M_digest_229 rfl ?_
    exact r_lreturn C hf d_M_digest_230
theorem s_m_digest_138 {X : CxT} {l : Launch} {G : GG} (C : Cx X l (mW G) 5 prog_14_method_84_code "OneSelfModel" (wo y_M_digest prog_14_method_84_code 5 (some .long)) (some .long) rm_m_digest) {o : Int × St} {N : Nat} {v1 v3 : Int} {k138 : Int → Int → St → MM} (hk138 : ∀ (u1 u3 : Int) (s : St), k138 u1 u3 s = some o → Rj X (mW G) 5 (qL X (mW G) o) 138 [(0, .ref ((mW G).h 0)), (1, vJ u1), (3, vI u3)] [] s) {s : St} (hf : m_digest_138 N  k138 v1 v3 s = some o) : Rj X (mW G) 5 (qL X (mW G) o) 138 [(0, .ref ((mW G).h 0)), (1, vJ v1), (3, vI v3)] [] s := by
  unfold m_digest_138 at hf
  refine r_iload_n C (q := 139) 2 d_M_digest_138 rfl rfl rfl ?_
  refine r_iconst C (q := 140) d_M_digest_139 rfl ?_
  refine r_ic_ge C (t := 162) (q := 143) d_M_digest_140 (by decide) rfl (fun c140 => ?_) (fun c140 => ?_)
  · replace hf := ite_t c140 hf
    refine r_aload_n C (q := 163) 0 d_M_digest_162 rfl rfl rfl ?_
    obtain ⟨r163, s163, hg163, hf⟩ := bd_s hf
    refine r_cVV C (q := 166) (As := []) (k0 := 0) (c_m_counts C.i hg163) mt_M_counts ml_M_289 (Nat.le_of_ble_eq_true rfl) rfl rfl rfl rfl rfl rfl ⟨Nat.le_of_ble_eq_true rfl, Nat.le_of_ble_eq_true rfl⟩ rfl (Nat.le_of_ble_eq_true rfl) d_M_digest_163 rfl ?_
    refine r_ldc2 C (q := 169) (x := 31) kc_M_314 rfl d_M_digest_166 rfl ?_
    refine r_lload_n C (q := 170) 1 d_M_digest_169 rfl rfl rfl ?_
    refine r_lmul C (q := 171) d_M_digest_170 rfl ?_
    refine r_aload_n C (q := 172) 0 d_M_digest_171 rfl rfl rfl ?_
    refine r_bipush C (q := 174) (x := 63) d_M_digest_172 rfl rfl ?_
    obtain ⟨r174, s174, hg174, hf⟩ := bd_s hf
    refine r_cVI C (q := 177) (As := [vI 63]) (k0 := 0) (c_m_pairsOf C.i hg174) mt_M_pairsOf ml_M_292 (Nat.le_of_ble_eq_true rfl) rfl rfl rfl rfl rfl rfl ⟨Nat.le_of_ble_eq_true rfl, Nat.le_of_ble_eq_true rfl⟩ rfl (Nat.le_of_ble_eq_true rfl) d_M_digest_174 rfl ?_
    refine r_i2l C (q := 178) d_M_digest_177 rfl ?_
    refine r_ladd C (q := 179) d_M_digest_178 rfl ?_
    refine r_lstore_n C (q := 180) (lv' := [(1, vJ ((31 * v1) + (s32 r174))), (0, .ref ((mW G).h 0)), (3, vI v3)]) d_M_digest_179 rfl (by decide) rfl rfl ?_
    refine r_aload_n C (q := 181) 1 d_M_digest_180 rfl rfl rfl ?_
    refine r_iconst C (q := 182) d_M_digest_181 rfl ?_
    refine r_iconst C (q := 183) d_M_digest_182 rfl ?_
    obtain ⟨r183, s183, hg183, hf⟩ := bd_s hf
    refine r_cVI C (q := 186) (As := [vI 0, vI 1]) (k0 := 0) (c_m_lays C.i hg183) mt_M_lays ml_M_247 (Nat.le_of_ble_eq_true rfl) rfl rfl rfl rfl rfl rfl ⟨Nat.le_of_ble_eq_true rfl, Nat.le_of_ble_eq_true rfl⟩ rfl (Nat.le_of_ble_eq_true rfl) d_M_digest_183 rfl ?_
    refine r_istore_n C (q := 187) (lv' := [(3, vI r183), (1, vJ ((31 * v1) + (s32 r174))), (0, .ref ((mW G).h 0))]) d_M_digest_186 rfl (by decide) rfl rfl ?_
    refine r_ldc2 C (q := 190) (x := 31) kc_M_314 rfl d_M_digest_187 rfl ?_
    refine r_lload_n C (q := 191) 1 d_M_digest_190 rfl rfl rfl ?_
    refine r_lmul C (q := 192) d_M_digest_191 rfl ?_
    refine r_iload_n C (q := 193) 0 d_M_digest_192 rfl rfl rfl ?_
    refine r_if_eq C (t := 203) (q := 196) d_M_digest_193 (by decide) rfl (fun c193 => ?_) (fun c193 => ?_)
    · replace hf := ite_t c193 hf
      refine r_bipush C (q := 205) (x := (-3)) d_M_digest_203 rfl rfl ?_
      exact r_sub [2, 0] rfl (s_m_digest_205 C hf)
    · replace hf := ite_f c193 hf
      refine r_aload_n C (q := 197) 2 d_M_digest_196 rfl rfl rfl ?_
      refine gxm_M_laidMany C (q := 200) fl_M_241 d_M_digest_197 rfl ?_
      refine r_goto C (q := 205) d_M_digest_200 (by decide) ?_
      exact r_sub [2, 0] rfl (s_m_digest_205 C hf)
  · replace hf := ite_f c140 hf
    refine r_ldc2 C (q := 146) (x := 31) kc_M_314 rfl d_M_digest_143 rfl ?_
    refine r_lload_n C (q := 147) 1 d_M_digest_146 rfl rfl rfl ?_
    refine r_lmul C (q := 148) d_M_digest_147 rfl ?_
    refine r_aload_n C (q := 149) 0 d_M_digest_148 rfl rfl rfl ?_
    refine r_iload_n C (q := 150) 2 d_M_digest_149 rfl rfl rfl ?_
    obtain ⟨r150, s150, hg150, hf⟩ := bd_s hf
    refine r_cVI C (q := 153) (As := [vI v3]) (k0 := 0) (c_m_checkedOf C.i hg150) mt_M_checkedOf ml_M_271 (Nat.le_of_ble_eq_true rfl) rfl rfl rfl rfl rfl rfl ⟨Nat.le_of_ble_eq_true rfl, Nat.le_of_ble_eq_true rfl⟩ rfl (Nat.le_of_ble_eq_true rfl) d_M_digest_150 rfl ?_
    refine r_i2l C (q := 154) d_M_digest_153 rfl ?_
    refine r_ladd C (q := 155) d_M_digest_154 rfl ?_
    refine r_lstore_n C (q := 156) (lv' := [(1, vJ ((31 * v1) + (s32 r150))), (0, .ref ((mW G).h 0)), (3, vI v3)]) d_M_digest_155 rfl (by decide) rfl rfl ?_
    refine r_iinc C (q := 159) (lv' := [(3, vI (v3 + 1)), (1, vJ ((31 * v1) + (s32 r150))), (0, .ref ((mW G).h 0))]) 2 d_M_digest_156 rfl (by decide) rfl rfl ?_
    refine r_goto C (q := 138) d_M_digest_159 (by decide) ?_
    exact r_sub [2, 1, 0] rfl (hk138 _ _ _  hf)
theorem s_m_digest_112 {X : CxT} {l : Launch} {G : GG} (C : Cx X l (mW G) 5 prog_14_method_84_code "OneSelfModel" (wo y_M_digest prog_14_method_84_code 5 (some .long)) (some .long) rm_m_digest) {o : Int × St} {N : Nat} {v1 v3 : Int} {k112 : Int → Int → St → MM} (hk112 : ∀ (u1 u3 : Int) (s : St), k112 u1 u3 s = some o → Rj X (mW G) 5 (qL X (mW G) o) 112 [(0, .ref ((mW G).h 0)), (1, vJ u1), (3, vI u3)] [] s) {s : St} (hf : m_digest_112 N  k112 v1 v3 s = some o) : Rj X (mW G) 5 (qL X (mW G) o) 112 [(0, .ref ((mW G).h 0)), (1, vJ v1), (3, vI v3)] [] s := by
  unfold m_digest_112 at hf
  refine r_iload_n C (q := 113) 2 d_M_digest_112 rfl rfl rfl ?_
  refine r_iconst C (q := 114) d_M_digest_113 rfl ?_
  refine r_ic_ge C (t := 136) (q := 117) d_M_digest_114 (by decide) rfl (fun c114 => ?_) (fun c114 => ?_)
  · replace hf := ite_t c114 hf
    refine r_iconst C (q := 137) d_M_digest_136 rfl ?_
    refine r_istore_n C (q := 138) (lv' := [(3, vI 0), (0, .ref ((mW G).h 0)), (1, vJ v1)]) d_M_digest_137 rfl (by decide) rfl rfl ?_
    have hL : ∀ (u1 u3 : Int) (z : St), itr (m_digest_138 N ) (fun _ _ _ => none) N u1 u3 z = some o → Rj X (mW G) 5 (qL X (mW G) o) 138 [(0, .ref ((mW G).h 0)), (1, vJ u1), (3, vI u3)] [] z := itr_ind (m_digest_138 N ) (fun _ _ _ => none) (fun k => ∀ (u1 u3 : Int) (z : St), k u1 u3 z = some o → Rj X (mW G) 5 (qL X (mW G) o) 138 [(0, .ref ((mW G).h 0)), (1, vJ u1), (3, vI u3)] [] z) (fun _ _ _  h => by cases h) (fun k hk u1 u3 z h => s_m_digest_138 C hk h) N
    exact r_sub [1, 2, 0] rfl (hL _ _ _  hf)
  · replace hf := ite_f c114 hf
    refine r_ldc2 C (q := 120) (x := 31) kc_M_314 rfl d_M_digest_117 rfl ?_
    refine r_lload_n C (q := 121) 1 d_M_digest_120 rfl rfl rfl ?_
    refine r_lmul C (q := 122) d_M_digest_121 rfl ?_
    refine r_aload_n C (q := 123) 0 d_M_digest_122 rfl rfl rfl ?_
    refine r_iload_n C (q := 124) 2 d_M_digest_123 rfl rfl rfl ?_
    obtain ⟨r124, s124, hg124, hf⟩ := bd_s hf
    refine r_cVI C (q := 127) (As := [vI v3]) (k0 := 0) (c_m_bundlesOf C.i hg124) mt_M_bundlesOf ml_M_259 (Nat.le_of_ble_eq_true rfl) rfl rfl rfl rfl rfl rfl ⟨Nat.le_of_ble_eq_true rfl, Nat.le_of_ble_eq_true rfl⟩ rfl (Nat.le_of_ble_eq_true rfl) d_M_digest_124 rfl ?_
    refine r_i2l C (q := 128) d_M_digest_127 rfl ?_
    refine r_ladd C (q := 129) d_M_digest_128 rfl ?_
    refine r_lstore_n C (q := 130) (lv' := [(1, vJ ((31 * v1) + (s32 r124))), (0, .ref ((mW G).h 0)), (3, vI v3)]) d_M_digest_129 rfl (by decide) rfl rfl ?_
    refine r_iinc C (q := 133) (lv' := [(3, vI (v3 + 1)), (1, vJ ((31 * v1) + (s32 r124))), (0, .ref ((mW G).h 0))]) 2 d_M_digest_130 rfl (by decide) rfl rfl ?_
    refine r_goto C (q := 112) d_M_digest_133 (by decide) ?_
    exact r_sub [2, 1, 0] rfl (hk112 _ _ _  hf)
theorem s_m_digest_44 {X : CxT} {l : Launch} {G : GG} (C : Cx X l (mW G) 5 prog_14_method_84_code "OneSelfModel" (wo y_M_digest prog_14_method_84_code 5 (some .long)) (some .long) rm_m_digest) {o : Int × St} {N : Nat} {v1 v3 v4 : Int} {k33 : Int → Int → St → MM} (hk33 : ∀ (u1 u3 : Int) (s : St), k33 u1 u3 s = some o → Rj X (mW G) 5 (qL X (mW G) o) 33 [(0, .ref ((mW G).h 0)), (1, vJ u1), (3, vI u3)] [] s) {k44 : Int → Int → St → MM} (hk44 : ∀ (u1 u4 : Int) (s : St), k44 u1 u4 s = some o → Rj X (mW G) 5 (qL X (mW G) o) 44 [(0, .ref ((mW G).h 0)), (1, vJ u1), (3, vI v3), (4, vI u4)] [] s) {s : St} (hf : m_digest_44 N k33 v3 k44 v1 v4 s = some o) : Rj X (mW G) 5 (qL X (mW G) o) 44 [(0, .ref ((mW G).h 0)), (1, vJ v1), (3, vI v3), (4, vI v4)] [] s := by
  unfold m_digest_44 at hf
  refine r_iload C (q := 46) 3 d_M_digest_44 rfl rfl ?_
  refine r_bipush C (q := 48) (x := 8) d_M_digest_46 rfl rfl ?_
  refine r_ic_ge C (t := 72) (q := 51) d_M_digest_48 (by decide) rfl (fun c48 => ?_) (fun c48 => ?_)
  · replace hf := ite_t c48 hf
    refine r_iinc C (q := 75) (lv' := [(3, vI (v3 + 1)), (0, .ref ((mW G).h 0)), (1, vJ v1), (4, vI v4)]) 2 d_M_digest_72 rfl (by decide) rfl rfl ?_
    refine r_goto C (q := 33) d_M_digest_75 (by decide) ?_
    exact r_sub [1, 2, 0] rfl (hk33 _ _ _  hf)
  · replace hf := ite_f c48 hf
    refine r_ldc2 C (q := 54) (x := 31) kc_M_314 rfl d_M_digest_51 rfl ?_
    refine r_lload_n C (q := 55) 1 d_M_digest_54 rfl rfl rfl ?_
    refine r_lmul C (q := 56) d_M_digest_55 rfl ?_
    refine r_aload_n C (q := 57) 0 d_M_digest_56 rfl rfl rfl ?_
    refine r_iload_n C (q := 58) 2 d_M_digest_57 rfl rfl rfl ?_
    refine r_iload C (q := 60) 3 d_M_digest_58 rfl rfl ?_
    obtain ⟨r60, s60, hg60, hf⟩ := bd_s hf
    refine r_cVI C (q := 63) (As := [vI v3, vI v4]) (k0 := 0) (c_m_aboutOf C.i hg60) mt_M_aboutOf ml_M_154 (Nat.le_of_ble_eq_true rfl) rfl rfl rfl rfl rfl rfl ⟨Nat.le_of_ble_eq_true rfl, Nat.le_of_ble_eq_true rfl⟩ rfl (Nat.le_of_ble_eq_true rfl) d_M_digest_60 rfl ?_
    refine r_i2l C (q := 64) d_M_digest_63 rfl ?_
    refine r_ladd C (q := 65) d_M_digest_64 rfl ?_
    refine r_lstore_n C (q := 66) (lv' := [(1, vJ ((31 * v1) + (s32 r60))), (0, .ref ((mW G).h 0)), (3, vI v3), (4, vI v4)]) d_M_digest_65 rfl (by decide) rfl rfl ?_
    refine r_iinc C (q := 69) (lv' := [(4, vI (v4 + 1)), (1, vJ ((31 * v1) + (s32 r60))), (0, .ref ((mW G).h 0)), (3, vI v3)]) 3 d_M_digest_66 rfl (by decide) rfl rfl ?_
    refine r_goto C (q := 44) d_M_digest_69 (by decide) ?_
    exact r_sub [2, 1, 3, 0] rfl (hk44 _ _ _  hf)
theorem s_m_digest_33 {X : CxT} {l : Launch} {G : GG} (C : Cx X l (mW G) 5 prog_14_method_84_code "OneSelfModel" (wo y_M_digest prog_14_method_84_code 5 (some .long)) (some .long) rm_m_digest) {o : Int × St} {N : Nat} {v1 v3 : Int} {k33 : Int → Int → St → MM} (hk33 : ∀ (u1 u3 : Int) (s : St), k33 u1 u3 s = some o → Rj X (mW G) 5 (qL X (mW G) o) 33 [(0, .ref ((mW G).h 0)), (1, vJ u1), (3, vI u3)] [] s) {s : St} (hf : m_digest_33 N  k33 v1 v3 s = some o) : Rj X (mW G) 5 (qL X (mW G) o) 33 [(0, .ref ((mW G).h 0)), (1, vJ v1), (3, vI v3)] [] s := by
  unfold m_digest_33 at hf
  refine r_iload_n C (q := 34) 2 d_M_digest_33 rfl rfl rfl ?_
  refine r_aload_n C (q := 35) 0 d_M_digest_34 rfl rfl rfl ?_
  refine gxm_M_rows C (q := 38) fl_M_130 d_M_digest_35 rfl ?_
  refine r_ic_ge C (t := 78) (q := 41) d_M_digest_38 (by decide) rfl (fun c38 => ?_) (fun c38 => ?_)
  · replace hf := ite_t c38 hf
    refine r_aload_n C (q := 79) 0 d_M_digest_78 rfl rfl rfl ?_
    obtain ⟨r79, s79, hg79, hf⟩ := bd_s hf
    refine r_cVV C (q := 82) (As := []) (k0 := 0) (c_m_reads C.i hg79) mt_M_reads ml_M_174 (Nat.le_of_ble_eq_true rfl) rfl rfl rfl rfl rfl rfl ⟨Nat.le_of_ble_eq_true rfl, Nat.le_of_ble_eq_true rfl⟩ rfl (Nat.le_of_ble_eq_true rfl) d_M_digest_79 rfl ?_
    refine r_aload_n C (q := 83) 0 d_M_digest_82 rfl rfl rfl ?_
    obtain ⟨r83, s83, hg83, hf⟩ := bd_s hf
    refine r_cVV C (q := 86) (As := []) (k0 := 0) (c_m_binds C.i hg83) mt_M_binds ml_M_250 (Nat.le_of_ble_eq_true rfl) rfl rfl rfl rfl rfl rfl ⟨Nat.le_of_ble_eq_true rfl, Nat.le_of_ble_eq_true rfl⟩ rfl (Nat.le_of_ble_eq_true rfl) d_M_digest_83 rfl ?_
    refine r_ldc2 C (q := 89) (x := 31) kc_M_314 rfl d_M_digest_86 rfl ?_
    refine r_lload_n C (q := 90) 1 d_M_digest_89 rfl rfl rfl ?_
    refine r_lmul C (q := 91) d_M_digest_90 rfl ?_
    refine r_aload_n C (q := 92) 0 d_M_digest_91 rfl rfl rfl ?_
    refine gxm_M_faultNow C (q := 95) fl_M_168 d_M_digest_92 rfl ?_
    refine r_i2l C (q := 96) d_M_digest_95 rfl ?_
    refine r_ladd C (q := 97) d_M_digest_96 rfl ?_
    refine r_lstore_n C (q := 98) (lv' := [(1, vJ ((31 * v1) + (s32 (s83 0 16)))), (0, .ref ((mW G).h 0)), (3, vI v3)]) d_M_digest_97 rfl (by decide) rfl rfl ?_
    refine r_ldc2 C (q := 101) (x := 31) kc_M_314 rfl d_M_digest_98 rfl ?_
    refine r_lload_n C (q := 102) 0 d_M_digest_101 rfl rfl rfl ?_
    refine r_lmul C (q := 103) d_M_digest_102 rfl ?_
    refine r_aload_n C (q := 104) 1 d_M_digest_103 rfl rfl rfl ?_
    refine gxm_M_linkMany C (q := 107) fl_M_223 d_M_digest_104 rfl ?_
    refine r_i2l C (q := 108) d_M_digest_107 rfl ?_
    refine r_ladd C (q := 109) d_M_digest_108 rfl ?_
    refine r_lstore_n C (q := 110) (lv' := [(1, vJ ((31 * ((31 * v1) + (s32 (s83 0 16)))) + (s32 (s83 0 26)))), (0, .ref ((mW G).h 0)), (3, vI v3)]) d_M_digest_109 rfl (by decide) rfl rfl ?_
    refine r_iconst C (q := 111) d_M_digest_110 rfl ?_
    refine r_istore_n C (q := 112) (lv' := [(3, vI 0), (1, vJ ((31 * ((31 * v1) + (s32 (s83 0 16)))) + (s32 (s83 0 26)))), (0, .ref ((mW G).h 0))]) d_M_digest_111 rfl (by decide) rfl rfl ?_
    have hL : ∀ (u1 u3 : Int) (z : St), itr (m_digest_112 N ) (fun _ _ _ => none) N u1 u3 z = some o → Rj X (mW G) 5 (qL X (mW G) o) 112 [(0, .ref ((mW G).h 0)), (1, vJ u1), (3, vI u3)] [] z := itr_ind (m_digest_112 N ) (fun _ _ _ => none) (fun k => ∀ (u1 u3 : Int) (z : St), k u1 u3 z = some o → Rj X (mW G) 5 (qL X (mW G) o) 112 [(0, .ref ((mW G).h 0)), (1, vJ u1), (3, vI u3)] [] z) (fun _ _ _  h => by cases h) (fun k hk u1 u3 z h => s_m_digest_112 C hk h) N
    exact r_sub [2, 1, 0] rfl (hL _ _ _  hf)
  · replace hf := ite_f c38 hf
    refine r_iconst C (q := 42) d_M_digest_41 rfl ?_
    refine r_istore C (q := 44) (lv' := [(4, vI 0), (0, .ref ((mW G).h 0)), (1, vJ v1), (3, vI v3)]) d_M_digest_42 (by decide) rfl rfl ?_
    have hL : ∀ (u1 u4 : Int) (z : St), itr (m_digest_44 N k33 v3) (fun _ _ _ => none) N u1 u4 z = some o → Rj X (mW G) 5 (qL X (mW G) o) 44 [(0, .ref ((mW G).h 0)), (1, vJ u1), (3, vI v3), (4, vI u4)] [] z := itr_ind (m_digest_44 N k33 v3) (fun _ _ _ => none) (fun k => ∀ (u1 u4 : Int) (z : St), k u1 u4 z = some o → Rj X (mW G) 5 (qL X (mW G) o) 44 [(0, .ref ((mW G).h 0)), (1, vJ u1), (3, vI v3), (4, vI u4)] [] z) (fun _ _ _  h => by cases h) (fun k hk u1 u4 z h => s_m_digest_44 C hk33 hk h) N
    exact r_sub [1, 2, 3, 0] rfl (hL _ _ _  hf)
theorem s_m_digest_6 {X : CxT} {l : Launch} {G : GG} (C : Cx X l (mW G) 5 prog_14_method_84_code "OneSelfModel" (wo y_M_digest prog_14_method_84_code 5 (some .long)) (some .long) rm_m_digest) {o : Int × St} {N : Nat} {v1 v3 : Int} {k6 : Int → Int → St → MM} (hk6 : ∀ (u1 u3 : Int) (s : St), k6 u1 u3 s = some o → Rj X (mW G) 5 (qL X (mW G) o) 6 [(0, .ref ((mW G).h 0)), (1, vJ u1), (3, vI u3)] [] s) {s : St} (hf : m_digest_6 N  k6 v1 v3 s = some o) : Rj X (mW G) 5 (qL X (mW G) o) 6 [(0, .ref ((mW G).h 0)), (1, vJ v1), (3, vI v3)] [] s := by
  unfold m_digest_6 at hf
  refine r_iload_n C (q := 7) 2 d_M_digest_6 rfl rfl rfl ?_
  refine r_bipush C (q := 9) (x := 8) d_M_digest_7 rfl rfl ?_
  refine r_ic_ge C (t := 31) (q := 12) d_M_digest_9 (by decide) rfl (fun c9 => ?_) (fun c9 => ?_)
  · replace hf := ite_t c9 hf
    refine r_iconst C (q := 32) d_M_digest_31 rfl ?_
    refine r_istore_n C (q := 33) (lv' := [(3, vI 0), (0, .ref ((mW G).h 0)), (1, vJ v1)]) d_M_digest_32 rfl (by decide) rfl rfl ?_
    have hL : ∀ (u1 u3 : Int) (z : St), itr (m_digest_33 N ) (fun _ _ _ => none) N u1 u3 z = some o → Rj X (mW G) 5 (qL X (mW G) o) 33 [(0, .ref ((mW G).h 0)), (1, vJ u1), (3, vI u3)] [] z := itr_ind (m_digest_33 N ) (fun _ _ _ => none) (fun k => ∀ (u1 u3 : Int) (z : St), k u1 u3 z = some o → Rj X (mW G) 5 (qL X (mW G) o) 33 [(0, .ref ((mW G).h 0)), (1, vJ u1), (3, vI u3)] [] z) (fun _ _ _  h => by cases h) (fun k hk u1 u3 z h => s_m_digest_33 C hk h) N
    exact r_sub [1, 2, 0] rfl (hL _ _ _  hf)
  · replace hf := ite_f c9 hf
    refine r_ldc2 C (q := 15) (x := 31) kc_M_314 rfl d_M_digest_12 rfl ?_
    refine r_lload_n C (q := 16) 1 d_M_digest_15 rfl rfl rfl ?_
    refine r_lmul C (q := 17) d_M_digest_16 rfl ?_
    refine r_aload_n C (q := 18) 0 d_M_digest_17 rfl rfl rfl ?_
    refine r_iload_n C (q := 19) 2 d_M_digest_18 rfl rfl rfl ?_
    obtain ⟨r19, s19, hg19, hf⟩ := bd_s hf
    refine r_cVI C (q := 22) (As := [vI v3]) (k0 := 0) (c_m_count C.i hg19) mt_M_count ml_M_316 (Nat.le_of_ble_eq_true rfl) rfl rfl rfl rfl rfl rfl ⟨Nat.le_of_ble_eq_true rfl, Nat.le_of_ble_eq_true rfl⟩ rfl (Nat.le_of_ble_eq_true rfl) d_M_digest_19 rfl ?_
    refine r_i2l C (q := 23) d_M_digest_22 rfl ?_
    refine r_ladd C (q := 24) d_M_digest_23 rfl ?_
    refine r_lstore_n C (q := 25) (lv' := [(1, vJ ((31 * v1) + (s32 r19))), (0, .ref ((mW G).h 0)), (3, vI v3)]) d_M_digest_24 rfl (by decide) rfl rfl ?_
    refine r_iinc C (q := 28) (lv' := [(3, vI (v3 + 1)), (1, vJ ((31 * v1) + (s32 r19))), (0, .ref ((mW G).h 0))]) 2 d_M_digest_25 rfl (by decide) rfl rfl ?_
    refine r_goto C (q := 6) d_M_digest_28 (by decide) ?_
    exact r_sub [2, 1, 0] rfl (hk6 _ _ _  hf)
theorem c_m_digest {l : Launch} {G : GG} (hi : wo_i (mW G)) {N : Nat} {s : St} {o : Int × St} (hf : m_digest N s = some o) : CtL l (mW G) y_M_digest (wo y_M_digest prog_14_method_84_code 5 (some .long)) rm_m_digest [.ref ((mW G).h 0)] s o := by
  refine ct_L (by decide +kernel) hi (Nat.le_of_ble_eq_true rfl) fun X C => ?_
  unfold m_digest at hf
  show Rj X (mW G) 5 (qL X (mW G) o) 0 [(0, .ref ((mW G).h 0))] [] s
  refine r_ldc2 C (q := 3) (x := 17) kc_M_312 rfl d_M_digest_0 rfl ?_
  refine r_lstore_n C (q := 4) (lv' := [(1, vJ 17), (0, .ref ((mW G).h 0))]) d_M_digest_3 rfl (by decide) rfl rfl ?_
  refine r_iconst C (q := 5) d_M_digest_4 rfl ?_
  refine r_istore_n C (q := 6) (lv' := [(3, vI 0), (1, vJ 17), (0, .ref ((mW G).h 0))]) d_M_digest_5 rfl (by decide) rfl rfl ?_
  have hL : ∀ (u1 u3 : Int) (z : St), itr (m_digest_6 N ) (fun _ _ _ => none) N u1 u3 z = some o → Rj X (mW G) 5 (qL X (mW G) o) 6 [(0, .ref ((mW G).h 0)), (1, vJ u1), (3, vI u3)] [] z := itr_ind (m_digest_6 N ) (fun _ _ _ => none) (fun k => ∀ (u1 u3 : Int) (z : St), k u1 u3 z = some o → Rj X (mW G) 5 (qL X (mW G) o) 6 [(0, .ref ((mW G).h 0)), (1, vJ u1), (3, vI u3)] [] z) (fun _ _ _  h => by cases h) (fun k hk u1 u3 z h => s_m_digest_6 C hk h) N
  exact r_sub [2, 1, 0] rfl (hL _ _ _  hf)
