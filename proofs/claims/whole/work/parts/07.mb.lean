def m_in (N : Nat) (v0 v1 v2 : Int) (s : St) : MM := if lt32 v0 v1 then (some (0, s)) else (if lt32 v2 v0 then (some (0, s)) else (some (1, s)))
abbrev rm_m_in : Room := { frames := 0, cells := 0, slots := 0, locals := 0 }
theorem c_m_in {l : Launch} {G : GG} (hi : wo_i (mW G)) {N : Nat} {v0 v1 v2 : Int} {s : St} {o : Int × St} (hf : m_in N v0 v1 v2 s = some o) : CtI l (mW G) y_M_in (wo y_M_in prog_14_method_3_code 3 (some .boolean)) rm_m_in [vI v0, vI v1, vI v2] s o := by
  refine ct_I (by decide +kernel) hi (Nat.le_of_ble_eq_true rfl) fun X C => ?_
  unfold m_in at hf
  show Rj X (mW G) 3 (qI X (mW G) o) 0 [(0, vI v0), (1, vI v1), (2, vI v2)] [] s
  refine r_iload_n C (q := 1) 0 d_M_in_0 rfl rfl rfl ?_
  refine r_iload_n C (q := 2) 1 d_M_in_1 rfl rfl rfl ?_
  refine r_ic_lt C (t := 14) (q := 5) d_M_in_2 (by decide) rfl (fun c2 => ?_) (fun c2 => ?_)
  · replace hf := ite_t c2 hf
    refine r_iconst C (q := 15) d_M_in_14 rfl ?_
    exact r_zreturn C (by decide) hf d_M_in_15
  · replace hf := ite_f c2 hf
    refine r_iload_n C (q := 6) 0 d_M_in_5 rfl rfl rfl ?_
    refine r_iload_n C (q := 7) 2 d_M_in_6 rfl rfl rfl ?_
    refine r_ic_gt C (t := 14) (q := 10) d_M_in_7 (by decide) rfl (fun c7 => ?_) (fun c7 => ?_)
    · replace hf := ite_t c7 hf
      refine r_iconst C (q := 15) d_M_in_14 rfl ?_
      exact r_zreturn C (by decide) hf d_M_in_15
    · replace hf := ite_f c7 hf
      refine r_iconst C (q := 11) d_M_in_10 rfl ?_
      refine r_goto C (q := 15) d_M_in_11 (by decide) ?_
      exact r_zreturn C (by decide) hf d_M_in_15
def m_pass (N : Nat) (v1 : Int) (s : St) : MM := bd (m_in N v1 1 100 s) (fun r4 s4 => if eq32 r4 0 then (some ((-2), s4)) else (if le32 ((s4 0 0) + v1) 399 then (some ((su s4 0 0 ((s4 0 0) + v1)) 0 0, su s4 0 0 ((s4 0 0) + v1))) else (some ((-2), s4))))
abbrev rm_m_pass : Room := { frames := 1, cells := 0, slots := 0, locals := 22 }
theorem c_m_pass {l : Launch} {G : GG} (hi : wo_i (mW G)) {N : Nat} {v1 : Int} {s : St} {o : Int × St} (hf : m_pass N v1 s = some o) : CtI l (mW G) y_M_pass (wo y_M_pass prog_14_method_7_code 2 (some .int)) rm_m_pass [.ref ((mW G).h 0), vI v1] s o := by
  refine ct_I (by decide +kernel) hi (Nat.le_of_ble_eq_true rfl) fun X C => ?_
  unfold m_pass at hf
  show Rj X (mW G) 2 (qI X (mW G) o) 0 [(0, .ref ((mW G).h 0)), (1, vI v1)] [] s
  refine r_iload_n C (q := 1) 1 d_M_pass_0 rfl rfl rfl ?_
  refine r_iconst C (q := 2) d_M_pass_1 rfl ?_
  refine r_bipush C (q := 4) (x := 100) d_M_pass_2 rfl rfl ?_
  obtain ⟨r4, s4, hg4, hf⟩ := bd_s hf
  refine r_cSI C (q := 7) (As := [vI v1, vI 1, vI 100]) (c_m_in C.i hg4) mt_M_in ml_M_133 rfl rfl rfl ⟨Nat.le_of_ble_eq_true rfl, Nat.le_of_ble_eq_true rfl⟩ rfl (Nat.le_of_ble_eq_true rfl) d_M_pass_4 rfl ?_
  refine r_if_eq C (t := 22) (q := 10) d_M_pass_7 (by decide) rfl (fun c7 => ?_) (fun c7 => ?_)
  · replace hf := ite_t c7 hf
    refine r_bipush C (q := 24) (x := (-2)) d_M_pass_22 rfl rfl ?_
    exact r_ireturn C hf d_M_pass_24
  · replace hf := ite_f c7 hf
    refine r_aload_n C (q := 11) 0 d_M_pass_10 rfl rfl rfl ?_
    refine gxm_M_day C (q := 14) fl_M_137 d_M_pass_11 rfl ?_
    refine r_iload_n C (q := 15) 1 d_M_pass_14 rfl rfl rfl ?_
    refine r_iadd C (q := 16) d_M_pass_15 rfl ?_
    refine r_sipush C (q := 19) (x := 399) d_M_pass_16 rfl rfl ?_
    refine r_ic_le C (t := 25) (q := 22) d_M_pass_19 (by decide) rfl (fun c19 => ?_) (fun c19 => ?_)
    · replace hf := ite_t c19 hf
      refine r_aload_n C (q := 26) 0 d_M_pass_25 rfl rfl rfl ?_
      refine r_dup C (q := 27) d_M_pass_26 rfl rfl ?_
      refine gxm_M_day C (q := 30) fl_M_137 d_M_pass_27 rfl ?_
      refine r_iload_n C (q := 31) 1 d_M_pass_30 rfl rfl rfl ?_
      refine r_iadd C (q := 32) d_M_pass_31 rfl ?_
      refine pxm_M_day C (q := 35) fl_M_137 d_M_pass_32 rfl ?_
      refine r_aload_n C (q := 36) 0 d_M_pass_35 rfl rfl rfl ?_
      refine gxm_M_day C (q := 39) fl_M_137 d_M_pass_36 rfl ?_
      exact r_ireturn C hf d_M_pass_39
    · replace hf := ite_f c19 hf
      refine r_bipush C (q := 24) (x := (-2)) d_M_pass_22 rfl rfl ?_
      exact r_ireturn C hf d_M_pass_24
def m_isSheet (N : Nat) (v0 : Int) (s : St) : MM := bd (m_in N v0 0 3 s) (fun r3 s3 => gd (bit1 r3) (some (r3, s3)))
abbrev rm_m_isSheet : Room := { frames := 1, cells := 0, slots := 0, locals := 22 }
theorem c_m_isSheet {l : Launch} {G : GG} (hi : wo_i (mW G)) {N : Nat} {v0 : Int} {s : St} {o : Int × St} (hf : m_isSheet N v0 s = some o) : CtI l (mW G) y_M_isSheet (wo y_M_isSheet prog_14_method_74_code 1 (some .boolean)) rm_m_isSheet [vI v0] s o := by
  refine ct_I (by decide +kernel) hi (Nat.le_of_ble_eq_true rfl) fun X C => ?_
  unfold m_isSheet at hf
  show Rj X (mW G) 1 (qI X (mW G) o) 0 [(0, vI v0)] [] s
  refine r_iload_n C (q := 1) 0 d_M_isSheet_0 rfl rfl rfl ?_
  refine r_iconst C (q := 2) d_M_isSheet_1 rfl ?_
  refine r_iconst C (q := 3) d_M_isSheet_2 rfl ?_
  obtain ⟨r3, s3, hg3, hf⟩ := bd_s hf
  refine r_cSI C (q := 6) (As := [vI v0, vI 0, vI 3]) (c_m_in C.i hg3) mt_M_in ml_M_133 rfl rfl rfl ⟨Nat.le_of_ble_eq_true rfl, Nat.le_of_ble_eq_true rfl⟩ rfl (Nat.le_of_ble_eq_true rfl) d_M_isSheet_3 rfl ?_
  obtain ⟨g6, hf⟩ := gd_s hf
  exact r_zreturn C g6 hf d_M_isSheet_6
def m_meets (N : Nat) (v1 : Int) (s : St) : MM := some (((-10)) - v1, su s 0 51 v1)
abbrev rm_m_meets : Room := { frames := 0, cells := 0, slots := 0, locals := 0 }
theorem c_m_meets {l : Launch} {G : GG} (hi : wo_i (mW G)) {N : Nat} {v1 : Int} {s : St} {o : Int × St} (hf : m_meets N v1 s = some o) : CtI l (mW G) y_M_meets (wo y_M_meets prog_14_method_73_code 2 (some .int)) rm_m_meets [.ref ((mW G).h 0), vI v1] s o := by
  refine ct_I (by decide +kernel) hi (Nat.le_of_ble_eq_true rfl) fun X C => ?_
  unfold m_meets at hf
  show Rj X (mW G) 2 (qI X (mW G) o) 0 [(0, .ref ((mW G).h 0)), (1, vI v1)] [] s
  refine r_aload_n C (q := 1) 0 d_M_meets_0 rfl rfl rfl ?_
  refine r_iload_n C (q := 2) 1 d_M_meets_1 rfl rfl rfl ?_
  refine pxm_M_finding C (q := 5) fl_M_301 d_M_meets_2 rfl ?_
  refine r_bipush C (q := 7) (x := (-10)) d_M_meets_5 rfl rfl ?_
  refine r_iload_n C (q := 8) 1 d_M_meets_7 rfl rfl rfl ?_
  refine r_isub C (q := 9) d_M_meets_8 rfl ?_
  exact r_ireturn C hf d_M_meets_9
def m_row_167 (N : Nat) (v1 v2 v3 v4 v5 v6 v7 : Int) (k167 : Int → St → MM) (v8 : Int) (s : St) : MM := if le32 v4 v8 then (gd (inb (s 0 1) 36) (gd (inb ((su s 3 (s 0 1) v4) 0 1) 36) (gd (inb ((su (su s 3 (s 0 1) v4) 1 ((su s 3 (s 0 1) v4) 0 1) v1) 0 1) 36) (gd (inb ((su (su (su s 3 (s 0 1) v4) 1 ((su s 3 (s 0 1) v4) 0 1) v1) 4 ((su (su s 3 (s 0 1) v4) 1 ((su s 3 (s 0 1) v4) 0 1) v1) 0 1) v5) 0 1) 36) (gd (inb ((su (su (su (su s 3 (s 0 1) v4) 1 ((su s 3 (s 0 1) v4) 0 1) v1) 4 ((su (su s 3 (s 0 1) v4) 1 ((su s 3 (s 0 1) v4) 0 1) v1) 0 1) v5) 5 ((su (su (su s 3 (s 0 1) v4) 1 ((su s 3 (s 0 1) v4) 0 1) v1) 4 ((su (su s 3 (s 0 1) v4) 1 ((su s 3 (s 0 1) v4) 0 1) v1) 0 1) v5) 0 1) v6) 0 1) 36) (gd (inb ((su (su (su (su (su s 3 (s 0 1) v4) 1 ((su s 3 (s 0 1) v4) 0 1) v1) 4 ((su (su s 3 (s 0 1) v4) 1 ((su s 3 (s 0 1) v4) 0 1) v1) 0 1) v5) 5 ((su (su (su s 3 (s 0 1) v4) 1 ((su s 3 (s 0 1) v4) 0 1) v1) 4 ((su (su s 3 (s 0 1) v4) 1 ((su s 3 (s 0 1) v4) 0 1) v1) 0 1) v5) 0 1) v6) 6 ((su (su (su (su s 3 (s 0 1) v4) 1 ((su s 3 (s 0 1) v4) 0 1) v1) 4 ((su (su s 3 (s 0 1) v4) 1 ((su s 3 (s 0 1) v4) 0 1) v1) 0 1) v5) 5 ((su (su (su s 3 (s 0 1) v4) 1 ((su s 3 (s 0 1) v4) 0 1) v1) 4 ((su (su s 3 (s 0 1) v4) 1 ((su s 3 (s 0 1) v4) 0 1) v1) 0 1) v5) 0 1) v6) 0 1) v7) 0 1) 36) (gd (inb ((su (su (su (su (su (su s 3 (s 0 1) v4) 1 ((su s 3 (s 0 1) v4) 0 1) v1) 4 ((su (su s 3 (s 0 1) v4) 1 ((su s 3 (s 0 1) v4) 0 1) v1) 0 1) v5) 5 ((su (su (su s 3 (s 0 1) v4) 1 ((su s 3 (s 0 1) v4) 0 1) v1) 4 ((su (su s 3 (s 0 1) v4) 1 ((su s 3 (s 0 1) v4) 0 1) v1) 0 1) v5) 0 1) v6) 6 ((su (su (su (su s 3 (s 0 1) v4) 1 ((su s 3 (s 0 1) v4) 0 1) v1) 4 ((su (su s 3 (s 0 1) v4) 1 ((su s 3 (s 0 1) v4) 0 1) v1) 0 1) v5) 5 ((su (su (su s 3 (s 0 1) v4) 1 ((su s 3 (s 0 1) v4) 0 1) v1) 4 ((su (su s 3 (s 0 1) v4) 1 ((su s 3 (s 0 1) v4) 0 1) v1) 0 1) v5) 0 1) v6) 0 1) v7) 7 ((su (su (su (su (su s 3 (s 0 1) v4) 1 ((su s 3 (s 0 1) v4) 0 1) v1) 4 ((su (su s 3 (s 0 1) v4) 1 ((su s 3 (s 0 1) v4) 0 1) v1) 0 1) v5) 5 ((su (su (su s 3 (s 0 1) v4) 1 ((su s 3 (s 0 1) v4) 0 1) v1) 4 ((su (su s 3 (s 0 1) v4) 1 ((su s 3 (s 0 1) v4) 0 1) v1) 0 1) v5) 0 1) v6) 6 ((su (su (su (su s 3 (s 0 1) v4) 1 ((su s 3 (s 0 1) v4) 0 1) v1) 4 ((su (su s 3 (s 0 1) v4) 1 ((su s 3 (s 0 1) v4) 0 1) v1) 0 1) v5) 5 ((su (su (su s 3 (s 0 1) v4) 1 ((su s 3 (s 0 1) v4) 0 1) v1) 4 ((su (su s 3 (s 0 1) v4) 1 ((su s 3 (s 0 1) v4) 0 1) v1) 0 1) v5) 0 1) v6) 0 1) v7) 0 1) ((su (su (su (su (su s 3 (s 0 1) v4) 1 ((su s 3 (s 0 1) v4) 0 1) v1) 4 ((su (su s 3 (s 0 1) v4) 1 ((su s 3 (s 0 1) v4) 0 1) v1) 0 1) v5) 5 ((su (su (su s 3 (s 0 1) v4) 1 ((su s 3 (s 0 1) v4) 0 1) v1) 4 ((su (su s 3 (s 0 1) v4) 1 ((su s 3 (s 0 1) v4) 0 1) v1) 0 1) v5) 0 1) v6) 6 ((su (su (su (su s 3 (s 0 1) v4) 1 ((su s 3 (s 0 1) v4) 0 1) v1) 4 ((su (su s 3 (s 0 1) v4) 1 ((su s 3 (s 0 1) v4) 0 1) v1) 0 1) v5) 5 ((su (su (su s 3 (s 0 1) v4) 1 ((su s 3 (s 0 1) v4) 0 1) v1) 4 ((su (su s 3 (s 0 1) v4) 1 ((su s 3 (s 0 1) v4) 0 1) v1) 0 1) v5) 0 1) v6) 0 1) v7) 0 0)) 0 1) 36) (some (((su (su (su (su (su (su (su (su s 3 (s 0 1) v4) 1 ((su s 3 (s 0 1) v4) 0 1) v1) 4 ((su (su s 3 (s 0 1) v4) 1 ((su s 3 (s 0 1) v4) 0 1) v1) 0 1) v5) 5 ((su (su (su s 3 (s 0 1) v4) 1 ((su s 3 (s 0 1) v4) 0 1) v1) 4 ((su (su s 3 (s 0 1) v4) 1 ((su s 3 (s 0 1) v4) 0 1) v1) 0 1) v5) 0 1) v6) 6 ((su (su (su (su s 3 (s 0 1) v4) 1 ((su s 3 (s 0 1) v4) 0 1) v1) 4 ((su (su s 3 (s 0 1) v4) 1 ((su s 3 (s 0 1) v4) 0 1) v1) 0 1) v5) 5 ((su (su (su s 3 (s 0 1) v4) 1 ((su s 3 (s 0 1) v4) 0 1) v1) 4 ((su (su s 3 (s 0 1) v4) 1 ((su s 3 (s 0 1) v4) 0 1) v1) 0 1) v5) 0 1) v6) 0 1) v7) 7 ((su (su (su (su (su s 3 (s 0 1) v4) 1 ((su s 3 (s 0 1) v4) 0 1) v1) 4 ((su (su s 3 (s 0 1) v4) 1 ((su s 3 (s 0 1) v4) 0 1) v1) 0 1) v5) 5 ((su (su (su s 3 (s 0 1) v4) 1 ((su s 3 (s 0 1) v4) 0 1) v1) 4 ((su (su s 3 (s 0 1) v4) 1 ((su s 3 (s 0 1) v4) 0 1) v1) 0 1) v5) 0 1) v6) 6 ((su (su (su (su s 3 (s 0 1) v4) 1 ((su s 3 (s 0 1) v4) 0 1) v1) 4 ((su (su s 3 (s 0 1) v4) 1 ((su s 3 (s 0 1) v4) 0 1) v1) 0 1) v5) 5 ((su (su (su s 3 (s 0 1) v4) 1 ((su s 3 (s 0 1) v4) 0 1) v1) 4 ((su (su s 3 (s 0 1) v4) 1 ((su s 3 (s 0 1) v4) 0 1) v1) 0 1) v5) 0 1) v6) 0 1) v7) 0 1) ((su (su (su (su (su s 3 (s 0 1) v4) 1 ((su s 3 (s 0 1) v4) 0 1) v1) 4 ((su (su s 3 (s 0 1) v4) 1 ((su s 3 (s 0 1) v4) 0 1) v1) 0 1) v5) 5 ((su (su (su s 3 (s 0 1) v4) 1 ((su s 3 (s 0 1) v4) 0 1) v1) 4 ((su (su s 3 (s 0 1) v4) 1 ((su s 3 (s 0 1) v4) 0 1) v1) 0 1) v5) 0 1) v6) 6 ((su (su (su (su s 3 (s 0 1) v4) 1 ((su s 3 (s 0 1) v4) 0 1) v1) 4 ((su (su s 3 (s 0 1) v4) 1 ((su s 3 (s 0 1) v4) 0 1) v1) 0 1) v5) 5 ((su (su (su s 3 (s 0 1) v4) 1 ((su s 3 (s 0 1) v4) 0 1) v1) 4 ((su (su s 3 (s 0 1) v4) 1 ((su s 3 (s 0 1) v4) 0 1) v1) 0 1) v5) 0 1) v6) 0 1) v7) 0 0)) 8 ((su (su (su (su (su (su s 3 (s 0 1) v4) 1 ((su s 3 (s 0 1) v4) 0 1) v1) 4 ((su (su s 3 (s 0 1) v4) 1 ((su s 3 (s 0 1) v4) 0 1) v1) 0 1) v5) 5 ((su (su (su s 3 (s 0 1) v4) 1 ((su s 3 (s 0 1) v4) 0 1) v1) 4 ((su (su s 3 (s 0 1) v4) 1 ((su s 3 (s 0 1) v4) 0 1) v1) 0 1) v5) 0 1) v6) 6 ((su (su (su (su s 3 (s 0 1) v4) 1 ((su s 3 (s 0 1) v4) 0 1) v1) 4 ((su (su s 3 (s 0 1) v4) 1 ((su s 3 (s 0 1) v4) 0 1) v1) 0 1) v5) 5 ((su (su (su s 3 (s 0 1) v4) 1 ((su s 3 (s 0 1) v4) 0 1) v1) 4 ((su (su s 3 (s 0 1) v4) 1 ((su s 3 (s 0 1) v4) 0 1) v1) 0 1) v5) 0 1) v6) 0 1) v7) 7 ((su (su (su (su (su s 3 (s 0 1) v4) 1 ((su s 3 (s 0 1) v4) 0 1) v1) 4 ((su (su s 3 (s 0 1) v4) 1 ((su s 3 (s 0 1) v4) 0 1) v1) 0 1) v5) 5 ((su (su (su s 3 (s 0 1) v4) 1 ((su s 3 (s 0 1) v4) 0 1) v1) 4 ((su (su s 3 (s 0 1) v4) 1 ((su s 3 (s 0 1) v4) 0 1) v1) 0 1) v5) 0 1) v6) 6 ((su (su (su (su s 3 (s 0 1) v4) 1 ((su s 3 (s 0 1) v4) 0 1) v1) 4 ((su (su s 3 (s 0 1) v4) 1 ((su s 3 (s 0 1) v4) 0 1) v1) 0 1) v5) 5 ((su (su (su s 3 (s 0 1) v4) 1 ((su s 3 (s 0 1) v4) 0 1) v1) 4 ((su (su s 3 (s 0 1) v4) 1 ((su s 3 (s 0 1) v4) 0 1) v1) 0 1) v5) 0 1) v6) 0 1) v7) 0 1) ((su (su (su (su (su s 3 (s 0 1) v4) 1 ((su s 3 (s 0 1) v4) 0 1) v1) 4 ((su (su s 3 (s 0 1) v4) 1 ((su s 3 (s 0 1) v4) 0 1) v1) 0 1) v5) 5 ((su (su (su s 3 (s 0 1) v4) 1 ((su s 3 (s 0 1) v4) 0 1) v1) 4 ((su (su s 3 (s 0 1) v4) 1 ((su s 3 (s 0 1) v4) 0 1) v1) 0 1) v5) 0 1) v6) 6 ((su (su (su (su s 3 (s 0 1) v4) 1 ((su s 3 (s 0 1) v4) 0 1) v1) 4 ((su (su s 3 (s 0 1) v4) 1 ((su s 3 (s 0 1) v4) 0 1) v1) 0 1) v5) 5 ((su (su (su s 3 (s 0 1) v4) 1 ((su s 3 (s 0 1) v4) 0 1) v1) 4 ((su (su s 3 (s 0 1) v4) 1 ((su s 3 (s 0 1) v4) 0 1) v1) 0 1) v5) 0 1) v6) 0 1) v7) 0 0)) 0 1) ((-1))) 0 1 (((su (su (su (su (su (su (su s 3 (s 0 1) v4) 1 ((su s 3 (s 0 1) v4) 0 1) v1) 4 ((su (su s 3 (s 0 1) v4) 1 ((su s 3 (s 0 1) v4) 0 1) v1) 0 1) v5) 5 ((su (su (su s 3 (s 0 1) v4) 1 ((su s 3 (s 0 1) v4) 0 1) v1) 4 ((su (su s 3 (s 0 1) v4) 1 ((su s 3 (s 0 1) v4) 0 1) v1) 0 1) v5) 0 1) v6) 6 ((su (su (su (su s 3 (s 0 1) v4) 1 ((su s 3 (s 0 1) v4) 0 1) v1) 4 ((su (su s 3 (s 0 1) v4) 1 ((su s 3 (s 0 1) v4) 0 1) v1) 0 1) v5) 5 ((su (su (su s 3 (s 0 1) v4) 1 ((su s 3 (s 0 1) v4) 0 1) v1) 4 ((su (su s 3 (s 0 1) v4) 1 ((su s 3 (s 0 1) v4) 0 1) v1) 0 1) v5) 0 1) v6) 0 1) v7) 7 ((su (su (su (su (su s 3 (s 0 1) v4) 1 ((su s 3 (s 0 1) v4) 0 1) v1) 4 ((su (su s 3 (s 0 1) v4) 1 ((su s 3 (s 0 1) v4) 0 1) v1) 0 1) v5) 5 ((su (su (su s 3 (s 0 1) v4) 1 ((su s 3 (s 0 1) v4) 0 1) v1) 4 ((su (su s 3 (s 0 1) v4) 1 ((su s 3 (s 0 1) v4) 0 1) v1) 0 1) v5) 0 1) v6) 6 ((su (su (su (su s 3 (s 0 1) v4) 1 ((su s 3 (s 0 1) v4) 0 1) v1) 4 ((su (su s 3 (s 0 1) v4) 1 ((su s 3 (s 0 1) v4) 0 1) v1) 0 1) v5) 5 ((su (su (su s 3 (s 0 1) v4) 1 ((su s 3 (s 0 1) v4) 0 1) v1) 4 ((su (su s 3 (s 0 1) v4) 1 ((su s 3 (s 0 1) v4) 0 1) v1) 0 1) v5) 0 1) v6) 0 1) v7) 0 1) ((su (su (su (su (su s 3 (s 0 1) v4) 1 ((su s 3 (s 0 1) v4) 0 1) v1) 4 ((su (su s 3 (s 0 1) v4) 1 ((su s 3 (s 0 1) v4) 0 1) v1) 0 1) v5) 5 ((su (su (su s 3 (s 0 1) v4) 1 ((su s 3 (s 0 1) v4) 0 1) v1) 4 ((su (su s 3 (s 0 1) v4) 1 ((su s 3 (s 0 1) v4) 0 1) v1) 0 1) v5) 0 1) v6) 6 ((su (su (su (su s 3 (s 0 1) v4) 1 ((su s 3 (s 0 1) v4) 0 1) v1) 4 ((su (su s 3 (s 0 1) v4) 1 ((su s 3 (s 0 1) v4) 0 1) v1) 0 1) v5) 5 ((su (su (su s 3 (s 0 1) v4) 1 ((su s 3 (s 0 1) v4) 0 1) v1) 4 ((su (su s 3 (s 0 1) v4) 1 ((su s 3 (s 0 1) v4) 0 1) v1) 0 1) v5) 0 1) v6) 0 1) v7) 0 0)) 8 ((su (su (su (su (su (su s 3 (s 0 1) v4) 1 ((su s 3 (s 0 1) v4) 0 1) v1) 4 ((su (su s 3 (s 0 1) v4) 1 ((su s 3 (s 0 1) v4) 0 1) v1) 0 1) v5) 5 ((su (su (su s 3 (s 0 1) v4) 1 ((su s 3 (s 0 1) v4) 0 1) v1) 4 ((su (su s 3 (s 0 1) v4) 1 ((su s 3 (s 0 1) v4) 0 1) v1) 0 1) v5) 0 1) v6) 6 ((su (su (su (su s 3 (s 0 1) v4) 1 ((su s 3 (s 0 1) v4) 0 1) v1) 4 ((su (su s 3 (s 0 1) v4) 1 ((su s 3 (s 0 1) v4) 0 1) v1) 0 1) v5) 5 ((su (su (su s 3 (s 0 1) v4) 1 ((su s 3 (s 0 1) v4) 0 1) v1) 4 ((su (su s 3 (s 0 1) v4) 1 ((su s 3 (s 0 1) v4) 0 1) v1) 0 1) v5) 0 1) v6) 0 1) v7) 7 ((su (su (su (su (su s 3 (s 0 1) v4) 1 ((su s 3 (s 0 1) v4) 0 1) v1) 4 ((su (su s 3 (s 0 1) v4) 1 ((su s 3 (s 0 1) v4) 0 1) v1) 0 1) v5) 5 ((su (su (su s 3 (s 0 1) v4) 1 ((su s 3 (s 0 1) v4) 0 1) v1) 4 ((su (su s 3 (s 0 1) v4) 1 ((su s 3 (s 0 1) v4) 0 1) v1) 0 1) v5) 0 1) v6) 6 ((su (su (su (su s 3 (s 0 1) v4) 1 ((su s 3 (s 0 1) v4) 0 1) v1) 4 ((su (su s 3 (s 0 1) v4) 1 ((su s 3 (s 0 1) v4) 0 1) v1) 0 1) v5) 5 ((su (su (su s 3 (s 0 1) v4) 1 ((su s 3 (s 0 1) v4) 0 1) v1) 4 ((su (su s 3 (s 0 1) v4) 1 ((su s 3 (s 0 1) v4) 0 1) v1) 0 1) v5) 0 1) v6) 0 1) v7) 0 1) ((su (su (su (su (su s 3 (s 0 1) v4) 1 ((su s 3 (s 0 1) v4) 0 1) v1) 4 ((su (su s 3 (s 0 1) v4) 1 ((su s 3 (s 0 1) v4) 0 1) v1) 0 1) v5) 5 ((su (su (su s 3 (s 0 1) v4) 1 ((su s 3 (s 0 1) v4) 0 1) v1) 4 ((su (su s 3 (s 0 1) v4) 1 ((su s 3 (s 0 1) v4) 0 1) v1) 0 1) v5) 0 1) v6) 6 ((su (su (su (su s 3 (s 0 1) v4) 1 ((su s 3 (s 0 1) v4) 0 1) v1) 4 ((su (su s 3 (s 0 1) v4) 1 ((su s 3 (s 0 1) v4) 0 1) v1) 0 1) v5) 5 ((su (su (su s 3 (s 0 1) v4) 1 ((su s 3 (s 0 1) v4) 0 1) v1) 4 ((su (su s 3 (s 0 1) v4) 1 ((su s 3 (s 0 1) v4) 0 1) v1) 0 1) v5) 0 1) v6) 0 1) v7) 0 0)) 0 1) ((-1))) 0 1) + 1)) 0 1) - 1, su (su (su (su (su (su (su (su s 3 (s 0 1) v4) 1 ((su s 3 (s 0 1) v4) 0 1) v1) 4 ((su (su s 3 (s 0 1) v4) 1 ((su s 3 (s 0 1) v4) 0 1) v1) 0 1) v5) 5 ((su (su (su s 3 (s 0 1) v4) 1 ((su s 3 (s 0 1) v4) 0 1) v1) 4 ((su (su s 3 (s 0 1) v4) 1 ((su s 3 (s 0 1) v4) 0 1) v1) 0 1) v5) 0 1) v6) 6 ((su (su (su (su s 3 (s 0 1) v4) 1 ((su s 3 (s 0 1) v4) 0 1) v1) 4 ((su (su s 3 (s 0 1) v4) 1 ((su s 3 (s 0 1) v4) 0 1) v1) 0 1) v5) 5 ((su (su (su s 3 (s 0 1) v4) 1 ((su s 3 (s 0 1) v4) 0 1) v1) 4 ((su (su s 3 (s 0 1) v4) 1 ((su s 3 (s 0 1) v4) 0 1) v1) 0 1) v5) 0 1) v6) 0 1) v7) 7 ((su (su (su (su (su s 3 (s 0 1) v4) 1 ((su s 3 (s 0 1) v4) 0 1) v1) 4 ((su (su s 3 (s 0 1) v4) 1 ((su s 3 (s 0 1) v4) 0 1) v1) 0 1) v5) 5 ((su (su (su s 3 (s 0 1) v4) 1 ((su s 3 (s 0 1) v4) 0 1) v1) 4 ((su (su s 3 (s 0 1) v4) 1 ((su s 3 (s 0 1) v4) 0 1) v1) 0 1) v5) 0 1) v6) 6 ((su (su (su (su s 3 (s 0 1) v4) 1 ((su s 3 (s 0 1) v4) 0 1) v1) 4 ((su (su s 3 (s 0 1) v4) 1 ((su s 3 (s 0 1) v4) 0 1) v1) 0 1) v5) 5 ((su (su (su s 3 (s 0 1) v4) 1 ((su s 3 (s 0 1) v4) 0 1) v1) 4 ((su (su s 3 (s 0 1) v4) 1 ((su s 3 (s 0 1) v4) 0 1) v1) 0 1) v5) 0 1) v6) 0 1) v7) 0 1) ((su (su (su (su (su s 3 (s 0 1) v4) 1 ((su s 3 (s 0 1) v4) 0 1) v1) 4 ((su (su s 3 (s 0 1) v4) 1 ((su s 3 (s 0 1) v4) 0 1) v1) 0 1) v5) 5 ((su (su (su s 3 (s 0 1) v4) 1 ((su s 3 (s 0 1) v4) 0 1) v1) 4 ((su (su s 3 (s 0 1) v4) 1 ((su s 3 (s 0 1) v4) 0 1) v1) 0 1) v5) 0 1) v6) 6 ((su (su (su (su s 3 (s 0 1) v4) 1 ((su s 3 (s 0 1) v4) 0 1) v1) 4 ((su (su s 3 (s 0 1) v4) 1 ((su s 3 (s 0 1) v4) 0 1) v1) 0 1) v5) 5 ((su (su (su s 3 (s 0 1) v4) 1 ((su s 3 (s 0 1) v4) 0 1) v1) 4 ((su (su s 3 (s 0 1) v4) 1 ((su s 3 (s 0 1) v4) 0 1) v1) 0 1) v5) 0 1) v6) 0 1) v7) 0 0)) 8 ((su (su (su (su (su (su s 3 (s 0 1) v4) 1 ((su s 3 (s 0 1) v4) 0 1) v1) 4 ((su (su s 3 (s 0 1) v4) 1 ((su s 3 (s 0 1) v4) 0 1) v1) 0 1) v5) 5 ((su (su (su s 3 (s 0 1) v4) 1 ((su s 3 (s 0 1) v4) 0 1) v1) 4 ((su (su s 3 (s 0 1) v4) 1 ((su s 3 (s 0 1) v4) 0 1) v1) 0 1) v5) 0 1) v6) 6 ((su (su (su (su s 3 (s 0 1) v4) 1 ((su s 3 (s 0 1) v4) 0 1) v1) 4 ((su (su s 3 (s 0 1) v4) 1 ((su s 3 (s 0 1) v4) 0 1) v1) 0 1) v5) 5 ((su (su (su s 3 (s 0 1) v4) 1 ((su s 3 (s 0 1) v4) 0 1) v1) 4 ((su (su s 3 (s 0 1) v4) 1 ((su s 3 (s 0 1) v4) 0 1) v1) 0 1) v5) 0 1) v6) 0 1) v7) 7 ((su (su (su (su (su s 3 (s 0 1) v4) 1 ((su s 3 (s 0 1) v4) 0 1) v1) 4 ((su (su s 3 (s 0 1) v4) 1 ((su s 3 (s 0 1) v4) 0 1) v1) 0 1) v5) 5 ((su (su (su s 3 (s 0 1) v4) 1 ((su s 3 (s 0 1) v4) 0 1) v1) 4 ((su (su s 3 (s 0 1) v4) 1 ((su s 3 (s 0 1) v4) 0 1) v1) 0 1) v5) 0 1) v6) 6 ((su (su (su (su s 3 (s 0 1) v4) 1 ((su s 3 (s 0 1) v4) 0 1) v1) 4 ((su (su s 3 (s 0 1) v4) 1 ((su s 3 (s 0 1) v4) 0 1) v1) 0 1) v5) 5 ((su (su (su s 3 (s 0 1) v4) 1 ((su s 3 (s 0 1) v4) 0 1) v1) 4 ((su (su s 3 (s 0 1) v4) 1 ((su s 3 (s 0 1) v4) 0 1) v1) 0 1) v5) 0 1) v6) 0 1) v7) 0 1) ((su (su (su (su (su s 3 (s 0 1) v4) 1 ((su s 3 (s 0 1) v4) 0 1) v1) 4 ((su (su s 3 (s 0 1) v4) 1 ((su s 3 (s 0 1) v4) 0 1) v1) 0 1) v5) 5 ((su (su (su s 3 (s 0 1) v4) 1 ((su s 3 (s 0 1) v4) 0 1) v1) 4 ((su (su s 3 (s 0 1) v4) 1 ((su s 3 (s 0 1) v4) 0 1) v1) 0 1) v5) 0 1) v6) 6 ((su (su (su (su s 3 (s 0 1) v4) 1 ((su s 3 (s 0 1) v4) 0 1) v1) 4 ((su (su s 3 (s 0 1) v4) 1 ((su s 3 (s 0 1) v4) 0 1) v1) 0 1) v5) 5 ((su (su (su s 3 (s 0 1) v4) 1 ((su s 3 (s 0 1) v4) 0 1) v1) 4 ((su (su s 3 (s 0 1) v4) 1 ((su s 3 (s 0 1) v4) 0 1) v1) 0 1) v5) 0 1) v6) 0 1) v7) 0 0)) 0 1) ((-1))) 0 1 (((su (su (su (su (su (su (su s 3 (s 0 1) v4) 1 ((su s 3 (s 0 1) v4) 0 1) v1) 4 ((su (su s 3 (s 0 1) v4) 1 ((su s 3 (s 0 1) v4) 0 1) v1) 0 1) v5) 5 ((su (su (su s 3 (s 0 1) v4) 1 ((su s 3 (s 0 1) v4) 0 1) v1) 4 ((su (su s 3 (s 0 1) v4) 1 ((su s 3 (s 0 1) v4) 0 1) v1) 0 1) v5) 0 1) v6) 6 ((su (su (su (su s 3 (s 0 1) v4) 1 ((su s 3 (s 0 1) v4) 0 1) v1) 4 ((su (su s 3 (s 0 1) v4) 1 ((su s 3 (s 0 1) v4) 0 1) v1) 0 1) v5) 5 ((su (su (su s 3 (s 0 1) v4) 1 ((su s 3 (s 0 1) v4) 0 1) v1) 4 ((su (su s 3 (s 0 1) v4) 1 ((su s 3 (s 0 1) v4) 0 1) v1) 0 1) v5) 0 1) v6) 0 1) v7) 7 ((su (su (su (su (su s 3 (s 0 1) v4) 1 ((su s 3 (s 0 1) v4) 0 1) v1) 4 ((su (su s 3 (s 0 1) v4) 1 ((su s 3 (s 0 1) v4) 0 1) v1) 0 1) v5) 5 ((su (su (su s 3 (s 0 1) v4) 1 ((su s 3 (s 0 1) v4) 0 1) v1) 4 ((su (su s 3 (s 0 1) v4) 1 ((su s 3 (s 0 1) v4) 0 1) v1) 0 1) v5) 0 1) v6) 6 ((su (su (su (su s 3 (s 0 1) v4) 1 ((su s 3 (s 0 1) v4) 0 1) v1) 4 ((su (su s 3 (s 0 1) v4) 1 ((su s 3 (s 0 1) v4) 0 1) v1) 0 1) v5) 5 ((su (su (su s 3 (s 0 1) v4) 1 ((su s 3 (s 0 1) v4) 0 1) v1) 4 ((su (su s 3 (s 0 1) v4) 1 ((su s 3 (s 0 1) v4) 0 1) v1) 0 1) v5) 0 1) v6) 0 1) v7) 0 1) ((su (su (su (su (su s 3 (s 0 1) v4) 1 ((su s 3 (s 0 1) v4) 0 1) v1) 4 ((su (su s 3 (s 0 1) v4) 1 ((su s 3 (s 0 1) v4) 0 1) v1) 0 1) v5) 5 ((su (su (su s 3 (s 0 1) v4) 1 ((su s 3 (s 0 1) v4) 0 1) v1) 4 ((su (su s 3 (s 0 1) v4) 1 ((su s 3 (s 0 1) v4) 0 1) v1) 0 1) v5) 0 1) v6) 6 ((su (su (su (su s 3 (s 0 1) v4) 1 ((su s 3 (s 0 1) v4) 0 1) v1) 4 ((su (su s 3 (s 0 1) v4) 1 ((su s 3 (s 0 1) v4) 0 1) v1) 0 1) v5) 5 ((su (su (su s 3 (s 0 1) v4) 1 ((su s 3 (s 0 1) v4) 0 1) v1) 4 ((su (su s 3 (s 0 1) v4) 1 ((su s 3 (s 0 1) v4) 0 1) v1) 0 1) v5) 0 1) v6) 0 1) v7) 0 0)) 8 ((su (su (su (su (su (su s 3 (s 0 1) v4) 1 ((su s 3 (s 0 1) v4) 0 1) v1) 4 ((su (su s 3 (s 0 1) v4) 1 ((su s 3 (s 0 1) v4) 0 1) v1) 0 1) v5) 5 ((su (su (su s 3 (s 0 1) v4) 1 ((su s 3 (s 0 1) v4) 0 1) v1) 4 ((su (su s 3 (s 0 1) v4) 1 ((su s 3 (s 0 1) v4) 0 1) v1) 0 1) v5) 0 1) v6) 6 ((su (su (su (su s 3 (s 0 1) v4) 1 ((su s 3 (s 0 1) v4) 0 1) v1) 4 ((su (su s 3 (s 0 1) v4) 1 ((su s 3 (s 0 1) v4) 0 1) v1) 0 1) v5) 5 ((su (su (su s 3 (s 0 1) v4) 1 ((su s 3 (s 0 1) v4) 0 1) v1) 4 ((su (su s 3 (s 0 1) v4) 1 ((su s 3 (s 0 1) v4) 0 1) v1) 0 1) v5) 0 1) v6) 0 1) v7) 7 ((su (su (su (su (su s 3 (s 0 1) v4) 1 ((su s 3 (s 0 1) v4) 0 1) v1) 4 ((su (su s 3 (s 0 1) v4) 1 ((su s 3 (s 0 1) v4) 0 1) v1) 0 1) v5) 5 ((su (su (su s 3 (s 0 1) v4) 1 ((su s 3 (s 0 1) v4) 0 1) v1) 4 ((su (su s 3 (s 0 1) v4) 1 ((su s 3 (s 0 1) v4) 0 1) v1) 0 1) v5) 0 1) v6) 6 ((su (su (su (su s 3 (s 0 1) v4) 1 ((su s 3 (s 0 1) v4) 0 1) v1) 4 ((su (su s 3 (s 0 1) v4) 1 ((su s 3 (s 0 1) v4) 0 1) v1) 0 1) v5) 5 ((su (su (su s 3 (s 0 1) v4) 1 ((su s 3 (s 0 1) v4) 0 1) v1) 4 ((su (su s 3 (s 0 1) v4) 1 ((su s 3 (s 0 1) v4) 0 1) v1) 0 1) v5) 0 1) v6) 0 1) v7) 0 1) ((su (su (su (su (su s 3 (s 0 1) v4) 1 ((su s 3 (s 0 1) v4) 0 1) v1) 4 ((su (su s 3 (s 0 1) v4) 1 ((su s 3 (s 0 1) v4) 0 1) v1) 0 1) v5) 5 ((su (su (su s 3 (s 0 1) v4) 1 ((su s 3 (s 0 1) v4) 0 1) v1) 4 ((su (su s 3 (s 0 1) v4) 1 ((su s 3 (s 0 1) v4) 0 1) v1) 0 1) v5) 0 1) v6) 6 ((su (su (su (su s 3 (s 0 1) v4) 1 ((su s 3 (s 0 1) v4) 0 1) v1) 4 ((su (su s 3 (s 0 1) v4) 1 ((su s 3 (s 0 1) v4) 0 1) v1) 0 1) v5) 5 ((su (su (su s 3 (s 0 1) v4) 1 ((su s 3 (s 0 1) v4) 0 1) v1) 4 ((su (su s 3 (s 0 1) v4) 1 ((su s 3 (s 0 1) v4) 0 1) v1) 0 1) v5) 0 1) v6) 0 1) v7) 0 0)) 0 1) ((-1))) 0 1) + 1)))))))))) else (gd (inb (((40 * v2) + v3) + v8) 160) (gd (inb ((10 * (s 0 1)) + v8) 360) (k167 (v8 + 1) (su s 2 ((10 * (s 0 1)) + v8) (s 36 (((40 * v2) + v3) + v8))))))
def m_row_112 (N : Nat) (v1 v2 v3 v4 v5 v6 v7 : Int) (k112 : Int → St → MM) (v8 : Int) (s : St) : MM := if le32 v4 v8 then (if eq32 (s 0 1) 36 then (some ((-4), s)) else (itr (m_row_167 N v1 v2 v3 v4 v5 v6 v7) (fun _ _ => none) N 0 s)) else (gd (inb (((40 * v2) + v3) + v8) 160) (bd (m_in N (s 36 (((40 * v2) + v3) + v8)) 97 122 s) (fun r137 s137 => if eq32 r137 0 then (some ((-3), s137)) else (k112 (v8 + 1) s137))))
def m_row_51 (N : Nat) (v1 v2 v3 v4 v5 v6 v7 : Int) (s : St) : MM := bd (m_in N v6 ((-1)) 7 s) (fun r56 s56 => if eq32 r56 0 then (some ((-2), s56)) else (bd (m_in N v7 ((-1)) 1 s56) (fun r66 s66 => if eq32 r66 0 then (some ((-2), s66)) else (gd (inb v2 4) (if eq32 (s66 33 v2) 0 then (bd (m_meets N 1 s66) (fun r86 s86 => some (r86, s86))) else (gd (inb v2 4) (if le32 v3 ((s66 35 v2) - v4) then (itr (m_row_112 N v1 v2 v3 v4 v5 v6 v7) (fun _ _ => none) N 0 s66) else (bd (m_meets N 2 s66) (fun r105 s105 => some (r105, s105))))))))))
def m_row (N : Nat) (v1 v2 v3 v4 v5 v6 v7 : Int) (s : St) : MM := bd (m_in N v1 0 2 s) (fun r3 s3 => if eq32 r3 0 then (some ((-2), s3)) else (bd (m_isSheet N v2 s3) (fun r10 s10 => if eq32 r10 0 then (some ((-2), s10)) else (if lt32 v3 0 then (some ((-2), s10)) else (bd (m_in N v4 1 10 s10) (fun r25 s25 => if eq32 r25 0 then (some ((-2), s25)) else (if eq32 v5 ((-1)) then (m_row_51 N v1 v2 v3 v4 v5 v6 v7  s25) else (bd (m_in N v5 1500 1999 s25) (fun r45 s45 => if eq32 r45 0 then (some ((-2), s45)) else (m_row_51 N v1 v2 v3 v4 v5 v6 v7  s45))))))))))
abbrev rm_m_row : Room := { frames := 2, cells := 0, slots := 0, locals := 42 }
theorem s_m_row_167 {X : CxT} {l : Launch} {G : GG} (C : Cx X l (mW G) 9 prog_14_method_8_code "OneSelfModel" (wo y_M_row prog_14_method_8_code 9 (some .int)) (some .int) rm_m_row) {o : Int × St} {N : Nat} {v1 v2 v3 v4 v5 v6 v7 v8 : Int} {k167 : Int → St → MM} (hk167 : ∀ (u8 : Int) (s : St), k167 u8 s = some o → Rj X (mW G) 9 (qI X (mW G) o) 167 [(0, .ref ((mW G).h 0)), (1, vI v1), (2, vI v2), (3, vI v3), (4, vI v4), (5, vI v5), (6, vI v6), (7, vI v7), (8, vI u8)] [] s) {s : St} (hf : m_row_167 N v1 v2 v3 v4 v5 v6 v7 k167 v8 s = some o) : Rj X (mW G) 9 (qI X (mW G) o) 167 [(0, .ref ((mW G).h 0)), (1, vI v1), (2, vI v2), (3, vI v3), (4, vI v4), (5, vI v5), (6, vI v6), (7, vI v7), (8, vI v8)] [] s := by
  unfold m_row_167 at hf
  refine r_iload C (q := 169) 8 d_M_row_167 rfl rfl ?_
  refine r_iload C (q := 171) 4 d_M_row_169 rfl rfl ?_
  refine r_ic_ge C (t := 209) (q := 174) d_M_row_171 (by decide) rfl (fun c171 => ?_) (fun c171 => ?_)
  · replace hf := ite_t c171 hf
    refine r_aload_n C (q := 210) 0 d_M_row_209 rfl rfl rfl ?_
    refine gxm_M_lengths C (q := 213) fl_M_16 d_M_row_210 rfl ?_
    refine r_aload_n C (q := 214) 0 d_M_row_213 rfl rfl rfl ?_
    refine gxm_M_rows C (q := 217) fl_M_130 d_M_row_214 rfl ?_
    refine r_iload C (q := 219) 4 d_M_row_217 rfl rfl ?_
    obtain ⟨g219, hf⟩ := gd_s hf
    refine r_iast C (q := 220) 3 (Nat.le_of_ble_eq_true rfl) (fun _ => rfl) 0 rfl g219 (by decide) d_M_row_219 rfl ?_
    refine r_aload_n C (q := 221) 0 d_M_row_220 rfl rfl rfl ?_
    refine gxm_M_registerOf C (q := 224) fl_M_7 d_M_row_221 rfl ?_
    refine r_aload_n C (q := 225) 0 d_M_row_224 rfl rfl rfl ?_
    refine gxm_M_rows C (q := 228) fl_M_130 d_M_row_225 rfl ?_
    refine r_iload_n C (q := 229) 1 d_M_row_228 rfl rfl rfl ?_
    obtain ⟨g229, hf⟩ := gd_s hf
    refine r_iast C (q := 230) 1 (Nat.le_of_ble_eq_true rfl) (fun _ => rfl) 0 rfl g229 (by decide) d_M_row_229 rfl ?_
    refine r_aload_n C (q := 231) 0 d_M_row_230 rfl rfl rfl ?_
    refine gxm_M_yearOf C (q := 234) fl_M_19 d_M_row_231 rfl ?_
    refine r_aload_n C (q := 235) 0 d_M_row_234 rfl rfl rfl ?_
    refine gxm_M_rows C (q := 238) fl_M_130 d_M_row_235 rfl ?_
    refine r_iload C (q := 240) 5 d_M_row_238 rfl rfl ?_
    obtain ⟨g240, hf⟩ := gd_s hf
    refine r_iast C (q := 241) 4 (Nat.le_of_ble_eq_true rfl) (fun _ => rfl) 0 rfl g240 (by decide) d_M_row_240 rfl ?_
    refine r_aload_n C (q := 242) 0 d_M_row_241 rfl rfl rfl ?_
    refine gxm_M_placeOf C (q := 245) fl_M_22 d_M_row_242 rfl ?_
    refine r_aload_n C (q := 246) 0 d_M_row_245 rfl rfl rfl ?_
    refine gxm_M_rows C (q := 249) fl_M_130 d_M_row_246 rfl ?_
    refine r_iload C (q := 251) 6 d_M_row_249 rfl rfl ?_
    obtain ⟨g251, hf⟩ := gd_s hf
    refine r_iast C (q := 252) 5 (Nat.le_of_ble_eq_true rfl) (fun _ => rfl) 0 rfl g251 (by decide) d_M_row_251 rfl ?_
    refine r_aload_n C (q := 253) 0 d_M_row_252 rfl rfl rfl ?_
    refine gxm_M_sortOf C (q := 256) fl_M_25 d_M_row_253 rfl ?_
    refine r_aload_n C (q := 257) 0 d_M_row_256 rfl rfl rfl ?_
    refine gxm_M_rows C (q := 260) fl_M_130 d_M_row_257 rfl ?_
    refine r_iload C (q := 262) 7 d_M_row_260 rfl rfl ?_
    obtain ⟨g262, hf⟩ := gd_s hf
    refine r_iast C (q := 263) 6 (Nat.le_of_ble_eq_true rfl) (fun _ => rfl) 0 rfl g262 (by decide) d_M_row_262 rfl ?_
    refine r_aload_n C (q := 264) 0 d_M_row_263 rfl rfl rfl ?_
    refine gxm_M_told C (q := 267) fl_M_28 d_M_row_264 rfl ?_
    refine r_aload_n C (q := 268) 0 d_M_row_267 rfl rfl rfl ?_
    refine gxm_M_rows C (q := 271) fl_M_130 d_M_row_268 rfl ?_
    refine r_aload_n C (q := 272) 0 d_M_row_271 rfl rfl rfl ?_
    refine gxm_M_day C (q := 275) fl_M_137 d_M_row_272 rfl ?_
    obtain ⟨g275, hf⟩ := gd_s hf
    refine r_iast C (q := 276) 7 (Nat.le_of_ble_eq_true rfl) (fun _ => rfl) 0 rfl g275 (by decide) d_M_row_275 rfl ?_
    refine r_aload_n C (q := 277) 0 d_M_row_276 rfl rfl rfl ?_
    refine gxm_M_back C (q := 280) fl_M_31 d_M_row_277 rfl ?_
    refine r_aload_n C (q := 281) 0 d_M_row_280 rfl rfl rfl ?_
    refine gxm_M_rows C (q := 284) fl_M_130 d_M_row_281 rfl ?_
    refine r_iconst C (q := 285) d_M_row_284 rfl ?_
    obtain ⟨g285, hf⟩ := gd_s hf
    refine r_iast C (q := 286) 8 (Nat.le_of_ble_eq_true rfl) (fun _ => rfl) 0 rfl g285 (by decide) d_M_row_285 rfl ?_
    refine r_aload_n C (q := 287) 0 d_M_row_286 rfl rfl rfl ?_
    refine r_dup C (q := 288) d_M_row_287 rfl rfl ?_
    refine gxm_M_rows C (q := 291) fl_M_130 d_M_row_288 rfl ?_
    refine r_iconst C (q := 292) d_M_row_291 rfl ?_
    refine r_iadd C (q := 293) d_M_row_292 rfl ?_
    refine pxm_M_rows C (q := 296) fl_M_130 d_M_row_293 rfl ?_
    refine r_aload_n C (q := 297) 0 d_M_row_296 rfl rfl rfl ?_
    refine gxm_M_rows C (q := 300) fl_M_130 d_M_row_297 rfl ?_
    refine r_iconst C (q := 301) d_M_row_300 rfl ?_
    refine r_isub C (q := 302) d_M_row_301 rfl ?_
    exact r_ireturn C hf d_M_row_302
  · replace hf := ite_f c171 hf
    refine r_aload_n C (q := 175) 0 d_M_row_174 rfl rfl rfl ?_
    refine gxm_M_letters C (q := 178) fl_M_13 d_M_row_175 rfl ?_
    refine r_bipush C (q := 180) (x := 10) d_M_row_178 rfl rfl ?_
    refine r_aload_n C (q := 181) 0 d_M_row_180 rfl rfl rfl ?_
    refine gxm_M_rows C (q := 184) fl_M_130 d_M_row_181 rfl ?_
    refine r_imul C (q := 185) d_M_row_184 rfl ?_
    refine r_iload C (q := 187) 8 d_M_row_185 rfl rfl ?_
    refine r_iadd C (q := 188) d_M_row_187 rfl ?_
    refine r_aload_n C (q := 189) 0 d_M_row_188 rfl rfl rfl ?_
    refine gxm_M_items C (q := 192) fl_M_124 d_M_row_189 rfl ?_
    refine r_bipush C (q := 194) (x := 40) d_M_row_192 rfl rfl ?_
    refine r_iload_n C (q := 195) 2 d_M_row_194 rfl rfl rfl ?_
    refine r_imul C (q := 196) d_M_row_195 rfl ?_
    refine r_iload_n C (q := 197) 3 d_M_row_196 rfl rfl rfl ?_
    refine r_iadd C (q := 198) d_M_row_197 rfl ?_
    refine r_iload C (q := 200) 8 d_M_row_198 rfl rfl ?_
    refine r_iadd C (q := 201) d_M_row_200 rfl ?_
    obtain ⟨g201, hf⟩ := gd_s hf
    refine r_iald C (q := 202) 36 (Nat.le_of_ble_eq_true rfl) (fun _ => rfl) 0 rfl g201 (by decide) d_M_row_201 rfl ?_
    obtain ⟨g202, hf⟩ := gd_s hf
    refine r_iast C (q := 203) 2 (Nat.le_of_ble_eq_true rfl) (fun _ => rfl) 0 rfl g202 (by decide) d_M_row_202 rfl ?_
    refine r_iinc C (q := 206) (lv' := [(8, vI (v8 + 1)), (0, .ref ((mW G).h 0)), (1, vI v1), (2, vI v2), (3, vI v3), (4, vI v4), (5, vI v5), (6, vI v6), (7, vI v7)]) 8 d_M_row_203 rfl (by decide) rfl rfl ?_
    refine r_goto C (q := 167) d_M_row_206 (by decide) ?_
    exact r_sub [1, 2, 3, 4, 5, 6, 7, 8, 0] rfl (hk167 _ _  hf)
theorem s_m_row_112 {X : CxT} {l : Launch} {G : GG} (C : Cx X l (mW G) 9 prog_14_method_8_code "OneSelfModel" (wo y_M_row prog_14_method_8_code 9 (some .int)) (some .int) rm_m_row) {o : Int × St} {N : Nat} {v1 v2 v3 v4 v5 v6 v7 v8 : Int} {k112 : Int → St → MM} (hk112 : ∀ (u8 : Int) (s : St), k112 u8 s = some o → Rj X (mW G) 9 (qI X (mW G) o) 112 [(0, .ref ((mW G).h 0)), (1, vI v1), (2, vI v2), (3, vI v3), (4, vI v4), (5, vI v5), (6, vI v6), (7, vI v7), (8, vI u8)] [] s) {s : St} (hf : m_row_112 N v1 v2 v3 v4 v5 v6 v7 k112 v8 s = some o) : Rj X (mW G) 9 (qI X (mW G) o) 112 [(0, .ref ((mW G).h 0)), (1, vI v1), (2, vI v2), (3, vI v3), (4, vI v4), (5, vI v5), (6, vI v6), (7, vI v7), (8, vI v8)] [] s := by
  unfold m_row_112 at hf
  refine r_iload C (q := 114) 8 d_M_row_112 rfl rfl ?_
  refine r_iload C (q := 116) 4 d_M_row_114 rfl rfl ?_
  refine r_ic_ge C (t := 152) (q := 119) d_M_row_116 (by decide) rfl (fun c116 => ?_) (fun c116 => ?_)
  · replace hf := ite_t c116 hf
    refine r_aload_n C (q := 153) 0 d_M_row_152 rfl rfl rfl ?_
    refine gxm_M_rows C (q := 156) fl_M_130 d_M_row_153 rfl ?_
    refine r_bipush C (q := 158) (x := 36) d_M_row_156 rfl rfl ?_
    refine r_ic_ne C (t := 164) (q := 161) d_M_row_158 (by decide) rfl (fun c158 => ?_) (fun c158 => ?_)
    · replace hf := ite_t c158 hf
      refine r_bipush C (q := 163) (x := (-4)) d_M_row_161 rfl rfl ?_
      exact r_ireturn C hf d_M_row_163
    · replace hf := ite_f c158 hf
      refine r_iconst C (q := 165) d_M_row_164 rfl ?_
      refine r_istore C (q := 167) (lv' := [(8, vI 0), (0, .ref ((mW G).h 0)), (1, vI v1), (2, vI v2), (3, vI v3), (4, vI v4), (5, vI v5), (6, vI v6), (7, vI v7)]) d_M_row_165 (by decide) rfl rfl ?_
      have hL : ∀ (u8 : Int) (z : St), itr (m_row_167 N v1 v2 v3 v4 v5 v6 v7) (fun _ _ => none) N u8 z = some o → Rj X (mW G) 9 (qI X (mW G) o) 167 [(0, .ref ((mW G).h 0)), (1, vI v1), (2, vI v2), (3, vI v3), (4, vI v4), (5, vI v5), (6, vI v6), (7, vI v7), (8, vI u8)] [] z := itr_ind (m_row_167 N v1 v2 v3 v4 v5 v6 v7) (fun _ _ => none) (fun k => ∀ (u8 : Int) (z : St), k u8 z = some o → Rj X (mW G) 9 (qI X (mW G) o) 167 [(0, .ref ((mW G).h 0)), (1, vI v1), (2, vI v2), (3, vI v3), (4, vI v4), (5, vI v5), (6, vI v6), (7, vI v7), (8, vI u8)] [] z) (fun _ _  h => by cases h) (fun k hk u8 z h => s_m_row_167 C hk h) N
      exact r_sub [1, 2, 3, 4, 5, 6, 7, 8, 0] rfl (hL _ _  hf)
  · replace hf := ite_f c116 hf
    refine r_aload_n C (q := 120) 0 d_M_row_119 rfl rfl rfl ?_
    refine gxm_M_items C (q := 123) fl_M_124 d_M_row_120 rfl ?_
    refine r_bipush C (q := 125) (x := 40) d_M_row_123 rfl rfl ?_
    refine r_iload_n C (q := 126) 2 d_M_row_125 rfl rfl rfl ?_
    refine r_imul C (q := 127) d_M_row_126 rfl ?_
    refine r_iload_n C (q := 128) 3 d_M_row_127 rfl rfl rfl ?_
    refine r_iadd C (q := 129) d_M_row_128 rfl ?_
    refine r_iload C (q := 131) 8 d_M_row_129 rfl rfl ?_
    refine r_iadd C (q := 132) d_M_row_131 rfl ?_
    obtain ⟨g132, hf⟩ := gd_s hf
    refine r_iald C (q := 133) 36 (Nat.le_of_ble_eq_true rfl) (fun _ => rfl) 0 rfl g132 (by decide) d_M_row_132 rfl ?_
    refine r_bipush C (q := 135) (x := 97) d_M_row_133 rfl rfl ?_
    refine r_bipush C (q := 137) (x := 122) d_M_row_135 rfl rfl ?_
    obtain ⟨r137, s137, hg137, hf⟩ := bd_s hf
    refine r_cSI C (q := 140) (As := [vI (s 36 (((40 * v2) + v3) + v8)), vI 97, vI 122]) (c_m_in C.i hg137) mt_M_in ml_M_133 rfl rfl rfl ⟨Nat.le_of_ble_eq_true rfl, Nat.le_of_ble_eq_true rfl⟩ rfl (Nat.le_of_ble_eq_true rfl) d_M_row_137 rfl ?_
    refine r_if_ne C (t := 146) (q := 143) d_M_row_140 (by decide) rfl (fun c140 => ?_) (fun c140 => ?_)
    · replace hf := ite_t c140 hf
      refine r_bipush C (q := 145) (x := (-3)) d_M_row_143 rfl rfl ?_
      exact r_ireturn C hf d_M_row_145
    · replace hf := ite_f c140 hf
      refine r_iinc C (q := 149) (lv' := [(8, vI (v8 + 1)), (0, .ref ((mW G).h 0)), (1, vI v1), (2, vI v2), (3, vI v3), (4, vI v4), (5, vI v5), (6, vI v6), (7, vI v7)]) 8 d_M_row_146 rfl (by decide) rfl rfl ?_
      refine r_goto C (q := 112) d_M_row_149 (by decide) ?_
      exact r_sub [1, 2, 3, 4, 5, 6, 7, 8, 0] rfl (hk112 _ _  hf)
theorem s_m_row_51 {X : CxT} {l : Launch} {G : GG} (C : Cx X l (mW G) 9 prog_14_method_8_code "OneSelfModel" (wo y_M_row prog_14_method_8_code 9 (some .int)) (some .int) rm_m_row) {o : Int × St} {N : Nat} {v1 v2 v3 v4 v5 v6 v7 : Int} {s : St} (hf : m_row_51 N v1 v2 v3 v4 v5 v6 v7 s = some o) : Rj X (mW G) 9 (qI X (mW G) o) 51 [(0, .ref ((mW G).h 0)), (1, vI v1), (2, vI v2), (3, vI v3), (4, vI v4), (5, vI v5), (6, vI v6), (7, vI v7)] [] s := by
  unfold m_row_51 at hf
  refine r_iload C (q := 53) 6 d_M_row_51 rfl rfl ?_
  refine r_iconst C (q := 54) d_M_row_53 rfl ?_
  refine r_bipush C (q := 56) (x := 7) d_M_row_54 rfl rfl ?_
  obtain ⟨r56, s56, hg56, hf⟩ := bd_s hf
  refine r_cSI C (q := 59) (As := [vI v6, vI ((-1)), vI 7]) (c_m_in C.i hg56) mt_M_in ml_M_133 rfl rfl rfl ⟨Nat.le_of_ble_eq_true rfl, Nat.le_of_ble_eq_true rfl⟩ rfl (Nat.le_of_ble_eq_true rfl) d_M_row_56 rfl ?_
  refine r_if_eq C (t := 72) (q := 62) d_M_row_59 (by decide) rfl (fun c59 => ?_) (fun c59 => ?_)
  · replace hf := ite_t c59 hf
    refine r_bipush C (q := 74) (x := (-2)) d_M_row_72 rfl rfl ?_
    exact r_ireturn C hf d_M_row_74
  · replace hf := ite_f c59 hf
    refine r_iload C (q := 64) 7 d_M_row_62 rfl rfl ?_
    refine r_iconst C (q := 65) d_M_row_64 rfl ?_
    refine r_iconst C (q := 66) d_M_row_65 rfl ?_
    obtain ⟨r66, s66, hg66, hf⟩ := bd_s hf
    refine r_cSI C (q := 69) (As := [vI v7, vI ((-1)), vI 1]) (c_m_in C.i hg66) mt_M_in ml_M_133 rfl rfl rfl ⟨Nat.le_of_ble_eq_true rfl, Nat.le_of_ble_eq_true rfl⟩ rfl (Nat.le_of_ble_eq_true rfl) d_M_row_66 rfl ?_
    refine r_if_ne C (t := 75) (q := 72) d_M_row_69 (by decide) rfl (fun c69 => ?_) (fun c69 => ?_)
    · replace hf := ite_t c69 hf
      refine r_bipush C (q := 74) (x := (-2)) d_M_row_72 rfl rfl ?_
      exact r_ireturn C hf d_M_row_74
    · replace hf := ite_f c69 hf
      refine r_aload_n C (q := 76) 0 d_M_row_75 rfl rfl rfl ?_
      refine gxm_M_isThere C (q := 79) fl_M_115 d_M_row_76 rfl ?_
      refine r_iload_n C (q := 80) 2 d_M_row_79 rfl rfl rfl ?_
      obtain ⟨g80, hf⟩ := gd_s hf
      refine r_zald C (q := 81) 33 (Nat.le_of_ble_eq_true rfl) (fun _ => rfl) 2 rfl g80 (by decide) d_M_row_80 rfl ?_
      refine r_if_ne C (t := 90) (q := 84) d_M_row_81 (by decide) rfl (fun c81 => ?_) (fun c81 => ?_)
      · replace hf := ite_t c81 hf
        refine r_aload_n C (q := 85) 0 d_M_row_84 rfl rfl rfl ?_
        refine r_iconst C (q := 86) d_M_row_85 rfl ?_
        obtain ⟨r86, s86, hg86, hf⟩ := bd_s hf
        refine r_cVI C (q := 89) (As := [vI 1]) (k0 := 0) (c_m_meets C.i hg86) mt_M_meets ml_M_144 (Nat.le_of_ble_eq_true rfl) rfl rfl rfl rfl rfl rfl ⟨Nat.le_of_ble_eq_true rfl, Nat.le_of_ble_eq_true rfl⟩ rfl (Nat.le_of_ble_eq_true rfl) d_M_row_86 rfl ?_
        exact r_ireturn C hf d_M_row_89
      · replace hf := ite_f c81 hf
        refine r_iload_n C (q := 91) 3 d_M_row_90 rfl rfl rfl ?_
        refine r_aload_n C (q := 92) 0 d_M_row_91 rfl rfl rfl ?_
        refine gxm_M_sizes C (q := 95) fl_M_121 d_M_row_92 rfl ?_
        refine r_iload_n C (q := 96) 2 d_M_row_95 rfl rfl rfl ?_
        obtain ⟨g96, hf⟩ := gd_s hf
        refine r_iald C (q := 97) 35 (Nat.le_of_ble_eq_true rfl) (fun _ => rfl) 0 rfl g96 (by decide) d_M_row_96 rfl ?_
        refine r_iload C (q := 99) 4 d_M_row_97 rfl rfl ?_
        refine r_isub C (q := 100) d_M_row_99 rfl ?_
        refine r_ic_le C (t := 109) (q := 103) d_M_row_100 (by decide) rfl (fun c100 => ?_) (fun c100 => ?_)
        · replace hf := ite_t c100 hf
          refine r_iconst C (q := 110) d_M_row_109 rfl ?_
          refine r_istore C (q := 112) (lv' := [(8, vI 0), (0, .ref ((mW G).h 0)), (1, vI v1), (2, vI v2), (3, vI v3), (4, vI v4), (5, vI v5), (6, vI v6), (7, vI v7)]) d_M_row_110 (by decide) rfl rfl ?_
          have hL : ∀ (u8 : Int) (z : St), itr (m_row_112 N v1 v2 v3 v4 v5 v6 v7) (fun _ _ => none) N u8 z = some o → Rj X (mW G) 9 (qI X (mW G) o) 112 [(0, .ref ((mW G).h 0)), (1, vI v1), (2, vI v2), (3, vI v3), (4, vI v4), (5, vI v5), (6, vI v6), (7, vI v7), (8, vI u8)] [] z := itr_ind (m_row_112 N v1 v2 v3 v4 v5 v6 v7) (fun _ _ => none) (fun k => ∀ (u8 : Int) (z : St), k u8 z = some o → Rj X (mW G) 9 (qI X (mW G) o) 112 [(0, .ref ((mW G).h 0)), (1, vI v1), (2, vI v2), (3, vI v3), (4, vI v4), (5, vI v5), (6, vI v6), (7, vI v7), (8, vI u8)] [] z) (fun _ _  h => by cases h) (fun k hk u8 z h => s_m_row_112 C hk h) N
          exact r_sub [1, 2, 3, 4, 5, 6, 7, 8, 0] rfl (hL _ _  hf)
        · replace hf := ite_f c100 hf
          refine r_aload_n C (q := 104) 0 d_M_row_103 rfl rfl rfl ?_
          refine r_iconst C (q := 105) d_M_row_104 rfl ?_
          obtain ⟨r105, s105, hg105, hf⟩ := bd_s hf
          refine r_cVI C (q := 108) (As := [vI 2]) (k0 := 0) (c_m_meets C.i hg105) mt_M_meets ml_M_144 (Nat.le_of_ble_eq_true rfl) rfl rfl rfl rfl rfl rfl ⟨Nat.le_of_ble_eq_true rfl, Nat.le_of_ble_eq_true rfl⟩ rfl (Nat.le_of_ble_eq_true rfl) d_M_row_105 rfl ?_
          exact r_ireturn C hf d_M_row_108
theorem c_m_row {l : Launch} {G : GG} (hi : wo_i (mW G)) {N : Nat} {v1 v2 v3 v4 v5 v6 v7 : Int} {s : St} {o : Int × St} (hf : m_row N v1 v2 v3 v4 v5 v6 v7 s = some o) : CtI l (mW G) y_M_row (wo y_M_row prog_14_method_8_code 9 (some .int)) rm_m_row [.ref ((mW G).h 0), vI v1, vI v2, vI v3, vI v4, vI v5, vI v6, vI v7] s o := by
  refine ct_I (by decide +kernel) hi (Nat.le_of_ble_eq_true rfl) fun X C => ?_
  unfold m_row at hf
  show Rj X (mW G) 9 (qI X (mW G) o) 0 [(0, .ref ((mW G).h 0)), (1, vI v1), (2, vI v2), (3, vI v3), (4, vI v4), (5, vI v5), (6, vI v6), (7, vI v7)] [] s
  refine r_iload_n C (q := 1) 1 d_M_row_0 rfl rfl rfl ?_
  refine r_iconst C (q := 2) d_M_row_1 rfl ?_
  refine r_iconst C (q := 3) d_M_row_2 rfl ?_
  obtain ⟨r3, s3, hg3, hf⟩ := bd_s hf
  refine r_cSI C (q := 6) (As := [vI v1, vI 0, vI 2]) (c_m_in C.i hg3) mt_M_in ml_M_133 rfl rfl rfl ⟨Nat.le_of_ble_eq_true rfl, Nat.le_of_ble_eq_true rfl⟩ rfl (Nat.le_of_ble_eq_true rfl) d_M_row_3 rfl ?_
  refine r_if_eq C (t := 72) (q := 9) d_M_row_6 (by decide) rfl (fun c6 => ?_) (fun c6 => ?_)
  · replace hf := ite_t c6 hf
    refine r_bipush C (q := 74) (x := (-2)) d_M_row_72 rfl rfl ?_
    exact r_ireturn C hf d_M_row_74
  · replace hf := ite_f c6 hf
    refine r_iload_n C (q := 10) 2 d_M_row_9 rfl rfl rfl ?_
    obtain ⟨r10, s10, hg10, hf⟩ := bd_s hf
    refine r_cSI C (q := 13) (As := [vI v2]) (c_m_isSheet C.i hg10) mt_M_isSheet ml_M_140 rfl rfl rfl ⟨Nat.le_of_ble_eq_true rfl, Nat.le_of_ble_eq_true rfl⟩ rfl (Nat.le_of_ble_eq_true rfl) d_M_row_10 rfl ?_
    refine r_if_eq C (t := 72) (q := 16) d_M_row_13 (by decide) rfl (fun c13 => ?_) (fun c13 => ?_)
    · replace hf := ite_t c13 hf
      refine r_bipush C (q := 74) (x := (-2)) d_M_row_72 rfl rfl ?_
      exact r_ireturn C hf d_M_row_74
    · replace hf := ite_f c13 hf
      refine r_iload_n C (q := 17) 3 d_M_row_16 rfl rfl rfl ?_
      refine r_if_lt C (t := 72) (q := 20) d_M_row_17 (by decide) rfl (fun c17 => ?_) (fun c17 => ?_)
      · replace hf := ite_t c17 hf
        refine r_bipush C (q := 74) (x := (-2)) d_M_row_72 rfl rfl ?_
        exact r_ireturn C hf d_M_row_74
      · replace hf := ite_f c17 hf
        refine r_iload C (q := 22) 4 d_M_row_20 rfl rfl ?_
        refine r_iconst C (q := 23) d_M_row_22 rfl ?_
        refine r_bipush C (q := 25) (x := 10) d_M_row_23 rfl rfl ?_
        obtain ⟨r25, s25, hg25, hf⟩ := bd_s hf
        refine r_cSI C (q := 28) (As := [vI v4, vI 1, vI 10]) (c_m_in C.i hg25) mt_M_in ml_M_133 rfl rfl rfl ⟨Nat.le_of_ble_eq_true rfl, Nat.le_of_ble_eq_true rfl⟩ rfl (Nat.le_of_ble_eq_true rfl) d_M_row_25 rfl ?_
        refine r_if_eq C (t := 72) (q := 31) d_M_row_28 (by decide) rfl (fun c28 => ?_) (fun c28 => ?_)
        · replace hf := ite_t c28 hf
          refine r_bipush C (q := 74) (x := (-2)) d_M_row_72 rfl rfl ?_
          exact r_ireturn C hf d_M_row_74
        · replace hf := ite_f c28 hf
          refine r_iload C (q := 33) 5 d_M_row_31 rfl rfl ?_
          refine r_iconst C (q := 34) d_M_row_33 rfl ?_
          refine r_ic_eq C (t := 51) (q := 37) d_M_row_34 (by decide) rfl (fun c34 => ?_) (fun c34 => ?_)
          · replace hf := ite_t c34 hf
            exact r_sub [0, 1, 2, 3, 4, 5, 6, 7] rfl (s_m_row_51 C hf)
          · replace hf := ite_f c34 hf
            refine r_iload C (q := 39) 5 d_M_row_37 rfl rfl ?_
            refine r_sipush C (q := 42) (x := 1500) d_M_row_39 rfl rfl ?_
            refine r_sipush C (q := 45) (x := 1999) d_M_row_42 rfl rfl ?_
            obtain ⟨r45, s45, hg45, hf⟩ := bd_s hf
            refine r_cSI C (q := 48) (As := [vI v5, vI 1500, vI 1999]) (c_m_in C.i hg45) mt_M_in ml_M_133 rfl rfl rfl ⟨Nat.le_of_ble_eq_true rfl, Nat.le_of_ble_eq_true rfl⟩ rfl (Nat.le_of_ble_eq_true rfl) d_M_row_45 rfl ?_
            refine r_if_eq C (t := 72) (q := 51) d_M_row_48 (by decide) rfl (fun c48 => ?_) (fun c48 => ?_)
            · replace hf := ite_t c48 hf
              refine r_bipush C (q := 74) (x := (-2)) d_M_row_72 rfl rfl ?_
              exact r_ireturn C hf d_M_row_74
            · replace hf := ite_f c48 hf
              exact r_sub [0, 1, 2, 3, 4, 5, 6, 7] rfl (s_m_row_51 C hf)
def m_isRow (N : Nat) (v1 : Int) (s : St) : MM := bd (m_in N v1 0 ((s 0 1) - 1) s) (fun r8 s8 => gd (bit1 r8) (some (r8, s8)))
abbrev rm_m_isRow : Room := { frames := 1, cells := 0, slots := 0, locals := 22 }
theorem c_m_isRow {l : Launch} {G : GG} (hi : wo_i (mW G)) {N : Nat} {v1 : Int} {s : St} {o : Int × St} (hf : m_isRow N v1 s = some o) : CtI l (mW G) y_M_isRow (wo y_M_isRow prog_14_method_5_code 2 (some .boolean)) rm_m_isRow [.ref ((mW G).h 0), vI v1] s o := by
  refine ct_I (by decide +kernel) hi (Nat.le_of_ble_eq_true rfl) fun X C => ?_
  unfold m_isRow at hf
  show Rj X (mW G) 2 (qI X (mW G) o) 0 [(0, .ref ((mW G).h 0)), (1, vI v1)] [] s
  refine r_iload_n C (q := 1) 1 d_M_isRow_0 rfl rfl rfl ?_
  refine r_iconst C (q := 2) d_M_isRow_1 rfl ?_
  refine r_aload_n C (q := 3) 0 d_M_isRow_2 rfl rfl rfl ?_
  refine gxm_M_rows C (q := 6) fl_M_130 d_M_isRow_3 rfl ?_
  refine r_iconst C (q := 7) d_M_isRow_6 rfl ?_
  refine r_isub C (q := 8) d_M_isRow_7 rfl ?_
  obtain ⟨r8, s8, hg8, hf⟩ := bd_s hf
  refine r_cSI C (q := 11) (As := [vI v1, vI 0, vI ((s 0 1) - 1)]) (c_m_in C.i hg8) mt_M_in ml_M_133 rfl rfl rfl ⟨Nat.le_of_ble_eq_true rfl, Nat.le_of_ble_eq_true rfl⟩ rfl (Nat.le_of_ble_eq_true rfl) d_M_isRow_8 rfl ?_
  obtain ⟨g11, hf⟩ := gd_s hf
  exact r_zreturn C g11 hf d_M_isRow_11
def m_takeBack (N : Nat) (v1 : Int) (s : St) : MM := bd (m_isRow N v1 s) (fun r2 s2 => if eq32 r2 0 then (some ((-2), s2)) else (gd (inb v1 36) (if eq32 (s2 8 v1) ((-1)) then (gd (inb v1 36) (some (1, su s2 8 v1 (s2 0 0)))) else (some ((-3), s2)))))
abbrev rm_m_takeBack : Room := { frames := 2, cells := 0, slots := 0, locals := 43 }
theorem c_m_takeBack {l : Launch} {G : GG} (hi : wo_i (mW G)) {N : Nat} {v1 : Int} {s : St} {o : Int × St} (hf : m_takeBack N v1 s = some o) : CtI l (mW G) y_M_takeBack (wo y_M_takeBack prog_14_method_9_code 2 (some .int)) rm_m_takeBack [.ref ((mW G).h 0), vI v1] s o := by
  refine ct_I (by decide +kernel) hi (Nat.le_of_ble_eq_true rfl) fun X C => ?_
  unfold m_takeBack at hf
  show Rj X (mW G) 2 (qI X (mW G) o) 0 [(0, .ref ((mW G).h 0)), (1, vI v1)] [] s
  refine r_aload_n C (q := 1) 0 d_M_takeBack_0 rfl rfl rfl ?_
  refine r_iload_n C (q := 2) 1 d_M_takeBack_1 rfl rfl rfl ?_
  obtain ⟨r2, s2, hg2, hf⟩ := bd_s hf
  refine r_cVI C (q := 5) (As := [vI v1]) (k0 := 0) (c_m_isRow C.i hg2) mt_M_isRow ml_M_148 (Nat.le_of_ble_eq_true rfl) rfl rfl rfl rfl rfl rfl ⟨Nat.le_of_ble_eq_true rfl, Nat.le_of_ble_eq_true rfl⟩ rfl (Nat.le_of_ble_eq_true rfl) d_M_takeBack_2 rfl ?_
  refine r_if_ne C (t := 11) (q := 8) d_M_takeBack_5 (by decide) rfl (fun c5 => ?_) (fun c5 => ?_)
  · replace hf := ite_t c5 hf
    refine r_bipush C (q := 10) (x := (-2)) d_M_takeBack_8 rfl rfl ?_
    exact r_ireturn C hf d_M_takeBack_10
  · replace hf := ite_f c5 hf
    refine r_aload_n C (q := 12) 0 d_M_takeBack_11 rfl rfl rfl ?_
    refine gxm_M_back C (q := 15) fl_M_31 d_M_takeBack_12 rfl ?_
    refine r_iload_n C (q := 16) 1 d_M_takeBack_15 rfl rfl rfl ?_
    obtain ⟨g16, hf⟩ := gd_s hf
    refine r_iald C (q := 17) 8 (Nat.le_of_ble_eq_true rfl) (fun _ => rfl) 0 rfl g16 (by decide) d_M_takeBack_16 rfl ?_
    refine r_iconst C (q := 18) d_M_takeBack_17 rfl ?_
    refine r_ic_eq C (t := 24) (q := 21) d_M_takeBack_18 (by decide) rfl (fun c18 => ?_) (fun c18 => ?_)
    · replace hf := ite_t c18 hf
      refine r_aload_n C (q := 25) 0 d_M_takeBack_24 rfl rfl rfl ?_
      refine gxm_M_back C (q := 28) fl_M_31 d_M_takeBack_25 rfl ?_
      refine r_iload_n C (q := 29) 1 d_M_takeBack_28 rfl rfl rfl ?_
      refine r_aload_n C (q := 30) 0 d_M_takeBack_29 rfl rfl rfl ?_
      refine gxm_M_day C (q := 33) fl_M_137 d_M_takeBack_30 rfl ?_
      obtain ⟨g33, hf⟩ := gd_s hf
      refine r_iast C (q := 34) 8 (Nat.le_of_ble_eq_true rfl) (fun _ => rfl) 0 rfl g33 (by decide) d_M_takeBack_33 rfl ?_
      refine r_iconst C (q := 35) d_M_takeBack_34 rfl ?_
      exact r_ireturn C hf d_M_takeBack_35
    · replace hf := ite_f c18 hf
      refine r_bipush C (q := 23) (x := (-3)) d_M_takeBack_21 rfl rfl ?_
      exact r_ireturn C hf d_M_takeBack_23
def m_isKnown_50 (N : Nat) (s : St) : MM := some (1, s)
def m_isKnown_19 (N : Nat) (v1 t0 : Int) (s : St) : MM := gd (inb v1 36) (if lt32 t0 (s 7 v1) then (some (0, s)) else (gd (inb v1 36) (if eq32 (s 8 v1) ((-1)) then (m_isKnown_50 N   s) else (gd (inb v1 36) (if le32 (s 8 v1) t0 then (some (0, s)) else (m_isKnown_50 N   s))))))
def m_isKnown (N : Nat) (v1 : Int) (s : St) : MM := if eq32 (s 0 10) ((-1)) then (m_isKnown_19 N v1 (s 0 0) s) else (m_isKnown_19 N v1 (s 0 10) s)
abbrev rm_m_isKnown : Room := { frames := 0, cells := 0, slots := 0, locals := 0 }
theorem s_m_isKnown_50 {X : CxT} {l : Launch} {G : GG} (C : Cx X l (mW G) 3 prog_14_method_6_code "OneSelfModel" (wo y_M_isKnown prog_14_method_6_code 3 (some .boolean)) (some .boolean) rm_m_isKnown) {o : Int × St} {N : Nat} {s : St} (hf : m_isKnown_50 N  s = some o) : Rj X (mW G) 3 (qI X (mW G) o) 50 [] [] s := by
  unfold m_isKnown_50 at hf
  refine r_iconst C (q := 51) d_M_isKnown_50 rfl ?_
  refine r_goto C (q := 55) d_M_isKnown_51 (by decide) ?_
  exact r_zreturn C (by decide) hf d_M_isKnown_55
theorem s_m_isKnown_19 {X : CxT} {l : Launch} {G : GG} (C : Cx X l (mW G) 3 prog_14_method_6_code "OneSelfModel" (wo y_M_isKnown prog_14_method_6_code 3 (some .boolean)) (some .boolean) rm_m_isKnown) {o : Int × St} {N : Nat} {v1 t0 : Int} {s : St} (hf : m_isKnown_19 N v1 t0 s = some o) : Rj X (mW G) 3 (qI X (mW G) o) 19 [(0, .ref ((mW G).h 0)), (1, vI v1)] [vI t0] s := by
  unfold m_isKnown_19 at hf
  refine r_istore_n C (q := 20) (lv' := [(2, vI t0), (0, .ref ((mW G).h 0)), (1, vI v1)]) d_M_isKnown_19 rfl (by decide) rfl rfl ?_
  refine r_aload_n C (q := 21) 1 d_M_isKnown_20 rfl rfl rfl ?_
  refine gxm_M_told C (q := 24) fl_M_28 d_M_isKnown_21 rfl ?_
  refine r_iload_n C (q := 25) 2 d_M_isKnown_24 rfl rfl rfl ?_
  obtain ⟨g25, hf⟩ := gd_s hf
  refine r_iald C (q := 26) 7 (Nat.le_of_ble_eq_true rfl) (fun _ => rfl) 0 rfl g25 (by decide) d_M_isKnown_25 rfl ?_
  refine r_iload_n C (q := 27) 0 d_M_isKnown_26 rfl rfl rfl ?_
  refine r_ic_gt C (t := 54) (q := 30) d_M_isKnown_27 (by decide) rfl (fun c27 => ?_) (fun c27 => ?_)
  · replace hf := ite_t c27 hf
    refine r_iconst C (q := 55) d_M_isKnown_54 rfl ?_
    exact r_zreturn C (by decide) hf d_M_isKnown_55
  · replace hf := ite_f c27 hf
    refine r_aload_n C (q := 31) 1 d_M_isKnown_30 rfl rfl rfl ?_
    refine gxm_M_back C (q := 34) fl_M_31 d_M_isKnown_31 rfl ?_
    refine r_iload_n C (q := 35) 2 d_M_isKnown_34 rfl rfl rfl ?_
    obtain ⟨g35, hf⟩ := gd_s hf
    refine r_iald C (q := 36) 8 (Nat.le_of_ble_eq_true rfl) (fun _ => rfl) 0 rfl g35 (by decide) d_M_isKnown_35 rfl ?_
    refine r_iconst C (q := 37) d_M_isKnown_36 rfl ?_
    refine r_ic_eq C (t := 50) (q := 40) d_M_isKnown_37 (by decide) rfl (fun c37 => ?_) (fun c37 => ?_)
    · replace hf := ite_t c37 hf
      exact r_sub [] rfl (s_m_isKnown_50 C hf)
    · replace hf := ite_f c37 hf
      refine r_aload_n C (q := 41) 1 d_M_isKnown_40 rfl rfl rfl ?_
      refine gxm_M_back C (q := 44) fl_M_31 d_M_isKnown_41 rfl ?_
      refine r_iload_n C (q := 45) 2 d_M_isKnown_44 rfl rfl rfl ?_
      obtain ⟨g45, hf⟩ := gd_s hf
      refine r_iald C (q := 46) 8 (Nat.le_of_ble_eq_true rfl) (fun _ => rfl) 0 rfl g45 (by decide) d_M_isKnown_45 rfl ?_
      refine r_iload_n C (q := 47) 0 d_M_isKnown_46 rfl rfl rfl ?_
      refine r_ic_le C (t := 54) (q := 50) d_M_isKnown_47 (by decide) rfl (fun c47 => ?_) (fun c47 => ?_)
      · replace hf := ite_t c47 hf
        refine r_iconst C (q := 55) d_M_isKnown_54 rfl ?_
        exact r_zreturn C (by decide) hf d_M_isKnown_55
      · replace hf := ite_f c47 hf
        exact r_sub [] rfl (s_m_isKnown_50 C hf)
theorem c_m_isKnown {l : Launch} {G : GG} (hi : wo_i (mW G)) {N : Nat} {v1 : Int} {s : St} {o : Int × St} (hf : m_isKnown N v1 s = some o) : CtI l (mW G) y_M_isKnown (wo y_M_isKnown prog_14_method_6_code 3 (some .boolean)) rm_m_isKnown [.ref ((mW G).h 0), vI v1] s o := by
  refine ct_I (by decide +kernel) hi (Nat.le_of_ble_eq_true rfl) fun X C => ?_
  unfold m_isKnown at hf
  show Rj X (mW G) 3 (qI X (mW G) o) 0 [(0, .ref ((mW G).h 0)), (1, vI v1)] [] s
  refine r_aload_n C (q := 1) 0 d_M_isKnown_0 rfl rfl rfl ?_
  refine gxm_M_knownTo C (q := 4) fl_M_34 d_M_isKnown_1 rfl ?_
  refine r_iconst C (q := 5) d_M_isKnown_4 rfl ?_
  refine r_ic_ne C (t := 15) (q := 8) d_M_isKnown_5 (by decide) rfl (fun c5 => ?_) (fun c5 => ?_)
  · replace hf := ite_t c5 hf
    refine r_aload_n C (q := 9) 0 d_M_isKnown_8 rfl rfl rfl ?_
    refine gxm_M_day C (q := 12) fl_M_137 d_M_isKnown_9 rfl ?_
    refine r_goto C (q := 19) d_M_isKnown_12 (by decide) ?_
    exact r_sub [0, 1] rfl (s_m_isKnown_19 C hf)
  · replace hf := ite_f c5 hf
    refine r_aload_n C (q := 16) 0 d_M_isKnown_15 rfl rfl rfl ?_
    refine gxm_M_knownTo C (q := 19) fl_M_34 d_M_isKnown_16 rfl ?_
    exact r_sub [0, 1] rfl (s_m_isKnown_19 C hf)
def m_aboutOf (N : Nat) (v1 v2 : Int) (s : St) : MM := if s32 v2 = 0 then (gd (inb v1 36) (some (s 1 v1, s))) else (if s32 v2 = 1 then (gd (inb v1 36) (some (s 4 v1, s))) else (if s32 v2 = 2 then (gd (inb v1 36) (some (s 5 v1, s))) else (if s32 v2 = 3 then (gd (inb v1 36) (some (s 6 v1, s))) else (if s32 v2 = 4 then (gd (inb v1 36) (some (s 3 v1, s))) else (if s32 v2 = 5 then (gd (inb v1 36) (some (s 7 v1, s))) else (if s32 v2 = 6 then (gd (inb v1 36) (some (s 8 v1, s))) else (if s32 v2 = 7 then (bd (m_isKnown N v1 s) (fun r99 s99 => if eq32 r99 0 then (some (0, s99)) else (some (1, s99)))) else (some ((-2), s)))))))))
abbrev rm_m_aboutOf : Room := { frames := 1, cells := 0, slots := 0, locals := 22 }
theorem c_m_aboutOf {l : Launch} {G : GG} (hi : wo_i (mW G)) {N : Nat} {v1 v2 : Int} {s : St} {o : Int × St} (hf : m_aboutOf N v1 v2 s = some o) : CtI l (mW G) y_M_aboutOf (wo y_M_aboutOf prog_14_method_10_code 3 (some .int)) rm_m_aboutOf [.ref ((mW G).h 0), vI v1, vI v2] s o := by
  refine ct_I (by decide +kernel) hi (Nat.le_of_ble_eq_true rfl) fun X C => ?_
  unfold m_aboutOf at hf
  show Rj X (mW G) 3 (qI X (mW G) o) 0 [(0, .ref ((mW G).h 0)), (1, vI v1), (2, vI v2)] [] s
  refine r_iload_n C (q := 1) 2 d_M_aboutOf_0 rfl rfl rfl ?_
  by_cases c1_0 : s32 v2 = 0
  · replace hf := ite_t c1_0 hf
    refine r_tabIn C (t := 48) d_M_aboutOf_1 c1_0 (by decide) (by decide) rfl (by decide) ?_
    refine r_aload_n C (q := 49) 0 d_M_aboutOf_48 rfl rfl rfl ?_
    refine gxm_M_registerOf C (q := 52) fl_M_7 d_M_aboutOf_49 rfl ?_
    refine r_iload_n C (q := 53) 1 d_M_aboutOf_52 rfl rfl rfl ?_
    obtain ⟨g53, hf⟩ := gd_s hf
    refine r_iald C (q := 54) 1 (Nat.le_of_ble_eq_true rfl) (fun _ => rfl) 0 rfl g53 (by decide) d_M_aboutOf_53 rfl ?_
    exact r_ireturn C hf d_M_aboutOf_54
  replace hf := ite_f c1_0 hf
  by_cases c1_1 : s32 v2 = 1
  · replace hf := ite_t c1_1 hf
    refine r_tabIn C (t := 55) d_M_aboutOf_1 c1_1 (by decide) (by decide) rfl (by decide) ?_
    refine r_aload_n C (q := 56) 0 d_M_aboutOf_55 rfl rfl rfl ?_
    refine gxm_M_yearOf C (q := 59) fl_M_19 d_M_aboutOf_56 rfl ?_
    refine r_iload_n C (q := 60) 1 d_M_aboutOf_59 rfl rfl rfl ?_
    obtain ⟨g60, hf⟩ := gd_s hf
    refine r_iald C (q := 61) 4 (Nat.le_of_ble_eq_true rfl) (fun _ => rfl) 0 rfl g60 (by decide) d_M_aboutOf_60 rfl ?_
    exact r_ireturn C hf d_M_aboutOf_61
  replace hf := ite_f c1_1 hf
  by_cases c1_2 : s32 v2 = 2
  · replace hf := ite_t c1_2 hf
    refine r_tabIn C (t := 62) d_M_aboutOf_1 c1_2 (by decide) (by decide) rfl (by decide) ?_
    refine r_aload_n C (q := 63) 0 d_M_aboutOf_62 rfl rfl rfl ?_
    refine gxm_M_placeOf C (q := 66) fl_M_22 d_M_aboutOf_63 rfl ?_
    refine r_iload_n C (q := 67) 1 d_M_aboutOf_66 rfl rfl rfl ?_
    obtain ⟨g67, hf⟩ := gd_s hf
    refine r_iald C (q := 68) 5 (Nat.le_of_ble_eq_true rfl) (fun _ => rfl) 0 rfl g67 (by decide) d_M_aboutOf_67 rfl ?_
    exact r_ireturn C hf d_M_aboutOf_68
  replace hf := ite_f c1_2 hf
  by_cases c1_3 : s32 v2 = 3
  · replace hf := ite_t c1_3 hf
    refine r_tabIn C (t := 69) d_M_aboutOf_1 c1_3 (by decide) (by decide) rfl (by decide) ?_
    refine r_aload_n C (q := 70) 0 d_M_aboutOf_69 rfl rfl rfl ?_
    refine gxm_M_sortOf C (q := 73) fl_M_25 d_M_aboutOf_70 rfl ?_
    refine r_iload_n C (q := 74) 1 d_M_aboutOf_73 rfl rfl rfl ?_
    obtain ⟨g74, hf⟩ := gd_s hf
    refine r_iald C (q := 75) 6 (Nat.le_of_ble_eq_true rfl) (fun _ => rfl) 0 rfl g74 (by decide) d_M_aboutOf_74 rfl ?_
    exact r_ireturn C hf d_M_aboutOf_75
  replace hf := ite_f c1_3 hf
  by_cases c1_4 : s32 v2 = 4
  · replace hf := ite_t c1_4 hf
    refine r_tabIn C (t := 76) d_M_aboutOf_1 c1_4 (by decide) (by decide) rfl (by decide) ?_
    refine r_aload_n C (q := 77) 0 d_M_aboutOf_76 rfl rfl rfl ?_
    refine gxm_M_lengths C (q := 80) fl_M_16 d_M_aboutOf_77 rfl ?_
    refine r_iload_n C (q := 81) 1 d_M_aboutOf_80 rfl rfl rfl ?_
    obtain ⟨g81, hf⟩ := gd_s hf
    refine r_iald C (q := 82) 3 (Nat.le_of_ble_eq_true rfl) (fun _ => rfl) 0 rfl g81 (by decide) d_M_aboutOf_81 rfl ?_
    exact r_ireturn C hf d_M_aboutOf_82
  replace hf := ite_f c1_4 hf
  by_cases c1_5 : s32 v2 = 5
  · replace hf := ite_t c1_5 hf
    refine r_tabIn C (t := 83) d_M_aboutOf_1 c1_5 (by decide) (by decide) rfl (by decide) ?_
    refine r_aload_n C (q := 84) 0 d_M_aboutOf_83 rfl rfl rfl ?_
    refine gxm_M_told C (q := 87) fl_M_28 d_M_aboutOf_84 rfl ?_
    refine r_iload_n C (q := 88) 1 d_M_aboutOf_87 rfl rfl rfl ?_
    obtain ⟨g88, hf⟩ := gd_s hf
    refine r_iald C (q := 89) 7 (Nat.le_of_ble_eq_true rfl) (fun _ => rfl) 0 rfl g88 (by decide) d_M_aboutOf_88 rfl ?_
    exact r_ireturn C hf d_M_aboutOf_89
  replace hf := ite_f c1_5 hf
  by_cases c1_6 : s32 v2 = 6
  · replace hf := ite_t c1_6 hf
    refine r_tabIn C (t := 90) d_M_aboutOf_1 c1_6 (by decide) (by decide) rfl (by decide) ?_
    refine r_aload_n C (q := 91) 0 d_M_aboutOf_90 rfl rfl rfl ?_
    refine gxm_M_back C (q := 94) fl_M_31 d_M_aboutOf_91 rfl ?_
    refine r_iload_n C (q := 95) 1 d_M_aboutOf_94 rfl rfl rfl ?_
    obtain ⟨g95, hf⟩ := gd_s hf
    refine r_iald C (q := 96) 8 (Nat.le_of_ble_eq_true rfl) (fun _ => rfl) 0 rfl g95 (by decide) d_M_aboutOf_95 rfl ?_
    exact r_ireturn C hf d_M_aboutOf_96
  replace hf := ite_f c1_6 hf
  by_cases c1_7 : s32 v2 = 7
  · replace hf := ite_t c1_7 hf
    refine r_tabIn C (t := 97) d_M_aboutOf_1 c1_7 (by decide) (by decide) rfl (by decide) ?_
    refine r_aload_n C (q := 98) 0 d_M_aboutOf_97 rfl rfl rfl ?_
    refine r_iload_n C (q := 99) 1 d_M_aboutOf_98 rfl rfl rfl ?_
    obtain ⟨r99, s99, hg99, hf⟩ := bd_s hf
    refine r_cVI C (q := 102) (As := [vI v1]) (k0 := 0) (c_m_isKnown C.i hg99) mt_M_isKnown ml_M_151 (Nat.le_of_ble_eq_true rfl) rfl rfl rfl rfl rfl rfl ⟨Nat.le_of_ble_eq_true rfl, Nat.le_of_ble_eq_true rfl⟩ rfl (Nat.le_of_ble_eq_true rfl) d_M_aboutOf_99 rfl ?_
    refine r_if_eq C (t := 109) (q := 105) d_M_aboutOf_102 (by decide) rfl (fun c102 => ?_) (fun c102 => ?_)
    · replace hf := ite_t c102 hf
      refine r_iconst C (q := 110) d_M_aboutOf_109 rfl ?_
      exact r_ireturn C hf d_M_aboutOf_110
    · replace hf := ite_f c102 hf
      refine r_iconst C (q := 106) d_M_aboutOf_105 rfl ?_
      refine r_goto C (q := 110) d_M_aboutOf_106 (by decide) ?_
      exact r_ireturn C hf d_M_aboutOf_110
  replace hf := ite_f c1_7 hf
  refine r_tabOut C (t := 111) d_M_aboutOf_1 (by omega) (by decide) ?_
  refine r_bipush C (q := 113) (x := (-2)) d_M_aboutOf_111 rfl rfl ?_
  exact r_ireturn C hf d_M_aboutOf_113
def m_about (N : Nat) (v1 v2 : Int) (s : St) : MM := bd (m_isRow N v1 s) (fun r2 s2 => if eq32 r2 0 then (some ((-2), s2)) else (bd (m_aboutOf N v1 v2 s2) (fun r11 s11 => some (r11, s11))))
abbrev rm_m_about : Room := { frames := 2, cells := 0, slots := 0, locals := 44 }
theorem c_m_about {l : Launch} {G : GG} (hi : wo_i (mW G)) {N : Nat} {v1 v2 : Int} {s : St} {o : Int × St} (hf : m_about N v1 v2 s = some o) : CtI l (mW G) y_M_about (wo y_M_about prog_14_method_11_code 3 (some .int)) rm_m_about [.ref ((mW G).h 0), vI v1, vI v2] s o := by
  refine ct_I (by decide +kernel) hi (Nat.le_of_ble_eq_true rfl) fun X C => ?_
  unfold m_about at hf
  show Rj X (mW G) 3 (qI X (mW G) o) 0 [(0, .ref ((mW G).h 0)), (1, vI v1), (2, vI v2)] [] s
  refine r_aload_n C (q := 1) 0 d_M_about_0 rfl rfl rfl ?_
  refine r_iload_n C (q := 2) 1 d_M_about_1 rfl rfl rfl ?_
  obtain ⟨r2, s2, hg2, hf⟩ := bd_s hf
  refine r_cVI C (q := 5) (As := [vI v1]) (k0 := 0) (c_m_isRow C.i hg2) mt_M_isRow ml_M_148 (Nat.le_of_ble_eq_true rfl) rfl rfl rfl rfl rfl rfl ⟨Nat.le_of_ble_eq_true rfl, Nat.le_of_ble_eq_true rfl⟩ rfl (Nat.le_of_ble_eq_true rfl) d_M_about_2 rfl ?_
  refine r_if_eq C (t := 17) (q := 8) d_M_about_5 (by decide) rfl (fun c5 => ?_) (fun c5 => ?_)
  · replace hf := ite_t c5 hf
    refine r_bipush C (q := 19) (x := (-2)) d_M_about_17 rfl rfl ?_
    exact r_ireturn C hf d_M_about_19
  · replace hf := ite_f c5 hf
    refine r_aload_n C (q := 9) 0 d_M_about_8 rfl rfl rfl ?_
    refine r_iload_n C (q := 10) 1 d_M_about_9 rfl rfl rfl ?_
    refine r_iload_n C (q := 11) 2 d_M_about_10 rfl rfl rfl ?_
    obtain ⟨r11, s11, hg11, hf⟩ := bd_s hf
    refine r_cVI C (q := 14) (As := [vI v1, vI v2]) (k0 := 0) (c_m_aboutOf C.i hg11) mt_M_aboutOf ml_M_154 (Nat.le_of_ble_eq_true rfl) rfl rfl rfl rfl rfl rfl ⟨Nat.le_of_ble_eq_true rfl, Nat.le_of_ble_eq_true rfl⟩ rfl (Nat.le_of_ble_eq_true rfl) d_M_about_11 rfl ?_
    refine r_goto C (q := 19) d_M_about_14 (by decide) ?_
    exact r_ireturn C hf d_M_about_19
def m_letter (N : Nat) (v1 v2 : Int) (s : St) : MM := bd (m_isRow N v1 s) (fun r2 s2 => if eq32 r2 0 then (some ((-2), s2)) else (if le32 0 v2 then (gd (inb v1 36) (if le32 (s2 3 v1) v2 then (some ((-1), s2)) else (gd (inb ((10 * v1) + v2) 360) (some (s2 2 ((10 * v1) + v2), s2))))) else (some ((-2), s2))))
abbrev rm_m_letter : Room := { frames := 2, cells := 0, slots := 0, locals := 43 }
theorem c_m_letter {l : Launch} {G : GG} (hi : wo_i (mW G)) {N : Nat} {v1 v2 : Int} {s : St} {o : Int × St} (hf : m_letter N v1 v2 s = some o) : CtI l (mW G) y_M_letter (wo y_M_letter prog_14_method_12_code 3 (some .int)) rm_m_letter [.ref ((mW G).h 0), vI v1, vI v2] s o := by
  refine ct_I (by decide +kernel) hi (Nat.le_of_ble_eq_true rfl) fun X C => ?_
  unfold m_letter at hf
  show Rj X (mW G) 3 (qI X (mW G) o) 0 [(0, .ref ((mW G).h 0)), (1, vI v1), (2, vI v2)] [] s
  refine r_aload_n C (q := 1) 0 d_M_letter_0 rfl rfl rfl ?_
  refine r_iload_n C (q := 2) 1 d_M_letter_1 rfl rfl rfl ?_
  obtain ⟨r2, s2, hg2, hf⟩ := bd_s hf
  refine r_cVI C (q := 5) (As := [vI v1]) (k0 := 0) (c_m_isRow C.i hg2) mt_M_isRow ml_M_148 (Nat.le_of_ble_eq_true rfl) rfl rfl rfl rfl rfl rfl ⟨Nat.le_of_ble_eq_true rfl, Nat.le_of_ble_eq_true rfl⟩ rfl (Nat.le_of_ble_eq_true rfl) d_M_letter_2 rfl ?_
  refine r_if_eq C (t := 12) (q := 8) d_M_letter_5 (by decide) rfl (fun c5 => ?_) (fun c5 => ?_)
  · replace hf := ite_t c5 hf
    refine r_bipush C (q := 14) (x := (-2)) d_M_letter_12 rfl rfl ?_
    exact r_ireturn C hf d_M_letter_14
  · replace hf := ite_f c5 hf
    refine r_iload_n C (q := 9) 2 d_M_letter_8 rfl rfl rfl ?_
    refine r_if_ge C (t := 15) (q := 12) d_M_letter_9 (by decide) rfl (fun c9 => ?_) (fun c9 => ?_)
    · replace hf := ite_t c9 hf
      refine r_iload_n C (q := 16) 2 d_M_letter_15 rfl rfl rfl ?_
      refine r_aload_n C (q := 17) 0 d_M_letter_16 rfl rfl rfl ?_
      refine gxm_M_lengths C (q := 20) fl_M_16 d_M_letter_17 rfl ?_
      refine r_iload_n C (q := 21) 1 d_M_letter_20 rfl rfl rfl ?_
      obtain ⟨g21, hf⟩ := gd_s hf
      refine r_iald C (q := 22) 3 (Nat.le_of_ble_eq_true rfl) (fun _ => rfl) 0 rfl g21 (by decide) d_M_letter_21 rfl ?_
      refine r_ic_ge C (t := 39) (q := 25) d_M_letter_22 (by decide) rfl (fun c22 => ?_) (fun c22 => ?_)
      · replace hf := ite_t c22 hf
        refine r_iconst C (q := 40) d_M_letter_39 rfl ?_
        exact r_ireturn C hf d_M_letter_40
      · replace hf := ite_f c22 hf
        refine r_aload_n C (q := 26) 0 d_M_letter_25 rfl rfl rfl ?_
        refine gxm_M_letters C (q := 29) fl_M_13 d_M_letter_26 rfl ?_
        refine r_bipush C (q := 31) (x := 10) d_M_letter_29 rfl rfl ?_
        refine r_iload_n C (q := 32) 1 d_M_letter_31 rfl rfl rfl ?_
        refine r_imul C (q := 33) d_M_letter_32 rfl ?_
        refine r_iload_n C (q := 34) 2 d_M_letter_33 rfl rfl rfl ?_
        refine r_iadd C (q := 35) d_M_letter_34 rfl ?_
        obtain ⟨g35, hf⟩ := gd_s hf
        refine r_iald C (q := 36) 2 (Nat.le_of_ble_eq_true rfl) (fun _ => rfl) 0 rfl g35 (by decide) d_M_letter_35 rfl ?_
        refine r_goto C (q := 40) d_M_letter_36 (by decide) ?_
        exact r_ireturn C hf d_M_letter_40
    · replace hf := ite_f c9 hf
      refine r_bipush C (q := 14) (x := (-2)) d_M_letter_12 rfl rfl ?_
      exact r_ireturn C hf d_M_letter_14
def m_asOf (N : Nat) (v1 : Int) (s : St) : MM := bd (m_in N v1 ((-1)) (s 0 0) s) (fun r6 s6 => if eq32 r6 0 then (some ((-2), s6)) else (some (s6 0 10, su s6 0 10 v1)))
abbrev rm_m_asOf : Room := { frames := 1, cells := 0, slots := 0, locals := 22 }
theorem c_m_asOf {l : Launch} {G : GG} (hi : wo_i (mW G)) {N : Nat} {v1 : Int} {s : St} {o : Int × St} (hf : m_asOf N v1 s = some o) : CtI l (mW G) y_M_asOf (wo y_M_asOf prog_14_method_13_code 3 (some .int)) rm_m_asOf [.ref ((mW G).h 0), vI v1] s o := by
  refine ct_I (by decide +kernel) hi (Nat.le_of_ble_eq_true rfl) fun X C => ?_
  unfold m_asOf at hf
  show Rj X (mW G) 3 (qI X (mW G) o) 0 [(0, .ref ((mW G).h 0)), (1, vI v1)] [] s
  refine r_iload_n C (q := 1) 1 d_M_asOf_0 rfl rfl rfl ?_
  refine r_iconst C (q := 2) d_M_asOf_1 rfl ?_
  refine r_aload_n C (q := 3) 0 d_M_asOf_2 rfl rfl rfl ?_
  refine gxm_M_day C (q := 6) fl_M_137 d_M_asOf_3 rfl ?_
  obtain ⟨r6, s6, hg6, hf⟩ := bd_s hf
  refine r_cSI C (q := 9) (As := [vI v1, vI ((-1)), vI (s 0 0)]) (c_m_in C.i hg6) mt_M_in ml_M_133 rfl rfl rfl ⟨Nat.le_of_ble_eq_true rfl, Nat.le_of_ble_eq_true rfl⟩ rfl (Nat.le_of_ble_eq_true rfl) d_M_asOf_6 rfl ?_
  refine r_if_ne C (t := 15) (q := 12) d_M_asOf_9 (by decide) rfl (fun c9 => ?_) (fun c9 => ?_)
  · replace hf := ite_t c9 hf
    refine r_bipush C (q := 14) (x := (-2)) d_M_asOf_12 rfl rfl ?_
    exact r_ireturn C hf d_M_asOf_14
  · replace hf := ite_f c9 hf
    refine r_aload_n C (q := 16) 0 d_M_asOf_15 rfl rfl rfl ?_
    refine gxm_M_knownTo C (q := 19) fl_M_34 d_M_asOf_16 rfl ?_
    refine r_istore_n C (q := 20) (lv' := [(2, vI (s6 0 10)), (0, .ref ((mW G).h 0)), (1, vI v1)]) d_M_asOf_19 rfl (by decide) rfl rfl ?_
    refine r_aload_n C (q := 21) 1 d_M_asOf_20 rfl rfl rfl ?_
    refine r_iload_n C (q := 22) 2 d_M_asOf_21 rfl rfl rfl ?_
    refine pxm_M_knownTo C (q := 25) fl_M_34 d_M_asOf_22 rfl ?_
    refine r_iload_n C (q := 26) 0 d_M_asOf_25 rfl rfl rfl ?_
    exact r_ireturn C hf d_M_asOf_26
def m_way (N : Nat) (v1 v2 v3 : Int) (s : St) : MM := bd (m_in N v1 0 7 s) (fun r4 s4 => if eq32 r4 0 then (some ((-2), s4)) else (bd (m_in N v2 0 7 s4) (fun r14 s14 => if eq32 r14 0 then (some ((-2), s14)) else (if eq32 v1 v2 then (some ((-2), s14)) else (bd (m_in N v3 0 99 s14) (fun r29 s29 => if eq32 r29 0 then (some ((-2), s29)) else (gd (inb ((8 * v1) + v2) 64) (gd (inb ((8 * v1) + v2) 64) (gd (inb ((8 * v2) + v1) 64) (some (s29 9 ((8 * v1) + v2), su (su s29 9 ((8 * v1) + v2) v3) 9 ((8 * v2) + v1) v3)))))))))))
abbrev rm_m_way : Room := { frames := 1, cells := 0, slots := 0, locals := 22 }
theorem c_m_way {l : Launch} {G : GG} (hi : wo_i (mW G)) {N : Nat} {v1 v2 v3 : Int} {s : St} {o : Int × St} (hf : m_way N v1 v2 v3 s = some o) : CtI l (mW G) y_M_way (wo y_M_way prog_14_method_14_code 5 (some .int)) rm_m_way [.ref ((mW G).h 0), vI v1, vI v2, vI v3] s o := by
  refine ct_I (by decide +kernel) hi (Nat.le_of_ble_eq_true rfl) fun X C => ?_
  unfold m_way at hf
  show Rj X (mW G) 5 (qI X (mW G) o) 0 [(0, .ref ((mW G).h 0)), (1, vI v1), (2, vI v2), (3, vI v3)] [] s
  refine r_iload_n C (q := 1) 1 d_M_way_0 rfl rfl rfl ?_
  refine r_iconst C (q := 2) d_M_way_1 rfl ?_
  refine r_bipush C (q := 4) (x := 7) d_M_way_2 rfl rfl ?_
  obtain ⟨r4, s4, hg4, hf⟩ := bd_s hf
  refine r_cSI C (q := 7) (As := [vI v1, vI 0, vI 7]) (c_m_in C.i hg4) mt_M_in ml_M_133 rfl rfl rfl ⟨Nat.le_of_ble_eq_true rfl, Nat.le_of_ble_eq_true rfl⟩ rfl (Nat.le_of_ble_eq_true rfl) d_M_way_4 rfl ?_
  refine r_if_eq C (t := 35) (q := 10) d_M_way_7 (by decide) rfl (fun c7 => ?_) (fun c7 => ?_)
  · replace hf := ite_t c7 hf
    refine r_bipush C (q := 37) (x := (-2)) d_M_way_35 rfl rfl ?_
    exact r_ireturn C hf d_M_way_37
  · replace hf := ite_f c7 hf
    refine r_iload_n C (q := 11) 2 d_M_way_10 rfl rfl rfl ?_
    refine r_iconst C (q := 12) d_M_way_11 rfl ?_
    refine r_bipush C (q := 14) (x := 7) d_M_way_12 rfl rfl ?_
    obtain ⟨r14, s14, hg14, hf⟩ := bd_s hf
    refine r_cSI C (q := 17) (As := [vI v2, vI 0, vI 7]) (c_m_in C.i hg14) mt_M_in ml_M_133 rfl rfl rfl ⟨Nat.le_of_ble_eq_true rfl, Nat.le_of_ble_eq_true rfl⟩ rfl (Nat.le_of_ble_eq_true rfl) d_M_way_14 rfl ?_
    refine r_if_eq C (t := 35) (q := 20) d_M_way_17 (by decide) rfl (fun c17 => ?_) (fun c17 => ?_)
    · replace hf := ite_t c17 hf
      refine r_bipush C (q := 37) (x := (-2)) d_M_way_35 rfl rfl ?_
      exact r_ireturn C hf d_M_way_37
    · replace hf := ite_f c17 hf
      refine r_iload_n C (q := 21) 1 d_M_way_20 rfl rfl rfl ?_
      refine r_iload_n C (q := 22) 2 d_M_way_21 rfl rfl rfl ?_
      refine r_ic_eq C (t := 35) (q := 25) d_M_way_22 (by decide) rfl (fun c22 => ?_) (fun c22 => ?_)
      · replace hf := ite_t c22 hf
        refine r_bipush C (q := 37) (x := (-2)) d_M_way_35 rfl rfl ?_
        exact r_ireturn C hf d_M_way_37
      · replace hf := ite_f c22 hf
        refine r_iload_n C (q := 26) 3 d_M_way_25 rfl rfl rfl ?_
        refine r_iconst C (q := 27) d_M_way_26 rfl ?_
        refine r_bipush C (q := 29) (x := 99) d_M_way_27 rfl rfl ?_
        obtain ⟨r29, s29, hg29, hf⟩ := bd_s hf
        refine r_cSI C (q := 32) (As := [vI v3, vI 0, vI 99]) (c_m_in C.i hg29) mt_M_in ml_M_133 rfl rfl rfl ⟨Nat.le_of_ble_eq_true rfl, Nat.le_of_ble_eq_true rfl⟩ rfl (Nat.le_of_ble_eq_true rfl) d_M_way_29 rfl ?_
        refine r_if_ne C (t := 38) (q := 35) d_M_way_32 (by decide) rfl (fun c32 => ?_) (fun c32 => ?_)
        · replace hf := ite_t c32 hf
          refine r_bipush C (q := 37) (x := (-2)) d_M_way_35 rfl rfl ?_
          exact r_ireturn C hf d_M_way_37
        · replace hf := ite_f c32 hf
          refine r_aload_n C (q := 39) 0 d_M_way_38 rfl rfl rfl ?_
          refine gxm_M_ways C (q := 42) fl_M_38 d_M_way_39 rfl ?_
          refine r_bipush C (q := 44) (x := 8) d_M_way_42 rfl rfl ?_
          refine r_iload_n C (q := 45) 1 d_M_way_44 rfl rfl rfl ?_
          refine r_imul C (q := 46) d_M_way_45 rfl ?_
          refine r_iload_n C (q := 47) 2 d_M_way_46 rfl rfl rfl ?_
          refine r_iadd C (q := 48) d_M_way_47 rfl ?_
          obtain ⟨g48, hf⟩ := gd_s hf
          refine r_iald C (q := 49) 9 (Nat.le_of_ble_eq_true rfl) (fun _ => rfl) 0 rfl g48 (by decide) d_M_way_48 rfl ?_
          refine r_istore C (q := 51) (lv' := [(4, vI (s29 9 ((8 * v1) + v2))), (0, .ref ((mW G).h 0)), (1, vI v1), (2, vI v2), (3, vI v3)]) d_M_way_49 (by decide) rfl rfl ?_
          refine r_aload_n C (q := 52) 1 d_M_way_51 rfl rfl rfl ?_
          refine gxm_M_ways C (q := 55) fl_M_38 d_M_way_52 rfl ?_
          refine r_bipush C (q := 57) (x := 8) d_M_way_55 rfl rfl ?_
          refine r_iload_n C (q := 58) 2 d_M_way_57 rfl rfl rfl ?_
          refine r_imul C (q := 59) d_M_way_58 rfl ?_
          refine r_iload_n C (q := 60) 3 d_M_way_59 rfl rfl rfl ?_
          refine r_iadd C (q := 61) d_M_way_60 rfl ?_
          refine r_iload_n C (q := 62) 4 d_M_way_61 rfl rfl rfl ?_
          obtain ⟨g62, hf⟩ := gd_s hf
          refine r_iast C (q := 63) 9 (Nat.le_of_ble_eq_true rfl) (fun _ => rfl) 0 rfl g62 (by decide) d_M_way_62 rfl ?_
          refine r_aload_n C (q := 64) 1 d_M_way_63 rfl rfl rfl ?_
          refine gxm_M_ways C (q := 67) fl_M_38 d_M_way_64 rfl ?_
          refine r_bipush C (q := 69) (x := 8) d_M_way_67 rfl rfl ?_
          refine r_iload_n C (q := 70) 3 d_M_way_69 rfl rfl rfl ?_
          refine r_imul C (q := 71) d_M_way_70 rfl ?_
          refine r_iload_n C (q := 72) 2 d_M_way_71 rfl rfl rfl ?_
          refine r_iadd C (q := 73) d_M_way_72 rfl ?_
          refine r_iload_n C (q := 74) 4 d_M_way_73 rfl rfl rfl ?_
          obtain ⟨g74, hf⟩ := gd_s hf
          refine r_iast C (q := 75) 9 (Nat.le_of_ble_eq_true rfl) (fun _ => rfl) 0 rfl g74 (by decide) d_M_way_74 rfl ?_
          refine r_iload C (q := 77) 0 d_M_way_75 rfl rfl ?_
          exact r_ireturn C hf d_M_way_77
def m_type (N : Nat) (v1 : Int) (s : St) : MM := bd (m_in N v1 0 255 s) (fun r5 s5 => if eq32 r5 0 then (some ((-2), s5)) else (if eq32 (s5 0 12) 80 then (some ((-4), s5)) else (gd (inb (s5 0 12) 80) (some ((su (su (su s5 10 (s5 0 12) v1) 0 12 (((su s5 10 (s5 0 12) v1) 0 12) + 1)) 0 15 0) 0 12, su (su (su s5 10 (s5 0 12) v1) 0 12 (((su s5 10 (s5 0 12) v1) 0 12) + 1)) 0 15 0)))))
abbrev rm_m_type : Room := { frames := 1, cells := 0, slots := 0, locals := 22 }
theorem c_m_type {l : Launch} {G : GG} (hi : wo_i (mW G)) {N : Nat} {v1 : Int} {s : St} {o : Int × St} (hf : m_type N v1 s = some o) : CtI l (mW G) y_M_type (wo y_M_type prog_14_method_15_code 2 (some .int)) rm_m_type [.ref ((mW G).h 0), vI v1] s o := by
  refine ct_I (by decide +kernel) hi (Nat.le_of_ble_eq_true rfl) fun X C => ?_
  unfold m_type at hf
  show Rj X (mW G) 2 (qI X (mW G) o) 0 [(0, .ref ((mW G).h 0)), (1, vI v1)] [] s
  refine r_iload_n C (q := 1) 1 d_M_type_0 rfl rfl rfl ?_
  refine r_iconst C (q := 2) d_M_type_1 rfl ?_
  refine r_sipush C (q := 5) (x := 255) d_M_type_2 rfl rfl ?_
  obtain ⟨r5, s5, hg5, hf⟩ := bd_s hf
  refine r_cSI C (q := 8) (As := [vI v1, vI 0, vI 255]) (c_m_in C.i hg5) mt_M_in ml_M_133 rfl rfl rfl ⟨Nat.le_of_ble_eq_true rfl, Nat.le_of_ble_eq_true rfl⟩ rfl (Nat.le_of_ble_eq_true rfl) d_M_type_5 rfl ?_
  refine r_if_ne C (t := 14) (q := 11) d_M_type_8 (by decide) rfl (fun c8 => ?_) (fun c8 => ?_)
  · replace hf := ite_t c8 hf
    refine r_bipush C (q := 13) (x := (-2)) d_M_type_11 rfl rfl ?_
    exact r_ireturn C hf d_M_type_13
  · replace hf := ite_f c8 hf
    refine r_aload_n C (q := 15) 0 d_M_type_14 rfl rfl rfl ?_
    refine gxm_M_typed C (q := 18) fl_M_158 d_M_type_15 rfl ?_
    refine r_bipush C (q := 20) (x := 80) d_M_type_18 rfl rfl ?_
    refine r_ic_ne C (t := 26) (q := 23) d_M_type_20 (by decide) rfl (fun c20 => ?_) (fun c20 => ?_)
    · replace hf := ite_t c20 hf
      refine r_bipush C (q := 25) (x := (-4)) d_M_type_23 rfl rfl ?_
      exact r_ireturn C hf d_M_type_25
    · replace hf := ite_f c20 hf
      refine r_aload_n C (q := 27) 0 d_M_type_26 rfl rfl rfl ?_
      refine gxm_M_text C (q := 30) fl_M_41 d_M_type_27 rfl ?_
      refine r_aload_n C (q := 31) 0 d_M_type_30 rfl rfl rfl ?_
      refine gxm_M_typed C (q := 34) fl_M_158 d_M_type_31 rfl ?_
      refine r_iload_n C (q := 35) 1 d_M_type_34 rfl rfl rfl ?_
      obtain ⟨g35, hf⟩ := gd_s hf
      refine r_iast C (q := 36) 10 (Nat.le_of_ble_eq_true rfl) (fun _ => rfl) 0 rfl g35 (by decide) d_M_type_35 rfl ?_
      refine r_aload_n C (q := 37) 0 d_M_type_36 rfl rfl rfl ?_
      refine r_dup C (q := 38) d_M_type_37 rfl rfl ?_
      refine gxm_M_typed C (q := 41) fl_M_158 d_M_type_38 rfl ?_
      refine r_iconst C (q := 42) d_M_type_41 rfl ?_
      refine r_iadd C (q := 43) d_M_type_42 rfl ?_
      refine pxm_M_typed C (q := 46) fl_M_158 d_M_type_43 rfl ?_
      refine r_aload_n C (q := 47) 0 d_M_type_46 rfl rfl rfl ?_
      refine r_iconst C (q := 48) d_M_type_47 rfl ?_
      refine pxm_M_isRead C (q := 51) fl_M_161 (by decide) d_M_type_48 rfl ?_
      refine r_aload_n C (q := 52) 0 d_M_type_51 rfl rfl rfl ?_
      refine gxm_M_typed C (q := 55) fl_M_158 d_M_type_52 rfl ?_
      exact r_ireturn C hf d_M_type_55
def m_wipe (N : Nat) (s : St) : MM := some (s 0 12, su (su s 0 12 0) 0 15 0)
abbrev rm_m_wipe : Room := { frames := 0, cells := 0, slots := 0, locals := 0 }
theorem c_m_wipe {l : Launch} {G : GG} (hi : wo_i (mW G)) {N : Nat} {s : St} {o : Int × St} (hf : m_wipe N s = some o) : CtI l (mW G) y_M_wipe (wo y_M_wipe prog_14_method_16_code 2 (some .int)) rm_m_wipe [.ref ((mW G).h 0)] s o := by
  refine ct_I (by decide +kernel) hi (Nat.le_of_ble_eq_true rfl) fun X C => ?_
  unfold m_wipe at hf
  show Rj X (mW G) 2 (qI X (mW G) o) 0 [(0, .ref ((mW G).h 0))] [] s
  refine r_aload_n C (q := 1) 0 d_M_wipe_0 rfl rfl rfl ?_
  refine gxm_M_typed C (q := 4) fl_M_158 d_M_wipe_1 rfl ?_
  refine r_istore_n C (q := 5) (lv' := [(1, vI (s 0 12)), (0, .ref ((mW G).h 0))]) d_M_wipe_4 rfl (by decide) rfl rfl ?_
  refine r_aload_n C (q := 6) 1 d_M_wipe_5 rfl rfl rfl ?_
  refine r_iconst C (q := 7) d_M_wipe_6 rfl ?_
  refine pxm_M_typed C (q := 10) fl_M_158 d_M_wipe_7 rfl ?_
  refine r_aload_n C (q := 11) 1 d_M_wipe_10 rfl rfl rfl ?_
  refine r_iconst C (q := 12) d_M_wipe_11 rfl ?_
  refine pxm_M_isRead C (q := 15) fl_M_161 (by decide) d_M_wipe_12 rfl ?_
  refine r_iload_n C (q := 16) 0 d_M_wipe_15 rfl rfl rfl ?_
  exact r_ireturn C hf d_M_wipe_16
def m_byteAt (N : Nat) (v1 : Int) (s : St) : MM := if le32 (s 0 12) v1 then (some ((-1), s)) else (gd (inb v1 80) (some (s 10 v1, s)))
abbrev rm_m_byteAt : Room := { frames := 0, cells := 0, slots := 0, locals := 0 }
theorem c_m_byteAt {l : Launch} {G : GG} (hi : wo_i (mW G)) {N : Nat} {v1 : Int} {s : St} {o : Int × St} (hf : m_byteAt N v1 s = some o) : CtI l (mW G) y_M_byteAt (wo y_M_byteAt prog_14_method_17_code 2 (some .int)) rm_m_byteAt [.ref ((mW G).h 0), vI v1] s o := by
  refine ct_I (by decide +kernel) hi (Nat.le_of_ble_eq_true rfl) fun X C => ?_
  unfold m_byteAt at hf
  show Rj X (mW G) 2 (qI X (mW G) o) 0 [(0, .ref ((mW G).h 0)), (1, vI v1)] [] s
  refine r_iload_n C (q := 1) 1 d_M_byteAt_0 rfl rfl rfl ?_
  refine r_aload_n C (q := 2) 0 d_M_byteAt_1 rfl rfl rfl ?_
  refine gxm_M_typed C (q := 5) fl_M_158 d_M_byteAt_2 rfl ?_
  refine r_ic_ge C (t := 17) (q := 8) d_M_byteAt_5 (by decide) rfl (fun c5 => ?_) (fun c5 => ?_)
  · replace hf := ite_t c5 hf
    refine r_iconst C (q := 18) d_M_byteAt_17 rfl ?_
    exact r_ireturn C hf d_M_byteAt_18
  · replace hf := ite_f c5 hf
    refine r_aload_n C (q := 9) 0 d_M_byteAt_8 rfl rfl rfl ?_
    refine gxm_M_text C (q := 12) fl_M_41 d_M_byteAt_9 rfl ?_
    refine r_iload_n C (q := 13) 1 d_M_byteAt_12 rfl rfl rfl ?_
    obtain ⟨g13, hf⟩ := gd_s hf
    refine r_iald C (q := 14) 10 (Nat.le_of_ble_eq_true rfl) (fun _ => rfl) 0 rfl g13 (by decide) d_M_byteAt_13 rfl ?_
    refine r_goto C (q := 18) d_M_byteAt_14 (by decide) ?_
    exact r_ireturn C hf d_M_byteAt_18
def m_group_113 (N : Nat) (v2 v3 : Int) (k113 : Int → St → MM) (v4 : Int) (s : St) : MM := if le32 v2 v4 then (some (v2 + 2, s)) else (gd (inb v4 80) (gd (inb ((s 10 v4) - 97) 26) (k113 (v4 + 1) (su s 11 ((s 10 v4) - 97) v3))))
def m_group_75 (N : Nat) (v2 : Int) (s : St) : MM := some (v2, su s 0 16 v2)
def m_group_2 (N : Nat) (v1 : Int) (k2 : Int → St → MM) (v2 : Int) (s : St) : MM := bd (m_byteAt N v2 s) (fun r4 s4 => bd (m_in N r4 97 122 s4) (fun r11 s11 => if eq32 r11 0 then (if eq32 v2 v1 then (m_group_75 N v2  s11) else (bd (m_byteAt N v2 s11) (fun r67 s67 => if eq32 r67 61 then (bd (m_byteAt N (v2 + 1) s67) (fun r86 s86 => bd (m_in N r86 48 57 s86) (fun r95 s95 => if eq32 r95 0 then (some (v2, su s95 0 16 (v2 + 1))) else (itr (m_group_113 N v2 r86) (fun _ _ => none) N v1 s95)))) else (m_group_75 N v2  s67)))) else (bd (m_byteAt N v2 s11) (fun r23 s23 => gd (inb (r23 - 97) 26) (if eq32 (s23 11 (r23 - 97)) 0 then (bd (m_byteAt N v2 s23) (fun r46 s46 => gd (inb (r46 - 97) 26) (k2 (v2 + 1) (su s46 11 (r46 - 97) 1)))) else (some (v2, su s23 0 16 v2)))))))
def m_group (N : Nat) (v1 : Int) (s : St) : MM := itr (m_group_2 N v1) (fun _ _ => none) N v1 s
abbrev rm_m_group : Room := { frames := 1, cells := 0, slots := 0, locals := 22 }
theorem s_m_group_113 {X : CxT} {l : Launch} {G : GG} (C : Cx X l (mW G) 5 prog_14_method_18_code "OneSelfModel" (wo y_M_group prog_14_method_18_code 5 (some .int)) (some .int) rm_m_group) {o : Int × St} {N : Nat} {v2 v3 v4 : Int} {k113 : Int → St → MM} (hk113 : ∀ (u4 : Int) (s : St), k113 u4 s = some o → Rj X (mW G) 5 (qI X (mW G) o) 113 [(0, .ref ((mW G).h 0)), (2, vI v2), (3, vI v3), (4, vI u4)] [] s) {s : St} (hf : m_group_113 N v2 v3 k113 v4 s = some o) : Rj X (mW G) 5 (qI X (mW G) o) 113 [(0, .ref ((mW G).h 0)), (2, vI v2), (3, vI v3), (4, vI v4)] [] s := by
  unfold m_group_113 at hf
  refine r_iload C (q := 115) 3 d_M_group_113 rfl rfl ?_
  refine r_iload_n C (q := 116) 1 d_M_group_115 rfl rfl rfl ?_
  refine r_ic_ge C (t := 141) (q := 119) d_M_group_116 (by decide) rfl (fun c116 => ?_) (fun c116 => ?_)
  · replace hf := ite_t c116 hf
    refine r_iload_n C (q := 142) 1 d_M_group_141 rfl rfl rfl ?_
    refine r_iconst C (q := 143) d_M_group_142 rfl ?_
    refine r_iadd C (q := 144) d_M_group_143 rfl ?_
    exact r_ireturn C hf d_M_group_144
  · replace hf := ite_f c116 hf
    refine r_aload_n C (q := 120) 0 d_M_group_119 rfl rfl rfl ?_
    refine gxm_M_figureOf C (q := 123) fl_M_44 d_M_group_120 rfl ?_
    refine r_aload_n C (q := 124) 0 d_M_group_123 rfl rfl rfl ?_
    refine gxm_M_text C (q := 127) fl_M_41 d_M_group_124 rfl ?_
    refine r_iload C (q := 129) 3 d_M_group_127 rfl rfl ?_
    obtain ⟨g129, hf⟩ := gd_s hf
    refine r_iald C (q := 130) 10 (Nat.le_of_ble_eq_true rfl) (fun _ => rfl) 0 rfl g129 (by decide) d_M_group_129 rfl ?_
    refine r_bipush C (q := 132) (x := 97) d_M_group_130 rfl rfl ?_
    refine r_isub C (q := 133) d_M_group_132 rfl ?_
    refine r_iload_n C (q := 134) 2 d_M_group_133 rfl rfl rfl ?_
    obtain ⟨g134, hf⟩ := gd_s hf
    refine r_iast C (q := 135) 11 (Nat.le_of_ble_eq_true rfl) (fun _ => rfl) 0 rfl g134 (by decide) d_M_group_134 rfl ?_
    refine r_iinc C (q := 138) (lv' := [(4, vI (v4 + 1)), (0, .ref ((mW G).h 0)), (2, vI v2), (3, vI v3)]) 3 d_M_group_135 rfl (by decide) rfl rfl ?_
    refine r_goto C (q := 113) d_M_group_138 (by decide) ?_
    exact r_sub [1, 2, 3, 0] rfl (hk113 _ _  hf)
theorem s_m_group_75 {X : CxT} {l : Launch} {G : GG} (C : Cx X l (mW G) 5 prog_14_method_18_code "OneSelfModel" (wo y_M_group prog_14_method_18_code 5 (some .int)) (some .int) rm_m_group) {o : Int × St} {N : Nat} {v2 : Int} {s : St} (hf : m_group_75 N v2 s = some o) : Rj X (mW G) 5 (qI X (mW G) o) 75 [(0, .ref ((mW G).h 0)), (2, vI v2)] [] s := by
  unfold m_group_75 at hf
  refine r_aload_n C (q := 76) 0 d_M_group_75 rfl rfl rfl ?_
  refine r_iload_n C (q := 77) 1 d_M_group_76 rfl rfl rfl ?_
  refine pxm_M_faultNow C (q := 80) fl_M_168 d_M_group_77 rfl ?_
  refine r_iload_n C (q := 81) 1 d_M_group_80 rfl rfl rfl ?_
  exact r_ireturn C hf d_M_group_81
theorem s_m_group_2 {X : CxT} {l : Launch} {G : GG} (C : Cx X l (mW G) 5 prog_14_method_18_code "OneSelfModel" (wo y_M_group prog_14_method_18_code 5 (some .int)) (some .int) rm_m_group) {o : Int × St} {N : Nat} {v1 v2 : Int} {k2 : Int → St → MM} (hk2 : ∀ (u2 : Int) (s : St), k2 u2 s = some o → Rj X (mW G) 5 (qI X (mW G) o) 2 [(0, .ref ((mW G).h 0)), (1, vI v1), (2, vI u2)] [] s) {s : St} (hf : m_group_2 N v1 k2 v2 s = some o) : Rj X (mW G) 5 (qI X (mW G) o) 2 [(0, .ref ((mW G).h 0)), (1, vI v1), (2, vI v2)] [] s := by
  unfold m_group_2 at hf
  refine r_aload_n C (q := 3) 0 d_M_group_2 rfl rfl rfl ?_
  refine r_iload_n C (q := 4) 2 d_M_group_3 rfl rfl rfl ?_
  obtain ⟨r4, s4, hg4, hf⟩ := bd_s hf
  refine r_cVI C (q := 7) (As := [vI v2]) (k0 := 0) (c_m_byteAt C.i hg4) mt_M_byteAt ml_M_165 (Nat.le_of_ble_eq_true rfl) rfl rfl rfl rfl rfl rfl ⟨Nat.le_of_ble_eq_true rfl, Nat.le_of_ble_eq_true rfl⟩ rfl (Nat.le_of_ble_eq_true rfl) d_M_group_4 rfl ?_
  refine r_bipush C (q := 9) (x := 97) d_M_group_7 rfl rfl ?_
  refine r_bipush C (q := 11) (x := 122) d_M_group_9 rfl rfl ?_
  obtain ⟨r11, s11, hg11, hf⟩ := bd_s hf
  refine r_cSI C (q := 14) (As := [vI r4, vI 97, vI 122]) (c_m_in C.i hg11) mt_M_in ml_M_133 rfl rfl rfl ⟨Nat.le_of_ble_eq_true rfl, Nat.le_of_ble_eq_true rfl⟩ rfl (Nat.le_of_ble_eq_true rfl) d_M_group_11 rfl ?_
  refine r_if_eq C (t := 60) (q := 17) d_M_group_14 (by decide) rfl (fun c14 => ?_) (fun c14 => ?_)
  · replace hf := ite_t c14 hf
    refine r_iload_n C (q := 61) 2 d_M_group_60 rfl rfl rfl ?_
    refine r_iload_n C (q := 62) 1 d_M_group_61 rfl rfl rfl ?_
    refine r_ic_eq C (t := 75) (q := 65) d_M_group_62 (by decide) rfl (fun c62 => ?_) (fun c62 => ?_)
    · replace hf := ite_t c62 hf
      exact r_sub [0, 2] rfl (s_m_group_75 C hf)
    · replace hf := ite_f c62 hf
      refine r_aload_n C (q := 66) 0 d_M_group_65 rfl rfl rfl ?_
      refine r_iload_n C (q := 67) 2 d_M_group_66 rfl rfl rfl ?_
      obtain ⟨r67, s67, hg67, hf⟩ := bd_s hf
      refine r_cVI C (q := 70) (As := [vI v2]) (k0 := 0) (c_m_byteAt C.i hg67) mt_M_byteAt ml_M_165 (Nat.le_of_ble_eq_true rfl) rfl rfl rfl rfl rfl rfl ⟨Nat.le_of_ble_eq_true rfl, Nat.le_of_ble_eq_true rfl⟩ rfl (Nat.le_of_ble_eq_true rfl) d_M_group_67 rfl ?_
      refine r_bipush C (q := 72) (x := 61) d_M_group_70 rfl rfl ?_
      refine r_ic_eq C (t := 82) (q := 75) d_M_group_72 (by decide) rfl (fun c72 => ?_) (fun c72 => ?_)
      · replace hf := ite_t c72 hf
        refine r_aload_n C (q := 83) 0 d_M_group_82 rfl rfl rfl ?_
        refine r_iload_n C (q := 84) 2 d_M_group_83 rfl rfl rfl ?_
        refine r_iconst C (q := 85) d_M_group_84 rfl ?_
        refine r_iadd C (q := 86) d_M_group_85 rfl ?_
        obtain ⟨r86, s86, hg86, hf⟩ := bd_s hf
        refine r_cVI C (q := 89) (As := [vI (v2 + 1)]) (k0 := 0) (c_m_byteAt C.i hg86) mt_M_byteAt ml_M_165 (Nat.le_of_ble_eq_true rfl) rfl rfl rfl rfl rfl rfl ⟨Nat.le_of_ble_eq_true rfl, Nat.le_of_ble_eq_true rfl⟩ rfl (Nat.le_of_ble_eq_true rfl) d_M_group_86 rfl ?_
        refine r_istore_n C (q := 90) (lv' := [(3, vI r86), (0, .ref ((mW G).h 0)), (1, vI v1), (2, vI v2)]) d_M_group_89 rfl (by decide) rfl rfl ?_
        refine r_iload_n C (q := 91) 0 d_M_group_90 rfl rfl rfl ?_
        refine r_bipush C (q := 93) (x := 48) d_M_group_91 rfl rfl ?_
        refine r_bipush C (q := 95) (x := 57) d_M_group_93 rfl rfl ?_
        obtain ⟨r95, s95, hg95, hf⟩ := bd_s hf
        refine r_cSI C (q := 98) (As := [vI r86, vI 48, vI 57]) (c_m_in C.i hg95) mt_M_in ml_M_133 rfl rfl rfl ⟨Nat.le_of_ble_eq_true rfl, Nat.le_of_ble_eq_true rfl⟩ rfl (Nat.le_of_ble_eq_true rfl) d_M_group_95 rfl ?_
        refine r_if_ne C (t := 110) (q := 101) d_M_group_98 (by decide) rfl (fun c98 => ?_) (fun c98 => ?_)
        · replace hf := ite_t c98 hf
          refine r_aload_n C (q := 102) 1 d_M_group_101 rfl rfl rfl ?_
          refine r_iload_n C (q := 103) 3 d_M_group_102 rfl rfl rfl ?_
          refine r_iconst C (q := 104) d_M_group_103 rfl ?_
          refine r_iadd C (q := 105) d_M_group_104 rfl ?_
          refine pxm_M_faultNow C (q := 108) fl_M_168 d_M_group_105 rfl ?_
          refine r_iload_n C (q := 109) 3 d_M_group_108 rfl rfl rfl ?_
          exact r_ireturn C hf d_M_group_109
        · replace hf := ite_f c98 hf
          refine r_iload_n C (q := 111) 2 d_M_group_110 rfl rfl rfl ?_
          refine r_istore C (q := 113) (lv' := [(4, vI v1), (3, vI r86), (0, .ref ((mW G).h 0)), (1, vI v1), (2, vI v2)]) d_M_group_111 (by decide) rfl rfl ?_
          have hL : ∀ (u4 : Int) (z : St), itr (m_group_113 N v2 r86) (fun _ _ => none) N u4 z = some o → Rj X (mW G) 5 (qI X (mW G) o) 113 [(0, .ref ((mW G).h 0)), (2, vI v2), (3, vI r86), (4, vI u4)] [] z := itr_ind (m_group_113 N v2 r86) (fun _ _ => none) (fun k => ∀ (u4 : Int) (z : St), k u4 z = some o → Rj X (mW G) 5 (qI X (mW G) o) 113 [(0, .ref ((mW G).h 0)), (2, vI v2), (3, vI r86), (4, vI u4)] [] z) (fun _ _  h => by cases h) (fun k hk u4 z h => s_m_group_113 C hk h) N
          exact r_sub [2, 4, 1, 0] rfl (hL _ _  hf)
      · replace hf := ite_f c72 hf
        exact r_sub [0, 2] rfl (s_m_group_75 C hf)
  · replace hf := ite_f c14 hf
    refine r_aload_n C (q := 18) 0 d_M_group_17 rfl rfl rfl ?_
    refine gxm_M_figureOf C (q := 21) fl_M_44 d_M_group_18 rfl ?_
    refine r_aload_n C (q := 22) 0 d_M_group_21 rfl rfl rfl ?_
    refine r_iload_n C (q := 23) 2 d_M_group_22 rfl rfl rfl ?_
    obtain ⟨r23, s23, hg23, hf⟩ := bd_s hf
    refine r_cVI C (q := 26) (As := [vI v2]) (k0 := 0) (c_m_byteAt C.i hg23) mt_M_byteAt ml_M_165 (Nat.le_of_ble_eq_true rfl) rfl rfl rfl rfl rfl rfl ⟨Nat.le_of_ble_eq_true rfl, Nat.le_of_ble_eq_true rfl⟩ rfl (Nat.le_of_ble_eq_true rfl) d_M_group_23 rfl ?_
    refine r_bipush C (q := 28) (x := 97) d_M_group_26 rfl rfl ?_
    refine r_isub C (q := 29) d_M_group_28 rfl ?_
    obtain ⟨g29, hf⟩ := gd_s hf
    refine r_iald C (q := 30) 11 (Nat.le_of_ble_eq_true rfl) (fun _ => rfl) 0 rfl g29 (by decide) d_M_group_29 rfl ?_
    refine r_if_eq C (t := 40) (q := 33) d_M_group_30 (by decide) rfl (fun c30 => ?_) (fun c30 => ?_)
    · replace hf := ite_t c30 hf
      refine r_aload_n C (q := 41) 0 d_M_group_40 rfl rfl rfl ?_
      refine gxm_M_figureOf C (q := 44) fl_M_44 d_M_group_41 rfl ?_
      refine r_aload_n C (q := 45) 0 d_M_group_44 rfl rfl rfl ?_
      refine r_iload_n C (q := 46) 2 d_M_group_45 rfl rfl rfl ?_
      obtain ⟨r46, s46, hg46, hf⟩ := bd_s hf
      refine r_cVI C (q := 49) (As := [vI v2]) (k0 := 0) (c_m_byteAt C.i hg46) mt_M_byteAt ml_M_165 (Nat.le_of_ble_eq_true rfl) rfl rfl rfl rfl rfl rfl ⟨Nat.le_of_ble_eq_true rfl, Nat.le_of_ble_eq_true rfl⟩ rfl (Nat.le_of_ble_eq_true rfl) d_M_group_46 rfl ?_
      refine r_bipush C (q := 51) (x := 97) d_M_group_49 rfl rfl ?_
      refine r_isub C (q := 52) d_M_group_51 rfl ?_
      refine r_iconst C (q := 53) d_M_group_52 rfl ?_
      obtain ⟨g53, hf⟩ := gd_s hf
      refine r_iast C (q := 54) 11 (Nat.le_of_ble_eq_true rfl) (fun _ => rfl) 0 rfl g53 (by decide) d_M_group_53 rfl ?_
      refine r_iinc C (q := 57) (lv' := [(2, vI (v2 + 1)), (0, .ref ((mW G).h 0)), (1, vI v1)]) 2 d_M_group_54 rfl (by decide) rfl rfl ?_
      refine r_goto C (q := 2) d_M_group_57 (by decide) ?_
      exact r_sub [1, 2, 0] rfl (hk2 _ _  hf)
    · replace hf := ite_f c30 hf
      refine r_aload_n C (q := 34) 0 d_M_group_33 rfl rfl rfl ?_
      refine r_iload_n C (q := 35) 2 d_M_group_34 rfl rfl rfl ?_
      refine pxm_M_faultNow C (q := 38) fl_M_168 d_M_group_35 rfl ?_
      refine r_iload_n C (q := 39) 2 d_M_group_38 rfl rfl rfl ?_
      exact r_ireturn C hf d_M_group_39
theorem c_m_group {l : Launch} {G : GG} (hi : wo_i (mW G)) {N : Nat} {v1 : Int} {s : St} {o : Int × St} (hf : m_group N v1 s = some o) : CtI l (mW G) y_M_group (wo y_M_group prog_14_method_18_code 5 (some .int)) rm_m_group [.ref ((mW G).h 0), vI v1] s o := by
  refine ct_I (by decide +kernel) hi (Nat.le_of_ble_eq_true rfl) fun X C => ?_
  unfold m_group at hf
  show Rj X (mW G) 5 (qI X (mW G) o) 0 [(0, .ref ((mW G).h 0)), (1, vI v1)] [] s
  refine r_iload_n C (q := 1) 1 d_M_group_0 rfl rfl rfl ?_
  refine r_istore_n C (q := 2) (lv' := [(2, vI v1), (0, .ref ((mW G).h 0)), (1, vI v1)]) d_M_group_1 rfl (by decide) rfl rfl ?_
  have hL : ∀ (u2 : Int) (z : St), itr (m_group_2 N v1) (fun _ _ => none) N u2 z = some o → Rj X (mW G) 5 (qI X (mW G) o) 2 [(0, .ref ((mW G).h 0)), (1, vI v1), (2, vI u2)] [] z := itr_ind (m_group_2 N v1) (fun _ _ => none) (fun k => ∀ (u2 : Int) (z : St), k u2 z = some o → Rj X (mW G) 5 (qI X (mW G) o) 2 [(0, .ref ((mW G).h 0)), (1, vI v1), (2, vI u2)] [] z) (fun _ _  h => by cases h) (fun k hk u2 z h => s_m_group_2 C hk h) N
  exact r_sub [1, 2, 0] rfl (hL _ _  hf)
