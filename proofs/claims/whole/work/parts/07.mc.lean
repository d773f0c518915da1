def m_reads_93 (N : Nat) (k93 : Int → St → MM) (v2 : Int) (s : St) : MM := if le32 26 v2 then (some (0, s)) else (if eq32 (s 0 16) ((-1)) then (some (0, s)) else (gd (inb v2 26) (k93 (v2 + 1) (su s 11 v2 0))))
def m_reads_91 (N : Nat) (s : St) : MM := itr (m_reads_93 N ) (fun _ _ => none) N 0 s
def m_reads_45 (N : Nat) (k45 : Int → St → MM) (v1 : Int) (s : St) : MM := if eq32 (s 0 16) ((-1)) then (if le32 (s 0 12) v1 then (m_reads_91 N   s) else (gd (inb v1 80) (if eq32 (s 10 v1) 59 then (bd (m_group N (v1 + 1) s) (fun r76 s76 => k45 r76 s76)) else (k45 v1 (su s 0 16 v1))))) else (m_reads_91 N   s)
def m_reads_20 (N : Nat) (k20 : Int → St → MM) (v1 : Int) (s : St) : MM := if le32 26 v1 then (bd (m_group N 0 s) (fun r41 s41 => itr (m_reads_45 N ) (fun _ _ => none) N r41 s41)) else (gd (inb v1 26) (k20 (v1 + 1) (su s 11 v1 0)))
def m_reads (N : Nat) (s : St) : MM := if eq32 (s 0 15) 0 then (itr (m_reads_20 N ) (fun _ _ => none) N 0 (su (su s 0 15 1) 0 16 ((-1)))) else (some (0, s))
abbrev rm_m_reads : Room := { frames := 2, cells := 0, slots := 0, locals := 46 }
theorem s_m_reads_93 {X : CxT} {l : Launch} {G : GG} (C : Cx X l (mW G) 3 prog_14_method_19_code "OneSelfModel" (wo y_M_reads prog_14_method_19_code 3 none) none rm_m_reads) {o : Int × St} {N : Nat} {v2 : Int} {k93 : Int → St → MM} (hk93 : ∀ (u2 : Int) (s : St), k93 u2 s = some o → Rj X (mW G) 3 (qV X (mW G) o) 93 [(0, .ref ((mW G).h 0)), (2, vI u2)] [] s) {s : St} (hf : m_reads_93 N  k93 v2 s = some o) : Rj X (mW G) 3 (qV X (mW G) o) 93 [(0, .ref ((mW G).h 0)), (2, vI v2)] [] s := by
  unfold m_reads_93 at hf
  refine r_iload_n C (q := 94) 1 d_M_reads_93 rfl rfl rfl ?_
  refine r_bipush C (q := 96) (x := 26) d_M_reads_94 rfl rfl ?_
  refine r_ic_ge C (t := 120) (q := 99) d_M_reads_96 (by decide) rfl (fun c96 => ?_) (fun c96 => ?_)
  · replace hf := ite_t c96 hf
    exact r_return C hf d_M_reads_120
  · replace hf := ite_f c96 hf
    refine r_aload_n C (q := 100) 0 d_M_reads_99 rfl rfl rfl ?_
    refine gxm_M_faultNow C (q := 103) fl_M_168 d_M_reads_100 rfl ?_
    refine r_iconst C (q := 104) d_M_reads_103 rfl ?_
    refine r_ic_eq C (t := 120) (q := 107) d_M_reads_104 (by decide) rfl (fun c104 => ?_) (fun c104 => ?_)
    · replace hf := ite_t c104 hf
      exact r_return C hf d_M_reads_120
    · replace hf := ite_f c104 hf
      refine r_aload_n C (q := 108) 0 d_M_reads_107 rfl rfl rfl ?_
      refine gxm_M_figureOf C (q := 111) fl_M_44 d_M_reads_108 rfl ?_
      refine r_iload_n C (q := 112) 1 d_M_reads_111 rfl rfl rfl ?_
      refine r_iconst C (q := 113) d_M_reads_112 rfl ?_
      obtain ⟨g113, hf⟩ := gd_s hf
      refine r_iast C (q := 114) 11 (Nat.le_of_ble_eq_true rfl) (fun _ => rfl) 0 rfl g113 (by decide) d_M_reads_113 rfl ?_
      refine r_iinc C (q := 117) (lv' := [(2, vI (v2 + 1)), (0, .ref ((mW G).h 0))]) 1 d_M_reads_114 rfl (by decide) rfl rfl ?_
      refine r_goto C (q := 93) d_M_reads_117 (by decide) ?_
      exact r_sub [1, 0] rfl (hk93 _ _  hf)
theorem s_m_reads_91 {X : CxT} {l : Launch} {G : GG} (C : Cx X l (mW G) 3 prog_14_method_19_code "OneSelfModel" (wo y_M_reads prog_14_method_19_code 3 none) none rm_m_reads) {o : Int × St} {N : Nat} {s : St} (hf : m_reads_91 N  s = some o) : Rj X (mW G) 3 (qV X (mW G) o) 91 [(0, .ref ((mW G).h 0))] [] s := by
  unfold m_reads_91 at hf
  refine r_iconst C (q := 92) d_M_reads_91 rfl ?_
  refine r_istore_n C (q := 93) (lv' := [(2, vI 0), (0, .ref ((mW G).h 0))]) d_M_reads_92 rfl (by decide) rfl rfl ?_
  have hL : ∀ (u2 : Int) (z : St), itr (m_reads_93 N ) (fun _ _ => none) N u2 z = some o → Rj X (mW G) 3 (qV X (mW G) o) 93 [(0, .ref ((mW G).h 0)), (2, vI u2)] [] z := itr_ind (m_reads_93 N ) (fun _ _ => none) (fun k => ∀ (u2 : Int) (z : St), k u2 z = some o → Rj X (mW G) 3 (qV X (mW G) o) 93 [(0, .ref ((mW G).h 0)), (2, vI u2)] [] z) (fun _ _  h => by cases h) (fun k hk u2 z h => s_m_reads_93 C hk h) N
  exact r_sub [1, 0] rfl (hL _ _  hf)
theorem s_m_reads_45 {X : CxT} {l : Launch} {G : GG} (C : Cx X l (mW G) 3 prog_14_method_19_code "OneSelfModel" (wo y_M_reads prog_14_method_19_code 3 none) none rm_m_reads) {o : Int × St} {N : Nat} {v1 : Int} {k45 : Int → St → MM} (hk45 : ∀ (u1 : Int) (s : St), k45 u1 s = some o → Rj X (mW G) 3 (qV X (mW G) o) 45 [(0, .ref ((mW G).h 0)), (1, vI u1)] [] s) {s : St} (hf : m_reads_45 N  k45 v1 s = some o) : Rj X (mW G) 3 (qV X (mW G) o) 45 [(0, .ref ((mW G).h 0)), (1, vI v1)] [] s := by
  unfold m_reads_45 at hf
  refine r_aload_n C (q := 46) 0 d_M_reads_45 rfl rfl rfl ?_
  refine gxm_M_faultNow C (q := 49) fl_M_168 d_M_reads_46 rfl ?_
  refine r_iconst C (q := 50) d_M_reads_49 rfl ?_
  refine r_ic_ne C (t := 91) (q := 53) d_M_reads_50 (by decide) rfl (fun c50 => ?_) (fun c50 => ?_)
  · replace hf := ite_t c50 hf
    refine r_iload_n C (q := 54) 1 d_M_reads_53 rfl rfl rfl ?_
    refine r_aload_n C (q := 55) 0 d_M_reads_54 rfl rfl rfl ?_
    refine gxm_M_typed C (q := 58) fl_M_158 d_M_reads_55 rfl ?_
    refine r_ic_ge C (t := 91) (q := 61) d_M_reads_58 (by decide) rfl (fun c58 => ?_) (fun c58 => ?_)
    · replace hf := ite_t c58 hf
      exact r_sub [0] rfl (s_m_reads_91 C hf)
    · replace hf := ite_f c58 hf
      refine r_aload_n C (q := 62) 0 d_M_reads_61 rfl rfl rfl ?_
      refine gxm_M_text C (q := 65) fl_M_41 d_M_reads_62 rfl ?_
      refine r_iload_n C (q := 66) 1 d_M_reads_65 rfl rfl rfl ?_
      obtain ⟨g66, hf⟩ := gd_s hf
      refine r_iald C (q := 67) 10 (Nat.le_of_ble_eq_true rfl) (fun _ => rfl) 0 rfl g66 (by decide) d_M_reads_66 rfl ?_
      refine r_bipush C (q := 69) (x := 59) d_M_reads_67 rfl rfl ?_
      refine r_ic_ne C (t := 83) (q := 72) d_M_reads_69 (by decide) rfl (fun c69 => ?_) (fun c69 => ?_)
      · replace hf := ite_t c69 hf
        refine r_aload_n C (q := 73) 0 d_M_reads_72 rfl rfl rfl ?_
        refine r_iload_n C (q := 74) 1 d_M_reads_73 rfl rfl rfl ?_
        refine r_iconst C (q := 75) d_M_reads_74 rfl ?_
        refine r_iadd C (q := 76) d_M_reads_75 rfl ?_
        obtain ⟨r76, s76, hg76, hf⟩ := bd_s hf
        refine r_cVI C (q := 79) (As := [vI (v1 + 1)]) (k0 := 0) (c_m_group C.i hg76) mt_M_group ml_M_171 (Nat.le_of_ble_eq_true rfl) rfl rfl rfl rfl rfl rfl ⟨Nat.le_of_ble_eq_true rfl, Nat.le_of_ble_eq_true rfl⟩ rfl (Nat.le_of_ble_eq_true rfl) d_M_reads_76 rfl ?_
        refine r_istore_n C (q := 80) (lv' := [(1, vI r76), (0, .ref ((mW G).h 0))]) d_M_reads_79 rfl (by decide) rfl rfl ?_
        refine r_goto C (q := 45) d_M_reads_80 (by decide) ?_
        exact r_sub [1, 0] rfl (hk45 _ _  hf)
      · replace hf := ite_f c69 hf
        refine r_aload_n C (q := 84) 0 d_M_reads_83 rfl rfl rfl ?_
        refine r_iload_n C (q := 85) 1 d_M_reads_84 rfl rfl rfl ?_
        refine pxm_M_faultNow C (q := 88) fl_M_168 d_M_reads_85 rfl ?_
        refine r_goto C (q := 45) d_M_reads_88 (by decide) ?_
        exact r_sub [0, 1] rfl (hk45 _ _  hf)
  · replace hf := ite_f c50 hf
    exact r_sub [0] rfl (s_m_reads_91 C hf)
theorem s_m_reads_20 {X : CxT} {l : Launch} {G : GG} (C : Cx X l (mW G) 3 prog_14_method_19_code "OneSelfModel" (wo y_M_reads prog_14_method_19_code 3 none) none rm_m_reads) {o : Int × St} {N : Nat} {v1 : Int} {k20 : Int → St → MM} (hk20 : ∀ (u1 : Int) (s : St), k20 u1 s = some o → Rj X (mW G) 3 (qV X (mW G) o) 20 [(0, .ref ((mW G).h 0)), (1, vI u1)] [] s) {s : St} (hf : m_reads_20 N  k20 v1 s = some o) : Rj X (mW G) 3 (qV X (mW G) o) 20 [(0, .ref ((mW G).h 0)), (1, vI v1)] [] s := by
  unfold m_reads_20 at hf
  refine r_iload_n C (q := 21) 1 d_M_reads_20 rfl rfl rfl ?_
  refine r_bipush C (q := 23) (x := 26) d_M_reads_21 rfl rfl ?_
  refine r_ic_ge C (t := 39) (q := 26) d_M_reads_23 (by decide) rfl (fun c23 => ?_) (fun c23 => ?_)
  · replace hf := ite_t c23 hf
    refine r_aload_n C (q := 40) 0 d_M_reads_39 rfl rfl rfl ?_
    refine r_iconst C (q := 41) d_M_reads_40 rfl ?_
    obtain ⟨r41, s41, hg41, hf⟩ := bd_s hf
    refine r_cVI C (q := 44) (As := [vI 0]) (k0 := 0) (c_m_group C.i hg41) mt_M_group ml_M_171 (Nat.le_of_ble_eq_true rfl) rfl rfl rfl rfl rfl rfl ⟨Nat.le_of_ble_eq_true rfl, Nat.le_of_ble_eq_true rfl⟩ rfl (Nat.le_of_ble_eq_true rfl) d_M_reads_41 rfl ?_
    refine r_istore_n C (q := 45) (lv' := [(1, vI r41), (0, .ref ((mW G).h 0))]) d_M_reads_44 rfl (by decide) rfl rfl ?_
    have hL : ∀ (u1 : Int) (z : St), itr (m_reads_45 N ) (fun _ _ => none) N u1 z = some o → Rj X (mW G) 3 (qV X (mW G) o) 45 [(0, .ref ((mW G).h 0)), (1, vI u1)] [] z := itr_ind (m_reads_45 N ) (fun _ _ => none) (fun k => ∀ (u1 : Int) (z : St), k u1 z = some o → Rj X (mW G) 3 (qV X (mW G) o) 45 [(0, .ref ((mW G).h 0)), (1, vI u1)] [] z) (fun _ _  h => by cases h) (fun k hk u1 z h => s_m_reads_45 C hk h) N
    exact r_sub [1, 0] rfl (hL _ _  hf)
  · replace hf := ite_f c23 hf
    refine r_aload_n C (q := 27) 0 d_M_reads_26 rfl rfl rfl ?_
    refine gxm_M_figureOf C (q := 30) fl_M_44 d_M_reads_27 rfl ?_
    refine r_iload_n C (q := 31) 1 d_M_reads_30 rfl rfl rfl ?_
    refine r_iconst C (q := 32) d_M_reads_31 rfl ?_
    obtain ⟨g32, hf⟩ := gd_s hf
    refine r_iast C (q := 33) 11 (Nat.le_of_ble_eq_true rfl) (fun _ => rfl) 0 rfl g32 (by decide) d_M_reads_32 rfl ?_
    refine r_iinc C (q := 36) (lv' := [(1, vI (v1 + 1)), (0, .ref ((mW G).h 0))]) 1 d_M_reads_33 rfl (by decide) rfl rfl ?_
    refine r_goto C (q := 20) d_M_reads_36 (by decide) ?_
    exact r_sub [1, 0] rfl (hk20 _ _  hf)
theorem c_m_reads {l : Launch} {G : GG} (hi : wo_i (mW G)) {N : Nat} {s : St} {o : Int × St} (hf : m_reads N s = some o) : CtV l (mW G) y_M_reads (wo y_M_reads prog_14_method_19_code 3 none) rm_m_reads [.ref ((mW G).h 0)] s o := by
  refine ct_V (by decide +kernel) hi (Nat.le_of_ble_eq_true rfl) fun X C => ?_
  unfold m_reads at hf
  show Rj X (mW G) 3 (qV X (mW G) o) 0 [(0, .ref ((mW G).h 0))] [] s
  refine r_aload_n C (q := 1) 0 d_M_reads_0 rfl rfl rfl ?_
  refine gxm_M_isRead C (q := 4) fl_M_161 d_M_reads_1 rfl ?_
  refine r_if_eq C (t := 8) (q := 7) d_M_reads_4 (by decide) rfl (fun c4 => ?_) (fun c4 => ?_)
  · replace hf := ite_t c4 hf
    refine r_aload_n C (q := 9) 0 d_M_reads_8 rfl rfl rfl ?_
    refine r_iconst C (q := 10) d_M_reads_9 rfl ?_
    refine pxm_M_isRead C (q := 13) fl_M_161 (by decide) d_M_reads_10 rfl ?_
    refine r_aload_n C (q := 14) 0 d_M_reads_13 rfl rfl rfl ?_
    refine r_iconst C (q := 15) d_M_reads_14 rfl ?_
    refine pxm_M_faultNow C (q := 18) fl_M_168 d_M_reads_15 rfl ?_
    refine r_iconst C (q := 19) d_M_reads_18 rfl ?_
    refine r_istore_n C (q := 20) (lv' := [(1, vI 0), (0, .ref ((mW G).h 0))]) d_M_reads_19 rfl (by decide) rfl rfl ?_
    have hL : ∀ (u1 : Int) (z : St), itr (m_reads_20 N ) (fun _ _ => none) N u1 z = some o → Rj X (mW G) 3 (qV X (mW G) o) 20 [(0, .ref ((mW G).h 0)), (1, vI u1)] [] z := itr_ind (m_reads_20 N ) (fun _ _ => none) (fun k => ∀ (u1 : Int) (z : St), k u1 z = some o → Rj X (mW G) 3 (qV X (mW G) o) 20 [(0, .ref ((mW G).h 0)), (1, vI u1)] [] z) (fun _ _  h => by cases h) (fun k hk u1 z h => s_m_reads_20 C hk h) N
    exact r_sub [1, 0] rfl (hL _ _  hf)
  · replace hf := ite_f c4 hf
    exact r_return C hf d_M_reads_7
def m_fault (N : Nat) (s : St) : MM := bd (m_reads N s) (fun r1 s1 => some (s1 0 16, s1))
abbrev rm_m_fault : Room := { frames := 3, cells := 0, slots := 0, locals := 68 }
theorem c_m_fault {l : Launch} {G : GG} (hi : wo_i (mW G)) {N : Nat} {s : St} {o : Int × St} (hf : m_fault N s = some o) : CtI l (mW G) y_M_fault (wo y_M_fault prog_14_method_20_code 1 (some .int)) rm_m_fault [.ref ((mW G).h 0)] s o := by
  refine ct_I (by decide +kernel) hi (Nat.le_of_ble_eq_true rfl) fun X C => ?_
  unfold m_fault at hf
  show Rj X (mW G) 1 (qI X (mW G) o) 0 [(0, .ref ((mW G).h 0))] [] s
  refine r_aload_n C (q := 1) 0 d_M_fault_0 rfl rfl rfl ?_
  obtain ⟨r1, s1, hg1, hf⟩ := bd_s hf
  refine r_cVV C (q := 4) (As := []) (k0 := 0) (c_m_reads C.i hg1) mt_M_reads ml_M_174 (Nat.le_of_ble_eq_true rfl) rfl rfl rfl rfl rfl rfl ⟨Nat.le_of_ble_eq_true rfl, Nat.le_of_ble_eq_true rfl⟩ rfl (Nat.le_of_ble_eq_true rfl) d_M_fault_1 rfl ?_
  refine r_aload_n C (q := 5) 0 d_M_fault_4 rfl rfl rfl ?_
  refine gxm_M_faultNow C (q := 8) fl_M_168 d_M_fault_5 rfl ?_
  exact r_ireturn C hf d_M_fault_8
def m_soundOf_122 (N : Nat) (k9 : Int → Int → St → MM) (v1 v2 v3 v4 : Int) (s : St) : MM := k9 v3 (v4 + 1) s
def m_soundOf_99 (N : Nat) (k9 : Int → Int → St → MM) (v1 v2 v3 v4 v7 t0 : Int) (s : St) : MM := if eq32 t0 0 then (m_soundOf_122 N k9 v1 v2 v3 v4  s) else (gd (inb ((10 * v2) + v3) 20) (m_soundOf_122 N k9 v1 v2 (v3 + 1) v4  (su s 12 ((10 * v2) + v3) v7)))
def m_soundOf_98 (N : Nat) (k9 : Int → Int → St → MM) (v1 v2 v3 v4 v7 : Int) (s : St) : MM := m_soundOf_99 N k9 v1 v2 v3 v4 v7 0 s
def m_soundOf_94 (N : Nat) (k9 : Int → Int → St → MM) (v1 v2 v3 v4 v7 : Int) (s : St) : MM := m_soundOf_99 N k9 v1 v2 v3 v4 v7 1 s
def m_soundOf_63 (N : Nat) (k9 : Int → Int → St → MM) (v1 v2 v3 v4 t0 : Int) (s : St) : MM := if eq32 t0 48 then (m_soundOf_98 N k9 v1 v2 v3 v4 t0  s) else (if eq32 v3 0 then (m_soundOf_94 N k9 v1 v2 v3 v4 t0  s) else (gd (inb (((10 * v2) + v3) - 1) 20) (if eq32 (s 12 (((10 * v2) + v3) - 1)) t0 then (m_soundOf_98 N k9 v1 v2 v3 v4 t0  s) else (m_soundOf_94 N k9 v1 v2 v3 v4 t0  s))))
def m_soundOf_56 (N : Nat) (k9 : Int → Int → St → MM) (v1 v2 v3 v4 v5 : Int) (s : St) : MM := m_soundOf_63 N k9 v1 v2 v3 v4 v5 s
def m_soundOf_9 (N : Nat) (v1 v2 : Int) (k9 : Int → Int → St → MM) (v3 v4 : Int) (s : St) : MM := gd (inb v1 36) (if le32 (s 3 v1) v4 then (gd (inb v2 2) (some (0, su s 13 v2 v3))) else (gd (inb ((10 * v1) + v4) 360) (gd (inb ((s 2 ((10 * v1) + v4)) - 97) 26) (if eq32 v4 0 then (m_soundOf_56 N k9 v1 v2 v3 v4 (s 2 ((10 * v1) + v4))  s) else (if eq32 (s 11 ((s 2 ((10 * v1) + v4)) - 97)) 0 then (m_soundOf_56 N k9 v1 v2 v3 v4 (s 2 ((10 * v1) + v4))  s) else (m_soundOf_63 N k9 v1 v2 v3 v4 (s 11 ((s 2 ((10 * v1) + v4)) - 97)) s))))))
def m_soundOf (N : Nat) (v1 v2 : Int) (s : St) : MM := bd (m_reads N s) (fun r1 s1 => itr (m_soundOf_9 N v1 v2) (fun _ _ _ => none) N 0 0 s1)
abbrev rm_m_soundOf : Room := { frames := 3, cells := 0, slots := 0, locals := 68 }
theorem s_m_soundOf_122 {X : CxT} {l : Launch} {G : GG} (C : Cx X l (mW G) 9 prog_14_method_21_code "OneSelfModel" (wo y_M_soundOf prog_14_method_21_code 9 none) none rm_m_soundOf) {o : Int × St} {N : Nat} {v1 v2 v3 v4 : Int} {k9 : Int → Int → St → MM} (hk9 : ∀ (u3 u4 : Int) (s : St), k9 u3 u4 s = some o → Rj X (mW G) 9 (qV X (mW G) o) 9 [(0, .ref ((mW G).h 0)), (1, vI v1), (2, vI v2), (3, vI u3), (4, vI u4)] [] s) {s : St} (hf : m_soundOf_122 N k9 v1 v2 v3 v4 s = some o) : Rj X (mW G) 9 (qV X (mW G) o) 122 [(0, .ref ((mW G).h 0)), (1, vI v1), (2, vI v2), (3, vI v3), (4, vI v4)] [] s := by
  unfold m_soundOf_122 at hf
  refine r_iinc C (q := 125) (lv' := [(4, vI (v4 + 1)), (0, .ref ((mW G).h 0)), (1, vI v1), (2, vI v2), (3, vI v3)]) 4 d_M_soundOf_122 rfl (by decide) rfl rfl ?_
  refine r_goto C (q := 9) d_M_soundOf_125 (by decide) ?_
  exact r_sub [1, 2, 3, 4, 0] rfl (hk9 _ _ _  hf)
theorem s_m_soundOf_99 {X : CxT} {l : Launch} {G : GG} (C : Cx X l (mW G) 9 prog_14_method_21_code "OneSelfModel" (wo y_M_soundOf prog_14_method_21_code 9 none) none rm_m_soundOf) {o : Int × St} {N : Nat} {v1 v2 v3 v4 v7 t0 : Int} {k9 : Int → Int → St → MM} (hk9 : ∀ (u3 u4 : Int) (s : St), k9 u3 u4 s = some o → Rj X (mW G) 9 (qV X (mW G) o) 9 [(0, .ref ((mW G).h 0)), (1, vI v1), (2, vI v2), (3, vI u3), (4, vI u4)] [] s) {s : St} (hf : m_soundOf_99 N k9 v1 v2 v3 v4 v7 t0 s = some o) : Rj X (mW G) 9 (qV X (mW G) o) 99 [(0, .ref ((mW G).h 0)), (1, vI v1), (2, vI v2), (3, vI v3), (4, vI v4), (7, vI v7)] [vI t0] s := by
  unfold m_soundOf_99 at hf
  refine r_istore C (q := 101) (lv' := [(8, vI t0), (0, .ref ((mW G).h 0)), (1, vI v1), (2, vI v2), (3, vI v3), (4, vI v4), (7, vI v7)]) d_M_soundOf_99 (by decide) rfl rfl ?_
  refine r_iload C (q := 103) 0 d_M_soundOf_101 rfl rfl ?_
  refine r_if_eq C (t := 122) (q := 106) d_M_soundOf_103 (by decide) rfl (fun c103 => ?_) (fun c103 => ?_)
  · replace hf := ite_t c103 hf
    exact r_sub [1, 2, 3, 4, 5] rfl (s_m_soundOf_122 C hk9 hf)
  · replace hf := ite_f c103 hf
    refine r_aload_n C (q := 107) 1 d_M_soundOf_106 rfl rfl rfl ?_
    refine gxm_M_sounds C (q := 110) fl_M_47 d_M_soundOf_107 rfl ?_
    refine r_bipush C (q := 112) (x := 10) d_M_soundOf_110 rfl rfl ?_
    refine r_iload_n C (q := 113) 3 d_M_soundOf_112 rfl rfl rfl ?_
    refine r_imul C (q := 114) d_M_soundOf_113 rfl ?_
    refine r_iload_n C (q := 115) 4 d_M_soundOf_114 rfl rfl rfl ?_
    refine r_iadd C (q := 116) d_M_soundOf_115 rfl ?_
    refine r_iload C (q := 118) 6 d_M_soundOf_116 rfl rfl ?_
    obtain ⟨g118, hf⟩ := gd_s hf
    refine r_iast C (q := 119) 12 (Nat.le_of_ble_eq_true rfl) (fun _ => rfl) 0 rfl g118 (by decide) d_M_soundOf_118 rfl ?_
    refine r_iinc C (q := 122) (lv' := [(3, vI (v3 + 1)), (8, vI t0), (0, .ref ((mW G).h 0)), (1, vI v1), (2, vI v2), (4, vI v4), (7, vI v7)]) 4 d_M_soundOf_119 rfl (by decide) rfl rfl ?_
    exact r_sub [2, 3, 4, 0, 5] rfl (s_m_soundOf_122 C hk9 hf)
theorem s_m_soundOf_98 {X : CxT} {l : Launch} {G : GG} (C : Cx X l (mW G) 9 prog_14_method_21_code "OneSelfModel" (wo y_M_soundOf prog_14_method_21_code 9 none) none rm_m_soundOf) {o : Int × St} {N : Nat} {v1 v2 v3 v4 v7 : Int} {k9 : Int → Int → St → MM} (hk9 : ∀ (u3 u4 : Int) (s : St), k9 u3 u4 s = some o → Rj X (mW G) 9 (qV X (mW G) o) 9 [(0, .ref ((mW G).h 0)), (1, vI v1), (2, vI v2), (3, vI u3), (4, vI u4)] [] s) {s : St} (hf : m_soundOf_98 N k9 v1 v2 v3 v4 v7 s = some o) : Rj X (mW G) 9 (qV X (mW G) o) 98 [(0, .ref ((mW G).h 0)), (1, vI v1), (2, vI v2), (3, vI v3), (4, vI v4), (7, vI v7)] [] s := by
  unfold m_soundOf_98 at hf
  refine r_iconst C (q := 99) d_M_soundOf_98 rfl ?_
  exact r_sub [0, 1, 2, 3, 4, 5] rfl (s_m_soundOf_99 C hk9 hf)
theorem s_m_soundOf_94 {X : CxT} {l : Launch} {G : GG} (C : Cx X l (mW G) 9 prog_14_method_21_code "OneSelfModel" (wo y_M_soundOf prog_14_method_21_code 9 none) none rm_m_soundOf) {o : Int × St} {N : Nat} {v1 v2 v3 v4 v7 : Int} {k9 : Int → Int → St → MM} (hk9 : ∀ (u3 u4 : Int) (s : St), k9 u3 u4 s = some o → Rj X (mW G) 9 (qV X (mW G) o) 9 [(0, .ref ((mW G).h 0)), (1, vI v1), (2, vI v2), (3, vI u3), (4, vI u4)] [] s) {s : St} (hf : m_soundOf_94 N k9 v1 v2 v3 v4 v7 s = some o) : Rj X (mW G) 9 (qV X (mW G) o) 94 [(0, .ref ((mW G).h 0)), (1, vI v1), (2, vI v2), (3, vI v3), (4, vI v4), (7, vI v7)] [] s := by
  unfold m_soundOf_94 at hf
  refine r_iconst C (q := 95) d_M_soundOf_94 rfl ?_
  refine r_goto C (q := 99) d_M_soundOf_95 (by decide) ?_
  exact r_sub [0, 1, 2, 3, 4, 5] rfl (s_m_soundOf_99 C hk9 hf)
theorem s_m_soundOf_63 {X : CxT} {l : Launch} {G : GG} (C : Cx X l (mW G) 9 prog_14_method_21_code "OneSelfModel" (wo y_M_soundOf prog_14_method_21_code 9 none) none rm_m_soundOf) {o : Int × St} {N : Nat} {v1 v2 v3 v4 t0 : Int} {k9 : Int → Int → St → MM} (hk9 : ∀ (u3 u4 : Int) (s : St), k9 u3 u4 s = some o → Rj X (mW G) 9 (qV X (mW G) o) 9 [(0, .ref ((mW G).h 0)), (1, vI v1), (2, vI v2), (3, vI u3), (4, vI u4)] [] s) {s : St} (hf : m_soundOf_63 N k9 v1 v2 v3 v4 t0 s = some o) : Rj X (mW G) 9 (qV X (mW G) o) 63 [(0, .ref ((mW G).h 0)), (1, vI v1), (2, vI v2), (3, vI v3), (4, vI v4)] [vI t0] s := by
  unfold m_soundOf_63 at hf
  refine r_istore C (q := 65) (lv' := [(7, vI t0), (0, .ref ((mW G).h 0)), (1, vI v1), (2, vI v2), (3, vI v3), (4, vI v4)]) d_M_soundOf_63 (by decide) rfl rfl ?_
  refine r_iload C (q := 67) 0 d_M_soundOf_65 rfl rfl ?_
  refine r_bipush C (q := 69) (x := 48) d_M_soundOf_67 rfl rfl ?_
  refine r_ic_eq C (t := 98) (q := 72) d_M_soundOf_69 (by decide) rfl (fun c69 => ?_) (fun c69 => ?_)
  · replace hf := ite_t c69 hf
    exact r_sub [1, 2, 3, 4, 5, 0] rfl (s_m_soundOf_98 C hk9 hf)
  · replace hf := ite_f c69 hf
    refine r_iload_n C (q := 73) 4 d_M_soundOf_72 rfl rfl rfl ?_
    refine r_if_eq C (t := 94) (q := 76) d_M_soundOf_73 (by decide) rfl (fun c73 => ?_) (fun c73 => ?_)
    · replace hf := ite_t c73 hf
      exact r_sub [1, 2, 3, 4, 5, 0] rfl (s_m_soundOf_94 C hk9 hf)
    · replace hf := ite_f c73 hf
      refine r_aload_n C (q := 77) 1 d_M_soundOf_76 rfl rfl rfl ?_
      refine gxm_M_sounds C (q := 80) fl_M_47 d_M_soundOf_77 rfl ?_
      refine r_bipush C (q := 82) (x := 10) d_M_soundOf_80 rfl rfl ?_
      refine r_iload_n C (q := 83) 3 d_M_soundOf_82 rfl rfl rfl ?_
      refine r_imul C (q := 84) d_M_soundOf_83 rfl ?_
      refine r_iload_n C (q := 85) 4 d_M_soundOf_84 rfl rfl rfl ?_
      refine r_iadd C (q := 86) d_M_soundOf_85 rfl ?_
      refine r_iconst C (q := 87) d_M_soundOf_86 rfl ?_
      refine r_isub C (q := 88) d_M_soundOf_87 rfl ?_
      obtain ⟨g88, hf⟩ := gd_s hf
      refine r_iald C (q := 89) 12 (Nat.le_of_ble_eq_true rfl) (fun _ => rfl) 0 rfl g88 (by decide) d_M_soundOf_88 rfl ?_
      refine r_iload C (q := 91) 0 d_M_soundOf_89 rfl rfl ?_
      refine r_ic_eq C (t := 98) (q := 94) d_M_soundOf_91 (by decide) rfl (fun c91 => ?_) (fun c91 => ?_)
      · replace hf := ite_t c91 hf
        exact r_sub [1, 2, 3, 4, 5, 0] rfl (s_m_soundOf_98 C hk9 hf)
      · replace hf := ite_f c91 hf
        exact r_sub [1, 2, 3, 4, 5, 0] rfl (s_m_soundOf_94 C hk9 hf)
theorem s_m_soundOf_56 {X : CxT} {l : Launch} {G : GG} (C : Cx X l (mW G) 9 prog_14_method_21_code "OneSelfModel" (wo y_M_soundOf prog_14_method_21_code 9 none) none rm_m_soundOf) {o : Int × St} {N : Nat} {v1 v2 v3 v4 v5 : Int} {k9 : Int → Int → St → MM} (hk9 : ∀ (u3 u4 : Int) (s : St), k9 u3 u4 s = some o → Rj X (mW G) 9 (qV X (mW G) o) 9 [(0, .ref ((mW G).h 0)), (1, vI v1), (2, vI v2), (3, vI u3), (4, vI u4)] [] s) {s : St} (hf : m_soundOf_56 N k9 v1 v2 v3 v4 v5 s = some o) : Rj X (mW G) 9 (qV X (mW G) o) 56 [(0, .ref ((mW G).h 0)), (1, vI v1), (2, vI v2), (3, vI v3), (4, vI v4), (5, vI v5)] [] s := by
  unfold m_soundOf_56 at hf
  refine r_iload C (q := 58) 5 d_M_soundOf_56 rfl rfl ?_
  refine r_goto C (q := 63) d_M_soundOf_58 (by decide) ?_
  exact r_sub [0, 1, 2, 3, 4] rfl (s_m_soundOf_63 C hk9 hf)
theorem s_m_soundOf_9 {X : CxT} {l : Launch} {G : GG} (C : Cx X l (mW G) 9 prog_14_method_21_code "OneSelfModel" (wo y_M_soundOf prog_14_method_21_code 9 none) none rm_m_soundOf) {o : Int × St} {N : Nat} {v1 v2 v3 v4 : Int} {k9 : Int → Int → St → MM} (hk9 : ∀ (u3 u4 : Int) (s : St), k9 u3 u4 s = some o → Rj X (mW G) 9 (qV X (mW G) o) 9 [(0, .ref ((mW G).h 0)), (1, vI v1), (2, vI v2), (3, vI u3), (4, vI u4)] [] s) {s : St} (hf : m_soundOf_9 N v1 v2 k9 v3 v4 s = some o) : Rj X (mW G) 9 (qV X (mW G) o) 9 [(0, .ref ((mW G).h 0)), (1, vI v1), (2, vI v2), (3, vI v3), (4, vI v4)] [] s := by
  unfold m_soundOf_9 at hf
  refine r_iload C (q := 11) 4 d_M_soundOf_9 rfl rfl ?_
  refine r_aload_n C (q := 12) 0 d_M_soundOf_11 rfl rfl rfl ?_
  refine gxm_M_lengths C (q := 15) fl_M_16 d_M_soundOf_12 rfl ?_
  refine r_iload_n C (q := 16) 1 d_M_soundOf_15 rfl rfl rfl ?_
  obtain ⟨g16, hf⟩ := gd_s hf
  refine r_iald C (q := 17) 3 (Nat.le_of_ble_eq_true rfl) (fun _ => rfl) 0 rfl g16 (by decide) d_M_soundOf_16 rfl ?_
  refine r_ic_ge C (t := 128) (q := 20) d_M_soundOf_17 (by decide) rfl (fun c17 => ?_) (fun c17 => ?_)
  · replace hf := ite_t c17 hf
    refine r_aload_n C (q := 129) 0 d_M_soundOf_128 rfl rfl rfl ?_
    refine gxm_M_soundMany C (q := 132) fl_M_50 d_M_soundOf_129 rfl ?_
    refine r_iload_n C (q := 133) 2 d_M_soundOf_132 rfl rfl rfl ?_
    refine r_iload_n C (q := 134) 3 d_M_soundOf_133 rfl rfl rfl ?_
    obtain ⟨g134, hf⟩ := gd_s hf
    refine r_iast C (q := 135) 13 (Nat.le_of_ble_eq_true rfl) (fun _ => rfl) 0 rfl g134 (by decide) d_M_soundOf_134 rfl ?_
    exact r_return C hf d_M_soundOf_135
  · replace hf := ite_f c17 hf
    refine r_aload_n C (q := 21) 0 d_M_soundOf_20 rfl rfl rfl ?_
    refine gxm_M_letters C (q := 24) fl_M_13 d_M_soundOf_21 rfl ?_
    refine r_bipush C (q := 26) (x := 10) d_M_soundOf_24 rfl rfl ?_
    refine r_iload_n C (q := 27) 1 d_M_soundOf_26 rfl rfl rfl ?_
    refine r_imul C (q := 28) d_M_soundOf_27 rfl ?_
    refine r_iload C (q := 30) 4 d_M_soundOf_28 rfl rfl ?_
    refine r_iadd C (q := 31) d_M_soundOf_30 rfl ?_
    obtain ⟨g31, hf⟩ := gd_s hf
    refine r_iald C (q := 32) 2 (Nat.le_of_ble_eq_true rfl) (fun _ => rfl) 0 rfl g31 (by decide) d_M_soundOf_31 rfl ?_
    refine r_istore C (q := 34) (lv' := [(5, vI (s 2 ((10 * v1) + v4))), (0, .ref ((mW G).h 0)), (1, vI v1), (2, vI v2), (3, vI v3), (4, vI v4)]) d_M_soundOf_32 (by decide) rfl rfl ?_
    refine r_aload_n C (q := 35) 1 d_M_soundOf_34 rfl rfl rfl ?_
    refine gxm_M_figureOf C (q := 38) fl_M_44 d_M_soundOf_35 rfl ?_
    refine r_iload C (q := 40) 0 d_M_soundOf_38 rfl rfl ?_
    refine r_bipush C (q := 42) (x := 97) d_M_soundOf_40 rfl rfl ?_
    refine r_isub C (q := 43) d_M_soundOf_42 rfl ?_
    obtain ⟨g43, hf⟩ := gd_s hf
    refine r_iald C (q := 44) 11 (Nat.le_of_ble_eq_true rfl) (fun _ => rfl) 0 rfl g43 (by decide) d_M_soundOf_43 rfl ?_
    refine r_istore C (q := 46) (lv' := [(6, vI (s 11 ((s 2 ((10 * v1) + v4)) - 97))), (5, vI (s 2 ((10 * v1) + v4))), (0, .ref ((mW G).h 0)), (1, vI v1), (2, vI v2), (3, vI v3), (4, vI v4)]) d_M_soundOf_44 (by decide) rfl rfl ?_
    refine r_iload C (q := 48) 6 d_M_soundOf_46 rfl rfl ?_
    refine r_if_eq C (t := 56) (q := 51) d_M_soundOf_48 (by decide) rfl (fun c48 => ?_) (fun c48 => ?_)
    · replace hf := ite_t c48 hf
      exact r_sub [2, 3, 4, 5, 6, 1] rfl (s_m_soundOf_56 C hk9 hf)
    · replace hf := ite_f c48 hf
      refine r_iload C (q := 53) 0 d_M_soundOf_51 rfl rfl ?_
      refine r_if_ne C (t := 61) (q := 56) d_M_soundOf_53 (by decide) rfl (fun c53 => ?_) (fun c53 => ?_)
      · replace hf := ite_t c53 hf
        exact r_sub [2, 3, 4, 5, 6, 1] rfl (s_m_soundOf_56 C hk9 hf)
      · replace hf := ite_f c53 hf
        refine r_iload C (q := 63) 0 d_M_soundOf_61 rfl rfl ?_
        exact r_sub [2, 3, 4, 5, 6] rfl (s_m_soundOf_63 C hk9 hf)
theorem c_m_soundOf {l : Launch} {G : GG} (hi : wo_i (mW G)) {N : Nat} {v1 v2 : Int} {s : St} {o : Int × St} (hf : m_soundOf N v1 v2 s = some o) : CtV l (mW G) y_M_soundOf (wo y_M_soundOf prog_14_method_21_code 9 none) rm_m_soundOf [.ref ((mW G).h 0), vI v1, vI v2] s o := by
  refine ct_V (by decide +kernel) hi (Nat.le_of_ble_eq_true rfl) fun X C => ?_
  unfold m_soundOf at hf
  show Rj X (mW G) 9 (qV X (mW G) o) 0 [(0, .ref ((mW G).h 0)), (1, vI v1), (2, vI v2)] [] s
  refine r_aload_n C (q := 1) 0 d_M_soundOf_0 rfl rfl rfl ?_
  obtain ⟨r1, s1, hg1, hf⟩ := bd_s hf
  refine r_cVV C (q := 4) (As := []) (k0 := 0) (c_m_reads C.i hg1) mt_M_reads ml_M_174 (Nat.le_of_ble_eq_true rfl) rfl rfl rfl rfl rfl rfl ⟨Nat.le_of_ble_eq_true rfl, Nat.le_of_ble_eq_true rfl⟩ rfl (Nat.le_of_ble_eq_true rfl) d_M_soundOf_1 rfl ?_
  refine r_iconst C (q := 5) d_M_soundOf_4 rfl ?_
  refine r_istore_n C (q := 6) (lv' := [(3, vI 0), (0, .ref ((mW G).h 0)), (1, vI v1), (2, vI v2)]) d_M_soundOf_5 rfl (by decide) rfl rfl ?_
  refine r_iconst C (q := 7) d_M_soundOf_6 rfl ?_
  refine r_istore C (q := 9) (lv' := [(4, vI 0), (3, vI 0), (0, .ref ((mW G).h 0)), (1, vI v1), (2, vI v2)]) d_M_soundOf_7 (by decide) rfl rfl ?_
  have hL : ∀ (u3 u4 : Int) (z : St), itr (m_soundOf_9 N v1 v2) (fun _ _ _ => none) N u3 u4 z = some o → Rj X (mW G) 9 (qV X (mW G) o) 9 [(0, .ref ((mW G).h 0)), (1, vI v1), (2, vI v2), (3, vI u3), (4, vI u4)] [] z := itr_ind (m_soundOf_9 N v1 v2) (fun _ _ _ => none) (fun k => ∀ (u3 u4 : Int) (z : St), k u3 u4 z = some o → Rj X (mW G) 9 (qV X (mW G) o) 9 [(0, .ref ((mW G).h 0)), (1, vI v1), (2, vI v2), (3, vI u3), (4, vI u4)] [] z) (fun _ _ _  h => by cases h) (fun k hk u3 u4 z h => s_m_soundOf_9 C hk h) N
  exact r_sub [2, 3, 4, 1, 0] rfl (hL _ _ _  hf)
def m_sound (N : Nat) (v1 v2 : Int) (s : St) : MM := bd (m_isRow N v1 s) (fun r2 s2 => if eq32 r2 0 then (some ((-2), s2)) else (if le32 0 v2 then (bd (m_soundOf N v1 0 s2) (fun r18 s18 => gd (inb 0 2) (if le32 (s18 13 0) v2 then (some ((-1), s18)) else (gd (inb v2 20) (some (s18 12 v2, s18)))))) else (some ((-2), s2))))
abbrev rm_m_sound : Room := { frames := 4, cells := 0, slots := 0, locals := 96 }
theorem c_m_sound {l : Launch} {G : GG} (hi : wo_i (mW G)) {N : Nat} {v1 v2 : Int} {s : St} {o : Int × St} (hf : m_sound N v1 v2 s = some o) : CtI l (mW G) y_M_sound (wo y_M_sound prog_14_method_22_code 3 (some .int)) rm_m_sound [.ref ((mW G).h 0), vI v1, vI v2] s o := by
  refine ct_I (by decide +kernel) hi (Nat.le_of_ble_eq_true rfl) fun X C => ?_
  unfold m_sound at hf
  show Rj X (mW G) 3 (qI X (mW G) o) 0 [(0, .ref ((mW G).h 0)), (1, vI v1), (2, vI v2)] [] s
  refine r_aload_n C (q := 1) 0 d_M_sound_0 rfl rfl rfl ?_
  refine r_iload_n C (q := 2) 1 d_M_sound_1 rfl rfl rfl ?_
  obtain ⟨r2, s2, hg2, hf⟩ := bd_s hf
  refine r_cVI C (q := 5) (As := [vI v1]) (k0 := 0) (c_m_isRow C.i hg2) mt_M_isRow ml_M_148 (Nat.le_of_ble_eq_true rfl) rfl rfl rfl rfl rfl rfl ⟨Nat.le_of_ble_eq_true rfl, Nat.le_of_ble_eq_true rfl⟩ rfl (Nat.le_of_ble_eq_true rfl) d_M_sound_2 rfl ?_
  refine r_if_eq C (t := 12) (q := 8) d_M_sound_5 (by decide) rfl (fun c5 => ?_) (fun c5 => ?_)
  · replace hf := ite_t c5 hf
    refine r_bipush C (q := 14) (x := (-2)) d_M_sound_12 rfl rfl ?_
    exact r_ireturn C hf d_M_sound_14
  · replace hf := ite_f c5 hf
    refine r_iload_n C (q := 9) 2 d_M_sound_8 rfl rfl rfl ?_
    refine r_if_ge C (t := 15) (q := 12) d_M_sound_9 (by decide) rfl (fun c9 => ?_) (fun c9 => ?_)
    · replace hf := ite_t c9 hf
      refine r_aload_n C (q := 16) 0 d_M_sound_15 rfl rfl rfl ?_
      refine r_iload_n C (q := 17) 1 d_M_sound_16 rfl rfl rfl ?_
      refine r_iconst C (q := 18) d_M_sound_17 rfl ?_
      obtain ⟨r18, s18, hg18, hf⟩ := bd_s hf
      refine r_cVV C (q := 21) (As := [vI v1, vI 0]) (k0 := 0) (c_m_soundOf C.i hg18) mt_M_soundOf ml_M_177 (Nat.le_of_ble_eq_true rfl) rfl rfl rfl rfl rfl rfl ⟨Nat.le_of_ble_eq_true rfl, Nat.le_of_ble_eq_true rfl⟩ rfl (Nat.le_of_ble_eq_true rfl) d_M_sound_18 rfl ?_
      refine r_iload_n C (q := 22) 2 d_M_sound_21 rfl rfl rfl ?_
      refine r_aload_n C (q := 23) 0 d_M_sound_22 rfl rfl rfl ?_
      refine gxm_M_soundMany C (q := 26) fl_M_50 d_M_sound_23 rfl ?_
      refine r_iconst C (q := 27) d_M_sound_26 rfl ?_
      obtain ⟨g27, hf⟩ := gd_s hf
      refine r_iald C (q := 28) 13 (Nat.le_of_ble_eq_true rfl) (fun _ => rfl) 0 rfl g27 (by decide) d_M_sound_27 rfl ?_
      refine r_ic_ge C (t := 40) (q := 31) d_M_sound_28 (by decide) rfl (fun c28 => ?_) (fun c28 => ?_)
      · replace hf := ite_t c28 hf
        refine r_iconst C (q := 41) d_M_sound_40 rfl ?_
        exact r_ireturn C hf d_M_sound_41
      · replace hf := ite_f c28 hf
        refine r_aload_n C (q := 32) 0 d_M_sound_31 rfl rfl rfl ?_
        refine gxm_M_sounds C (q := 35) fl_M_47 d_M_sound_32 rfl ?_
        refine r_iload_n C (q := 36) 2 d_M_sound_35 rfl rfl rfl ?_
        obtain ⟨g36, hf⟩ := gd_s hf
        refine r_iald C (q := 37) 12 (Nat.le_of_ble_eq_true rfl) (fun _ => rfl) 0 rfl g36 (by decide) d_M_sound_36 rfl ?_
        refine r_goto C (q := 41) d_M_sound_37 (by decide) ?_
        exact r_ireturn C hf d_M_sound_41
    · replace hf := ite_f c9 hf
      refine r_bipush C (q := 14) (x := (-2)) d_M_sound_12 rfl rfl ?_
      exact r_ireturn C hf d_M_sound_14
def m_slipsOf_255 (N : Nat) (k2 : Int → St → MM) (k15 : Int → St → MM) (v1 v2 v3 v4 v5 : Int) (s : St) : MM := gd (inb ((11 * v3) + v4) 121) (k15 (v4 + 1) (su s 14 ((11 * v3) + v4) v5))
def m_slipsOf_253 (N : Nat) (k2 : Int → St → MM) (k15 : Int → St → MM) (v1 v2 v3 v4 t0 : Int) (s : St) : MM := m_slipsOf_255 N k2 k15 v1 v2 v3 v4 t0  s
def m_slipsOf_169 (N : Nat) (k2 : Int → St → MM) (k15 : Int → St → MM) (v1 v2 v3 v4 v6 v7 t0 : Int) (s : St) : MM := if le32 v3 1 then (m_slipsOf_255 N k2 k15 v1 v2 v3 v4 t0  s) else (if le32 v4 1 then (m_slipsOf_255 N k2 k15 v1 v2 v3 v4 t0  s) else (gd (inb (((10 * v2) + v4) - 2) 360) (if eq32 v6 (s 2 (((10 * v2) + v4) - 2)) then (gd (inb (((10 * v1) + v3) - 2) 360) (if eq32 v7 (s 2 (((10 * v1) + v3) - 2)) then (gd (inb (((11 * (v3 - 2)) + v4) - 2) 121) (if le32 t0 ((s 14 (((11 * (v3 - 2)) + v4) - 2)) + 1) then (m_slipsOf_253 N k2 k15 v1 v2 v3 v4 t0 s) else (m_slipsOf_253 N k2 k15 v1 v2 v3 v4 ((s 14 (((11 * (v3 - 2)) + v4) - 2)) + 1) s))) else (m_slipsOf_255 N k2 k15 v1 v2 v3 v4 t0  s))) else (m_slipsOf_255 N k2 k15 v1 v2 v3 v4 t0  s))))
def m_slipsOf_135 (N : Nat) (k2 : Int → St → MM) (k15 : Int → St → MM) (v1 v2 v3 v4 v6 v7 t0 : Int) (s : St) : MM := gd (inb (((11 * v3) + v4) - 1) 121) (if le32 t0 ((s 14 (((11 * v3) + v4) - 1)) + 1) then (m_slipsOf_169 N k2 k15 v1 v2 v3 v4 v6 v7 t0 s) else (m_slipsOf_169 N k2 k15 v1 v2 v3 v4 v6 v7 ((s 14 (((11 * v3) + v4) - 1)) + 1) s))
def m_slipsOf_100 (N : Nat) (k2 : Int → St → MM) (k15 : Int → St → MM) (v1 v2 v3 v4 v6 v7 t0 t1 : Int) (s : St) : MM := gd (inb ((11 * (v3 - 1)) + v4) 121) (if le32 (t1 + t0) ((s 14 ((11 * (v3 - 1)) + v4)) + 1) then (m_slipsOf_135 N k2 k15 v1 v2 v3 v4 v6 v7 (t1 + t0) s) else (m_slipsOf_135 N k2 k15 v1 v2 v3 v4 v6 v7 ((s 14 ((11 * (v3 - 1)) + v4)) + 1) s))
def m_slipsOf_15 (N : Nat) (k2 : Int → St → MM) (v1 v2 v3 : Int) (k15 : Int → St → MM) (v4 : Int) (s : St) : MM := gd (inb v2 36) (if lt32 (s 3 v2) v4 then (k2 (v3 + 1) s) else (if le32 v3 0 then (m_slipsOf_255 N k2 k15 v1 v2 v3 v4 (v3 + v4)  s) else (if le32 v4 0 then (m_slipsOf_255 N k2 k15 v1 v2 v3 v4 (v3 + v4)  s) else (gd (inb (((10 * v1) + v3) - 1) 360) (gd (inb (((10 * v2) + v4) - 1) 360) (gd (inb (((11 * (v3 - 1)) + v4) - 1) 121) (if eq32 (s 2 (((10 * v1) + v3) - 1)) (s 2 (((10 * v2) + v4) - 1)) then (m_slipsOf_100 N k2 k15 v1 v2 v3 v4 (s 2 (((10 * v1) + v3) - 1)) (s 2 (((10 * v2) + v4) - 1)) 0 (s 14 (((11 * (v3 - 1)) + v4) - 1)) s) else (m_slipsOf_100 N k2 k15 v1 v2 v3 v4 (s 2 (((10 * v1) + v3) - 1)) (s 2 (((10 * v2) + v4) - 1)) 1 (s 14 (((11 * (v3 - 1)) + v4) - 1)) s))))))))
def m_slipsOf_2 (N : Nat) (v1 v2 : Int) (k2 : Int → St → MM) (v3 : Int) (s : St) : MM := gd (inb v1 36) (if lt32 (s 3 v1) v3 then (gd (inb v1 36) (gd (inb v2 36) (gd (inb ((11 * (s 3 v1)) + (s 3 v2)) 121) (some (s 14 ((11 * (s 3 v1)) + (s 3 v2)), s))))) else (itr (m_slipsOf_15 N k2 v1 v2 v3) (fun _ _ => none) N 0 s))
def m_slipsOf (N : Nat) (v1 v2 : Int) (s : St) : MM := itr (m_slipsOf_2 N v1 v2) (fun _ _ => none) N 0 s
abbrev rm_m_slipsOf : Room := { frames := 0, cells := 0, slots := 0, locals := 0 }
theorem s_m_slipsOf_255 {X : CxT} {l : Launch} {G : GG} (C : Cx X l (mW G) 9 prog_14_method_24_code "OneSelfModel" (wo y_M_slipsOf prog_14_method_24_code 9 (some .int)) (some .int) rm_m_slipsOf) {o : Int × St} {N : Nat} {v1 v2 v3 v4 v5 : Int} {k2 : Int → St → MM} (hk2 : ∀ (u3 : Int) (s : St), k2 u3 s = some o → Rj X (mW G) 9 (qI X (mW G) o) 2 [(0, .ref ((mW G).h 0)), (1, vI v1), (2, vI v2), (3, vI u3)] [] s) {k15 : Int → St → MM} (hk15 : ∀ (u4 : Int) (s : St), k15 u4 s = some o → Rj X (mW G) 9 (qI X (mW G) o) 15 [(0, .ref ((mW G).h 0)), (1, vI v1), (2, vI v2), (3, vI v3), (4, vI u4)] [] s) {s : St} (hf : m_slipsOf_255 N k2 k15 v1 v2 v3 v4 v5 s = some o) : Rj X (mW G) 9 (qI X (mW G) o) 255 [(0, .ref ((mW G).h 0)), (1, vI v1), (2, vI v2), (3, vI v3), (4, vI v4), (5, vI v5)] [] s := by
  unfold m_slipsOf_255 at hf
  refine r_aload_n C (q := 256) 0 d_M_slipsOf_255 rfl rfl rfl ?_
  refine gxm_M_costs C (q := 259) fl_M_53 d_M_slipsOf_256 rfl ?_
  refine r_bipush C (q := 261) (x := 11) d_M_slipsOf_259 rfl rfl ?_
  refine r_iload_n C (q := 262) 3 d_M_slipsOf_261 rfl rfl rfl ?_
  refine r_imul C (q := 263) d_M_slipsOf_262 rfl ?_
  refine r_iload C (q := 265) 4 d_M_slipsOf_263 rfl rfl ?_
  refine r_iadd C (q := 266) d_M_slipsOf_265 rfl ?_
  refine r_iload C (q := 268) 5 d_M_slipsOf_266 rfl rfl ?_
  obtain ⟨g268, hf⟩ := gd_s hf
  refine r_iast C (q := 269) 14 (Nat.le_of_ble_eq_true rfl) (fun _ => rfl) 0 rfl g268 (by decide) d_M_slipsOf_268 rfl ?_
  refine r_iinc C (q := 272) (lv' := [(4, vI (v4 + 1)), (0, .ref ((mW G).h 0)), (1, vI v1), (2, vI v2), (3, vI v3), (5, vI v5)]) 4 d_M_slipsOf_269 rfl (by decide) rfl rfl ?_
  refine r_goto C (q := 15) d_M_slipsOf_272 (by decide) ?_
  exact r_sub [1, 2, 3, 4, 0] rfl (hk15 _ _  hf)
theorem s_m_slipsOf_253 {X : CxT} {l : Launch} {G : GG} (C : Cx X l (mW G) 9 prog_14_method_24_code "OneSelfModel" (wo y_M_slipsOf prog_14_method_24_code 9 (some .int)) (some .int) rm_m_slipsOf) {o : Int × St} {N : Nat} {v1 v2 v3 v4 t0 : Int} {k2 : Int → St → MM} (hk2 : ∀ (u3 : Int) (s : St), k2 u3 s = some o → Rj X (mW G) 9 (qI X (mW G) o) 2 [(0, .ref ((mW G).h 0)), (1, vI v1), (2, vI v2), (3, vI u3)] [] s) {k15 : Int → St → MM} (hk15 : ∀ (u4 : Int) (s : St), k15 u4 s = some o → Rj X (mW G) 9 (qI X (mW G) o) 15 [(0, .ref ((mW G).h 0)), (1, vI v1), (2, vI v2), (3, vI v3), (4, vI u4)] [] s) {s : St} (hf : m_slipsOf_253 N k2 k15 v1 v2 v3 v4 t0 s = some o) : Rj X (mW G) 9 (qI X (mW G) o) 253 [(0, .ref ((mW G).h 0)), (1, vI v1), (2, vI v2), (3, vI v3), (4, vI v4)] [vI t0] s := by
  unfold m_slipsOf_253 at hf
  refine r_istore C (q := 255) (lv' := [(5, vI t0), (0, .ref ((mW G).h 0)), (1, vI v1), (2, vI v2), (3, vI v3), (4, vI v4)]) d_M_slipsOf_253 (by decide) rfl rfl ?_
  exact r_sub [1, 2, 3, 4, 5, 0] rfl (s_m_slipsOf_255 C hk2 hk15 hf)
theorem s_m_slipsOf_169 {X : CxT} {l : Launch} {G : GG} (C : Cx X l (mW G) 9 prog_14_method_24_code "OneSelfModel" (wo y_M_slipsOf prog_14_method_24_code 9 (some .int)) (some .int) rm_m_slipsOf) {o : Int × St} {N : Nat} {v1 v2 v3 v4 v6 v7 t0 : Int} {k2 : Int → St → MM} (hk2 : ∀ (u3 : Int) (s : St), k2 u3 s = some o → Rj X (mW G) 9 (qI X (mW G) o) 2 [(0, .ref ((mW G).h 0)), (1, vI v1), (2, vI v2), (3, vI u3)] [] s) {k15 : Int → St → MM} (hk15 : ∀ (u4 : Int) (s : St), k15 u4 s = some o → Rj X (mW G) 9 (qI X (mW G) o) 15 [(0, .ref ((mW G).h 0)), (1, vI v1), (2, vI v2), (3, vI v3), (4, vI u4)] [] s) {s : St} (hf : m_slipsOf_169 N k2 k15 v1 v2 v3 v4 v6 v7 t0 s = some o) : Rj X (mW G) 9 (qI X (mW G) o) 169 [(0, .ref ((mW G).h 0)), (1, vI v1), (2, vI v2), (3, vI v3), (4, vI v4), (6, vI v6), (7, vI v7)] [vI t0] s := by
  unfold m_slipsOf_169 at hf
  refine r_istore C (q := 171) (lv' := [(5, vI t0), (0, .ref ((mW G).h 0)), (1, vI v1), (2, vI v2), (3, vI v3), (4, vI v4), (6, vI v6), (7, vI v7)]) d_M_slipsOf_169 (by decide) rfl rfl ?_
  refine r_iload_n C (q := 172) 4 d_M_slipsOf_171 rfl rfl rfl ?_
  refine r_iconst C (q := 173) d_M_slipsOf_172 rfl ?_
  refine r_ic_le C (t := 255) (q := 176) d_M_slipsOf_173 (by decide) rfl (fun c173 => ?_) (fun c173 => ?_)
  · replace hf := ite_t c173 hf
    exact r_sub [1, 2, 3, 4, 5, 0] rfl (s_m_slipsOf_255 C hk2 hk15 hf)
  · replace hf := ite_f c173 hf
    refine r_iload C (q := 178) 5 d_M_slipsOf_176 rfl rfl ?_
    refine r_iconst C (q := 179) d_M_slipsOf_178 rfl ?_
    refine r_ic_le C (t := 255) (q := 182) d_M_slipsOf_179 (by decide) rfl (fun c179 => ?_) (fun c179 => ?_)
    · replace hf := ite_t c179 hf
      exact r_sub [1, 2, 3, 4, 5, 0] rfl (s_m_slipsOf_255 C hk2 hk15 hf)
    · replace hf := ite_f c179 hf
      refine r_iload C (q := 184) 6 d_M_slipsOf_182 rfl rfl ?_
      refine r_aload_n C (q := 185) 1 d_M_slipsOf_184 rfl rfl rfl ?_
      refine gxm_M_letters C (q := 188) fl_M_13 d_M_slipsOf_185 rfl ?_
      refine r_bipush C (q := 190) (x := 10) d_M_slipsOf_188 rfl rfl ?_
      refine r_iload_n C (q := 191) 3 d_M_slipsOf_190 rfl rfl rfl ?_
      refine r_imul C (q := 192) d_M_slipsOf_191 rfl ?_
      refine r_iload C (q := 194) 5 d_M_slipsOf_192 rfl rfl ?_
      refine r_iadd C (q := 195) d_M_slipsOf_194 rfl ?_
      refine r_iconst C (q := 196) d_M_slipsOf_195 rfl ?_
      refine r_isub C (q := 197) d_M_slipsOf_196 rfl ?_
      obtain ⟨g197, hf⟩ := gd_s hf
      refine r_iald C (q := 198) 2 (Nat.le_of_ble_eq_true rfl) (fun _ => rfl) 0 rfl g197 (by decide) d_M_slipsOf_197 rfl ?_
      refine r_ic_ne C (t := 255) (q := 201) d_M_slipsOf_198 (by decide) rfl (fun c198 => ?_) (fun c198 => ?_)
      · replace hf := ite_t c198 hf
        refine r_iload C (q := 203) 7 d_M_slipsOf_201 rfl rfl ?_
        refine r_aload_n C (q := 204) 1 d_M_slipsOf_203 rfl rfl rfl ?_
        refine gxm_M_letters C (q := 207) fl_M_13 d_M_slipsOf_204 rfl ?_
        refine r_bipush C (q := 209) (x := 10) d_M_slipsOf_207 rfl rfl ?_
        refine r_iload_n C (q := 210) 2 d_M_slipsOf_209 rfl rfl rfl ?_
        refine r_imul C (q := 211) d_M_slipsOf_210 rfl ?_
        refine r_iload_n C (q := 212) 4 d_M_slipsOf_211 rfl rfl rfl ?_
        refine r_iadd C (q := 213) d_M_slipsOf_212 rfl ?_
        refine r_iconst C (q := 214) d_M_slipsOf_213 rfl ?_
        refine r_isub C (q := 215) d_M_slipsOf_214 rfl ?_
        obtain ⟨g215, hf⟩ := gd_s hf
        refine r_iald C (q := 216) 2 (Nat.le_of_ble_eq_true rfl) (fun _ => rfl) 0 rfl g215 (by decide) d_M_slipsOf_215 rfl ?_
        refine r_ic_ne C (t := 255) (q := 219) d_M_slipsOf_216 (by decide) rfl (fun c216 => ?_) (fun c216 => ?_)
        · replace hf := ite_t c216 hf
          refine r_aload_n C (q := 220) 1 d_M_slipsOf_219 rfl rfl rfl ?_
          refine gxm_M_costs C (q := 223) fl_M_53 d_M_slipsOf_220 rfl ?_
          refine r_bipush C (q := 225) (x := 11) d_M_slipsOf_223 rfl rfl ?_
          refine r_iload_n C (q := 226) 4 d_M_slipsOf_225 rfl rfl rfl ?_
          refine r_iconst C (q := 227) d_M_slipsOf_226 rfl ?_
          refine r_isub C (q := 228) d_M_slipsOf_227 rfl ?_
          refine r_imul C (q := 229) d_M_slipsOf_228 rfl ?_
          refine r_iload C (q := 231) 5 d_M_slipsOf_229 rfl rfl ?_
          refine r_iadd C (q := 232) d_M_slipsOf_231 rfl ?_
          refine r_iconst C (q := 233) d_M_slipsOf_232 rfl ?_
          refine r_isub C (q := 234) d_M_slipsOf_233 rfl ?_
          obtain ⟨g234, hf⟩ := gd_s hf
          refine r_iald C (q := 235) 14 (Nat.le_of_ble_eq_true rfl) (fun _ => rfl) 0 rfl g234 (by decide) d_M_slipsOf_234 rfl ?_
          refine r_iconst C (q := 236) d_M_slipsOf_235 rfl ?_
          refine r_iadd C (q := 237) d_M_slipsOf_236 rfl ?_
          refine r_istore C (q := 239) (lv' := [(8, vI ((s 14 (((11 * (v3 - 2)) + v4) - 2)) + 1)), (5, vI t0), (0, .ref ((mW G).h 0)), (1, vI v1), (2, vI v2), (3, vI v3), (4, vI v4), (6, vI v6), (7, vI v7)]) d_M_slipsOf_237 (by decide) rfl rfl ?_
          refine r_iload C (q := 241) 0 d_M_slipsOf_239 rfl rfl ?_
          refine r_iload C (q := 243) 1 d_M_slipsOf_241 rfl rfl ?_
          refine r_ic_ge C (t := 251) (q := 246) d_M_slipsOf_243 (by decide) rfl (fun c243 => ?_) (fun c243 => ?_)
          · replace hf := ite_t c243 hf
            refine r_iload C (q := 253) 1 d_M_slipsOf_251 rfl rfl ?_
            exact r_sub [2, 3, 4, 5, 6] rfl (s_m_slipsOf_253 C hk2 hk15 hf)
          · replace hf := ite_f c243 hf
            refine r_iload C (q := 248) 0 d_M_slipsOf_246 rfl rfl ?_
            refine r_goto C (q := 253) d_M_slipsOf_248 (by decide) ?_
            exact r_sub [2, 3, 4, 5, 6] rfl (s_m_slipsOf_253 C hk2 hk15 hf)
        · replace hf := ite_f c216 hf
          exact r_sub [1, 2, 3, 4, 5, 0] rfl (s_m_slipsOf_255 C hk2 hk15 hf)
      · replace hf := ite_f c198 hf
        exact r_sub [1, 2, 3, 4, 5, 0] rfl (s_m_slipsOf_255 C hk2 hk15 hf)
theorem s_m_slipsOf_135 {X : CxT} {l : Launch} {G : GG} (C : Cx X l (mW G) 9 prog_14_method_24_code "OneSelfModel" (wo y_M_slipsOf prog_14_method_24_code 9 (some .int)) (some .int) rm_m_slipsOf) {o : Int × St} {N : Nat} {v1 v2 v3 v4 v6 v7 t0 : Int} {k2 : Int → St → MM} (hk2 : ∀ (u3 : Int) (s : St), k2 u3 s = some o → Rj X (mW G) 9 (qI X (mW G) o) 2 [(0, .ref ((mW G).h 0)), (1, vI v1), (2, vI v2), (3, vI u3)] [] s) {k15 : Int → St → MM} (hk15 : ∀ (u4 : Int) (s : St), k15 u4 s = some o → Rj X (mW G) 9 (qI X (mW G) o) 15 [(0, .ref ((mW G).h 0)), (1, vI v1), (2, vI v2), (3, vI v3), (4, vI u4)] [] s) {s : St} (hf : m_slipsOf_135 N k2 k15 v1 v2 v3 v4 v6 v7 t0 s = some o) : Rj X (mW G) 9 (qI X (mW G) o) 135 [(0, .ref ((mW G).h 0)), (1, vI v1), (2, vI v2), (3, vI v3), (4, vI v4), (6, vI v6), (7, vI v7)] [vI t0] s := by
  unfold m_slipsOf_135 at hf
  refine r_istore C (q := 137) (lv' := [(5, vI t0), (0, .ref ((mW G).h 0)), (1, vI v1), (2, vI v2), (3, vI v3), (4, vI v4), (6, vI v6), (7, vI v7)]) d_M_slipsOf_135 (by decide) rfl rfl ?_
  refine r_aload_n C (q := 138) 1 d_M_slipsOf_137 rfl rfl rfl ?_
  refine gxm_M_costs C (q := 141) fl_M_53 d_M_slipsOf_138 rfl ?_
  refine r_bipush C (q := 143) (x := 11) d_M_slipsOf_141 rfl rfl ?_
  refine r_iload_n C (q := 144) 4 d_M_slipsOf_143 rfl rfl rfl ?_
  refine r_imul C (q := 145) d_M_slipsOf_144 rfl ?_
  refine r_iload C (q := 147) 5 d_M_slipsOf_145 rfl rfl ?_
  refine r_iadd C (q := 148) d_M_slipsOf_147 rfl ?_
  refine r_iconst C (q := 149) d_M_slipsOf_148 rfl ?_
  refine r_isub C (q := 150) d_M_slipsOf_149 rfl ?_
  obtain ⟨g150, hf⟩ := gd_s hf
  refine r_iald C (q := 151) 14 (Nat.le_of_ble_eq_true rfl) (fun _ => rfl) 0 rfl g150 (by decide) d_M_slipsOf_150 rfl ?_
  refine r_iconst C (q := 152) d_M_slipsOf_151 rfl ?_
  refine r_iadd C (q := 153) d_M_slipsOf_152 rfl ?_
  refine r_istore C (q := 155) (lv' := [(8, vI ((s 14 (((11 * v3) + v4) - 1)) + 1)), (5, vI t0), (0, .ref ((mW G).h 0)), (1, vI v1), (2, vI v2), (3, vI v3), (4, vI v4), (6, vI v6), (7, vI v7)]) d_M_slipsOf_153 (by decide) rfl rfl ?_
  refine r_iload C (q := 157) 0 d_M_slipsOf_155 rfl rfl ?_
  refine r_iload C (q := 159) 1 d_M_slipsOf_157 rfl rfl ?_
  refine r_ic_ge C (t := 167) (q := 162) d_M_slipsOf_159 (by decide) rfl (fun c159 => ?_) (fun c159 => ?_)
  · replace hf := ite_t c159 hf
    refine r_iload C (q := 169) 1 d_M_slipsOf_167 rfl rfl ?_
    exact r_sub [2, 3, 4, 5, 6, 7, 8] rfl (s_m_slipsOf_169 C hk2 hk15 hf)
  · replace hf := ite_f c159 hf
    refine r_iload C (q := 164) 0 d_M_slipsOf_162 rfl rfl ?_
    refine r_goto C (q := 169) d_M_slipsOf_164 (by decide) ?_
    exact r_sub [2, 3, 4, 5, 6, 7, 8] rfl (s_m_slipsOf_169 C hk2 hk15 hf)
theorem s_m_slipsOf_100 {X : CxT} {l : Launch} {G : GG} (C : Cx X l (mW G) 9 prog_14_method_24_code "OneSelfModel" (wo y_M_slipsOf prog_14_method_24_code 9 (some .int)) (some .int) rm_m_slipsOf) {o : Int × St} {N : Nat} {v1 v2 v3 v4 v6 v7 t0 t1 : Int} {k2 : Int → St → MM} (hk2 : ∀ (u3 : Int) (s : St), k2 u3 s = some o → Rj X (mW G) 9 (qI X (mW G) o) 2 [(0, .ref ((mW G).h 0)), (1, vI v1), (2, vI v2), (3, vI u3)] [] s) {k15 : Int → St → MM} (hk15 : ∀ (u4 : Int) (s : St), k15 u4 s = some o → Rj X (mW G) 9 (qI X (mW G) o) 15 [(0, .ref ((mW G).h 0)), (1, vI v1), (2, vI v2), (3, vI v3), (4, vI u4)] [] s) {s : St} (hf : m_slipsOf_100 N k2 k15 v1 v2 v3 v4 v6 v7 t0 t1 s = some o) : Rj X (mW G) 9 (qI X (mW G) o) 100 [(0, .ref ((mW G).h 0)), (1, vI v1), (2, vI v2), (3, vI v3), (4, vI v4), (6, vI v6), (7, vI v7)] [vI t0, vI t1] s := by
  unfold m_slipsOf_100 at hf
  refine r_iadd C (q := 101) d_M_slipsOf_100 rfl ?_
  refine r_istore C (q := 103) (lv' := [(5, vI (t1 + t0)), (0, .ref ((mW G).h 0)), (1, vI v1), (2, vI v2), (3, vI v3), (4, vI v4), (6, vI v6), (7, vI v7)]) d_M_slipsOf_101 (by decide) rfl rfl ?_
  refine r_aload_n C (q := 104) 1 d_M_slipsOf_103 rfl rfl rfl ?_
  refine gxm_M_costs C (q := 107) fl_M_53 d_M_slipsOf_104 rfl ?_
  refine r_bipush C (q := 109) (x := 11) d_M_slipsOf_107 rfl rfl ?_
  refine r_iload_n C (q := 110) 4 d_M_slipsOf_109 rfl rfl rfl ?_
  refine r_iconst C (q := 111) d_M_slipsOf_110 rfl ?_
  refine r_isub C (q := 112) d_M_slipsOf_111 rfl ?_
  refine r_imul C (q := 113) d_M_slipsOf_112 rfl ?_
  refine r_iload C (q := 115) 5 d_M_slipsOf_113 rfl rfl ?_
  refine r_iadd C (q := 116) d_M_slipsOf_115 rfl ?_
  obtain ⟨g116, hf⟩ := gd_s hf
  refine r_iald C (q := 117) 14 (Nat.le_of_ble_eq_true rfl) (fun _ => rfl) 0 rfl g116 (by decide) d_M_slipsOf_116 rfl ?_
  refine r_iconst C (q := 118) d_M_slipsOf_117 rfl ?_
  refine r_iadd C (q := 119) d_M_slipsOf_118 rfl ?_
  refine r_istore C (q := 121) (lv' := [(8, vI ((s 14 ((11 * (v3 - 1)) + v4)) + 1)), (5, vI (t1 + t0)), (0, .ref ((mW G).h 0)), (1, vI v1), (2, vI v2), (3, vI v3), (4, vI v4), (6, vI v6), (7, vI v7)]) d_M_slipsOf_119 (by decide) rfl rfl ?_
  refine r_iload C (q := 123) 0 d_M_slipsOf_121 rfl rfl ?_
  refine r_iload C (q := 125) 1 d_M_slipsOf_123 rfl rfl ?_
  refine r_ic_ge C (t := 133) (q := 128) d_M_slipsOf_125 (by decide) rfl (fun c125 => ?_) (fun c125 => ?_)
  · replace hf := ite_t c125 hf
    refine r_iload C (q := 135) 1 d_M_slipsOf_133 rfl rfl ?_
    exact r_sub [2, 3, 4, 5, 6, 7, 8] rfl (s_m_slipsOf_135 C hk2 hk15 hf)
  · replace hf := ite_f c125 hf
    refine r_iload C (q := 130) 0 d_M_slipsOf_128 rfl rfl ?_
    refine r_goto C (q := 135) d_M_slipsOf_130 (by decide) ?_
    exact r_sub [2, 3, 4, 5, 6, 7, 8] rfl (s_m_slipsOf_135 C hk2 hk15 hf)
theorem s_m_slipsOf_15 {X : CxT} {l : Launch} {G : GG} (C : Cx X l (mW G) 9 prog_14_method_24_code "OneSelfModel" (wo y_M_slipsOf prog_14_method_24_code 9 (some .int)) (some .int) rm_m_slipsOf) {o : Int × St} {N : Nat} {v1 v2 v3 v4 : Int} {k2 : Int → St → MM} (hk2 : ∀ (u3 : Int) (s : St), k2 u3 s = some o → Rj X (mW G) 9 (qI X (mW G) o) 2 [(0, .ref ((mW G).h 0)), (1, vI v1), (2, vI v2), (3, vI u3)] [] s) {k15 : Int → St → MM} (hk15 : ∀ (u4 : Int) (s : St), k15 u4 s = some o → Rj X (mW G) 9 (qI X (mW G) o) 15 [(0, .ref ((mW G).h 0)), (1, vI v1), (2, vI v2), (3, vI v3), (4, vI u4)] [] s) {s : St} (hf : m_slipsOf_15 N k2 v1 v2 v3 k15 v4 s = some o) : Rj X (mW G) 9 (qI X (mW G) o) 15 [(0, .ref ((mW G).h 0)), (1, vI v1), (2, vI v2), (3, vI v3), (4, vI v4)] [] s := by
  unfold m_slipsOf_15 at hf
  refine r_iload C (q := 17) 4 d_M_slipsOf_15 rfl rfl ?_
  refine r_aload_n C (q := 18) 0 d_M_slipsOf_17 rfl rfl rfl ?_
  refine gxm_M_lengths C (q := 21) fl_M_16 d_M_slipsOf_18 rfl ?_
  refine r_iload_n C (q := 22) 2 d_M_slipsOf_21 rfl rfl rfl ?_
  obtain ⟨g22, hf⟩ := gd_s hf
  refine r_iald C (q := 23) 3 (Nat.le_of_ble_eq_true rfl) (fun _ => rfl) 0 rfl g22 (by decide) d_M_slipsOf_22 rfl ?_
  refine r_ic_gt C (t := 275) (q := 26) d_M_slipsOf_23 (by decide) rfl (fun c23 => ?_) (fun c23 => ?_)
  · replace hf := ite_t c23 hf
    refine r_iinc C (q := 278) (lv' := [(3, vI (v3 + 1)), (0, .ref ((mW G).h 0)), (1, vI v1), (2, vI v2), (4, vI v4)]) 3 d_M_slipsOf_275 rfl (by decide) rfl rfl ?_
    refine r_goto C (q := 2) d_M_slipsOf_278 (by decide) ?_
    exact r_sub [1, 2, 3, 0] rfl (hk2 _ _  hf)
  · replace hf := ite_f c23 hf
    refine r_iload_n C (q := 27) 3 d_M_slipsOf_26 rfl rfl rfl ?_
    refine r_iload C (q := 29) 4 d_M_slipsOf_27 rfl rfl ?_
    refine r_iadd C (q := 30) d_M_slipsOf_29 rfl ?_
    refine r_istore C (q := 32) (lv' := [(5, vI (v3 + v4)), (0, .ref ((mW G).h 0)), (1, vI v1), (2, vI v2), (3, vI v3), (4, vI v4)]) d_M_slipsOf_30 (by decide) rfl rfl ?_
    refine r_iload_n C (q := 33) 4 d_M_slipsOf_32 rfl rfl rfl ?_
    refine r_if_le C (t := 255) (q := 36) d_M_slipsOf_33 (by decide) rfl (fun c33 => ?_) (fun c33 => ?_)
    · replace hf := ite_t c33 hf
      exact r_sub [1, 2, 3, 4, 5, 0] rfl (s_m_slipsOf_255 C hk2 hk15 hf)
    · replace hf := ite_f c33 hf
      refine r_iload C (q := 38) 5 d_M_slipsOf_36 rfl rfl ?_
      refine r_if_le C (t := 255) (q := 41) d_M_slipsOf_38 (by decide) rfl (fun c38 => ?_) (fun c38 => ?_)
      · replace hf := ite_t c38 hf
        exact r_sub [1, 2, 3, 4, 5, 0] rfl (s_m_slipsOf_255 C hk2 hk15 hf)
      · replace hf := ite_f c38 hf
        refine r_aload_n C (q := 42) 1 d_M_slipsOf_41 rfl rfl rfl ?_
        refine gxm_M_letters C (q := 45) fl_M_13 d_M_slipsOf_42 rfl ?_
        refine r_bipush C (q := 47) (x := 10) d_M_slipsOf_45 rfl rfl ?_
        refine r_iload_n C (q := 48) 2 d_M_slipsOf_47 rfl rfl rfl ?_
        refine r_imul C (q := 49) d_M_slipsOf_48 rfl ?_
        refine r_iload_n C (q := 50) 4 d_M_slipsOf_49 rfl rfl rfl ?_
        refine r_iadd C (q := 51) d_M_slipsOf_50 rfl ?_
        refine r_iconst C (q := 52) d_M_slipsOf_51 rfl ?_
        refine r_isub C (q := 53) d_M_slipsOf_52 rfl ?_
        obtain ⟨g53, hf⟩ := gd_s hf
        refine r_iald C (q := 54) 2 (Nat.le_of_ble_eq_true rfl) (fun _ => rfl) 0 rfl g53 (by decide) d_M_slipsOf_53 rfl ?_
        refine r_istore C (q := 56) (lv' := [(6, vI (s 2 (((10 * v1) + v3) - 1))), (5, vI (v3 + v4)), (0, .ref ((mW G).h 0)), (1, vI v1), (2, vI v2), (3, vI v3), (4, vI v4)]) d_M_slipsOf_54 (by decide) rfl rfl ?_
        refine r_aload_n C (q := 57) 2 d_M_slipsOf_56 rfl rfl rfl ?_
        refine gxm_M_letters C (q := 60) fl_M_13 d_M_slipsOf_57 rfl ?_
        refine r_bipush C (q := 62) (x := 10) d_M_slipsOf_60 rfl rfl ?_
        refine r_iload_n C (q := 63) 4 d_M_slipsOf_62 rfl rfl rfl ?_
        refine r_imul C (q := 64) d_M_slipsOf_63 rfl ?_
        refine r_iload C (q := 66) 6 d_M_slipsOf_64 rfl rfl ?_
        refine r_iadd C (q := 67) d_M_slipsOf_66 rfl ?_
        refine r_iconst C (q := 68) d_M_slipsOf_67 rfl ?_
        refine r_isub C (q := 69) d_M_slipsOf_68 rfl ?_
        obtain ⟨g69, hf⟩ := gd_s hf
        refine r_iald C (q := 70) 2 (Nat.le_of_ble_eq_true rfl) (fun _ => rfl) 0 rfl g69 (by decide) d_M_slipsOf_69 rfl ?_
        refine r_istore C (q := 72) (lv' := [(7, vI (s 2 (((10 * v2) + v4) - 1))), (6, vI (s 2 (((10 * v1) + v3) - 1))), (5, vI (v3 + v4)), (0, .ref ((mW G).h 0)), (1, vI v1), (2, vI v2), (3, vI v3), (4, vI v4)]) d_M_slipsOf_70 (by decide) rfl rfl ?_
        refine r_aload_n C (q := 73) 3 d_M_slipsOf_72 rfl rfl rfl ?_
        refine gxm_M_costs C (q := 76) fl_M_53 d_M_slipsOf_73 rfl ?_
        refine r_bipush C (q := 78) (x := 11) d_M_slipsOf_76 rfl rfl ?_
        refine r_iload_n C (q := 79) 6 d_M_slipsOf_78 rfl rfl rfl ?_
        refine r_iconst C (q := 80) d_M_slipsOf_79 rfl ?_
        refine r_isub C (q := 81) d_M_slipsOf_80 rfl ?_
        refine r_imul C (q := 82) d_M_slipsOf_81 rfl ?_
        refine r_iload C (q := 84) 7 d_M_slipsOf_82 rfl rfl ?_
        refine r_iadd C (q := 85) d_M_slipsOf_84 rfl ?_
        refine r_iconst C (q := 86) d_M_slipsOf_85 rfl ?_
        refine r_isub C (q := 87) d_M_slipsOf_86 rfl ?_
        obtain ⟨g87, hf⟩ := gd_s hf
        refine r_iald C (q := 88) 14 (Nat.le_of_ble_eq_true rfl) (fun _ => rfl) 0 rfl g87 (by decide) d_M_slipsOf_87 rfl ?_
        refine r_iload C (q := 90) 1 d_M_slipsOf_88 rfl rfl ?_
        refine r_iload C (q := 92) 0 d_M_slipsOf_90 rfl rfl ?_
        refine r_ic_ne C (t := 99) (q := 95) d_M_slipsOf_92 (by decide) rfl (fun c92 => ?_) (fun c92 => ?_)
        · replace hf := ite_t c92 hf
          refine r_iconst C (q := 96) d_M_slipsOf_95 rfl ?_
          refine r_goto C (q := 100) d_M_slipsOf_96 (by decide) ?_
          exact r_sub [3, 4, 5, 6, 7, 1, 0] rfl (s_m_slipsOf_100 C hk2 hk15 hf)
        · replace hf := ite_f c92 hf
          refine r_iconst C (q := 100) d_M_slipsOf_99 rfl ?_
          exact r_sub [3, 4, 5, 6, 7, 1, 0] rfl (s_m_slipsOf_100 C hk2 hk15 hf)
theorem s_m_slipsOf_2 {X : CxT} {l : Launch} {G : GG} (C : Cx X l (mW G) 9 prog_14_method_24_code "OneSelfModel" (wo y_M_slipsOf prog_14_method_24_code 9 (some .int)) (some .int) rm_m_slipsOf) {o : Int × St} {N : Nat} {v1 v2 v3 : Int} {k2 : Int → St → MM} (hk2 : ∀ (u3 : Int) (s : St), k2 u3 s = some o → Rj X (mW G) 9 (qI X (mW G) o) 2 [(0, .ref ((mW G).h 0)), (1, vI v1), (2, vI v2), (3, vI u3)] [] s) {s : St} (hf : m_slipsOf_2 N v1 v2 k2 v3 s = some o) : Rj X (mW G) 9 (qI X (mW G) o) 2 [(0, .ref ((mW G).h 0)), (1, vI v1), (2, vI v2), (3, vI v3)] [] s := by
  unfold m_slipsOf_2 at hf
  refine r_iload_n C (q := 3) 3 d_M_slipsOf_2 rfl rfl rfl ?_
  refine r_aload_n C (q := 4) 0 d_M_slipsOf_3 rfl rfl rfl ?_
  refine gxm_M_lengths C (q := 7) fl_M_16 d_M_slipsOf_4 rfl ?_
  refine r_iload_n C (q := 8) 1 d_M_slipsOf_7 rfl rfl rfl ?_
  obtain ⟨g8, hf⟩ := gd_s hf
  refine r_iald C (q := 9) 3 (Nat.le_of_ble_eq_true rfl) (fun _ => rfl) 0 rfl g8 (by decide) d_M_slipsOf_8 rfl ?_
  refine r_ic_gt C (t := 281) (q := 12) d_M_slipsOf_9 (by decide) rfl (fun c9 => ?_) (fun c9 => ?_)
  · replace hf := ite_t c9 hf
    refine r_aload_n C (q := 282) 0 d_M_slipsOf_281 rfl rfl rfl ?_
    refine gxm_M_costs C (q := 285) fl_M_53 d_M_slipsOf_282 rfl ?_
    refine r_bipush C (q := 287) (x := 11) d_M_slipsOf_285 rfl rfl ?_
    refine r_aload_n C (q := 288) 0 d_M_slipsOf_287 rfl rfl rfl ?_
    refine gxm_M_lengths C (q := 291) fl_M_16 d_M_slipsOf_288 rfl ?_
    refine r_iload_n C (q := 292) 1 d_M_slipsOf_291 rfl rfl rfl ?_
    obtain ⟨g292, hf⟩ := gd_s hf
    refine r_iald C (q := 293) 3 (Nat.le_of_ble_eq_true rfl) (fun _ => rfl) 0 rfl g292 (by decide) d_M_slipsOf_292 rfl ?_
    refine r_imul C (q := 294) d_M_slipsOf_293 rfl ?_
    refine r_aload_n C (q := 295) 0 d_M_slipsOf_294 rfl rfl rfl ?_
    refine gxm_M_lengths C (q := 298) fl_M_16 d_M_slipsOf_295 rfl ?_
    refine r_iload_n C (q := 299) 2 d_M_slipsOf_298 rfl rfl rfl ?_
    obtain ⟨g299, hf⟩ := gd_s hf
    refine r_iald C (q := 300) 3 (Nat.le_of_ble_eq_true rfl) (fun _ => rfl) 0 rfl g299 (by decide) d_M_slipsOf_299 rfl ?_
    refine r_iadd C (q := 301) d_M_slipsOf_300 rfl ?_
    obtain ⟨g301, hf⟩ := gd_s hf
    refine r_iald C (q := 302) 14 (Nat.le_of_ble_eq_true rfl) (fun _ => rfl) 0 rfl g301 (by decide) d_M_slipsOf_301 rfl ?_
    exact r_ireturn C hf d_M_slipsOf_302
  · replace hf := ite_f c9 hf
    refine r_iconst C (q := 13) d_M_slipsOf_12 rfl ?_
    refine r_istore C (q := 15) (lv' := [(4, vI 0), (0, .ref ((mW G).h 0)), (1, vI v1), (2, vI v2), (3, vI v3)]) d_M_slipsOf_13 (by decide) rfl rfl ?_
    have hL : ∀ (u4 : Int) (z : St), itr (m_slipsOf_15 N k2 v1 v2 v3) (fun _ _ => none) N u4 z = some o → Rj X (mW G) 9 (qI X (mW G) o) 15 [(0, .ref ((mW G).h 0)), (1, vI v1), (2, vI v2), (3, vI v3), (4, vI u4)] [] z := itr_ind (m_slipsOf_15 N k2 v1 v2 v3) (fun _ _ => none) (fun k => ∀ (u4 : Int) (z : St), k u4 z = some o → Rj X (mW G) 9 (qI X (mW G) o) 15 [(0, .ref ((mW G).h 0)), (1, vI v1), (2, vI v2), (3, vI v3), (4, vI u4)] [] z) (fun _ _  h => by cases h) (fun k hk u4 z h => s_m_slipsOf_15 C hk2 hk h) N
    exact r_sub [1, 2, 3, 4, 0] rfl (hL _ _  hf)
theorem c_m_slipsOf {l : Launch} {G : GG} (hi : wo_i (mW G)) {N : Nat} {v1 v2 : Int} {s : St} {o : Int × St} (hf : m_slipsOf N v1 v2 s = some o) : CtI l (mW G) y_M_slipsOf (wo y_M_slipsOf prog_14_method_24_code 9 (some .int)) rm_m_slipsOf [.ref ((mW G).h 0), vI v1, vI v2] s o := by
  refine ct_I (by decide +kernel) hi (Nat.le_of_ble_eq_true rfl) fun X C => ?_
  unfold m_slipsOf at hf
  show Rj X (mW G) 9 (qI X (mW G) o) 0 [(0, .ref ((mW G).h 0)), (1, vI v1), (2, vI v2)] [] s
  refine r_iconst C (q := 1) d_M_slipsOf_0 rfl ?_
  refine r_istore_n C (q := 2) (lv' := [(3, vI 0), (0, .ref ((mW G).h 0)), (1, vI v1), (2, vI v2)]) d_M_slipsOf_1 rfl (by decide) rfl rfl ?_
  have hL : ∀ (u3 : Int) (z : St), itr (m_slipsOf_2 N v1 v2) (fun _ _ => none) N u3 z = some o → Rj X (mW G) 9 (qI X (mW G) o) 2 [(0, .ref ((mW G).h 0)), (1, vI v1), (2, vI v2), (3, vI u3)] [] z := itr_ind (m_slipsOf_2 N v1 v2) (fun _ _ => none) (fun k => ∀ (u3 : Int) (z : St), k u3 z = some o → Rj X (mW G) 9 (qI X (mW G) o) 2 [(0, .ref ((mW G).h 0)), (1, vI v1), (2, vI v2), (3, vI u3)] [] z) (fun _ _  h => by cases h) (fun k hk u3 z h => s_m_slipsOf_2 C hk h) N
  exact r_sub [1, 2, 3, 0] rfl (hL _ _  hf)
def m_slips (N : Nat) (v1 v2 : Int) (s : St) : MM := bd (m_isRow N v1 s) (fun r2 s2 => if eq32 r2 0 then (some ((-2), s2)) else (bd (m_isRow N v2 s2) (fun r10 s10 => if eq32 r10 0 then (some ((-2), s10)) else (bd (m_slipsOf N v1 v2 s10) (fun r19 s19 => some (r19, s19))))))
abbrev rm_m_slips : Room := { frames := 2, cells := 0, slots := 0, locals := 43 }
theorem c_m_slips {l : Launch} {G : GG} (hi : wo_i (mW G)) {N : Nat} {v1 v2 : Int} {s : St} {o : Int × St} (hf : m_slips N v1 v2 s = some o) : CtI l (mW G) y_M_slips (wo y_M_slips prog_14_method_25_code 3 (some .int)) rm_m_slips [.ref ((mW G).h 0), vI v1, vI v2] s o := by
  refine ct_I (by decide +kernel) hi (Nat.le_of_ble_eq_true rfl) fun X C => ?_
  unfold m_slips at hf
  show Rj X (mW G) 3 (qI X (mW G) o) 0 [(0, .ref ((mW G).h 0)), (1, vI v1), (2, vI v2)] [] s
  refine r_aload_n C (q := 1) 0 d_M_slips_0 rfl rfl rfl ?_
  refine r_iload_n C (q := 2) 1 d_M_slips_1 rfl rfl rfl ?_
  obtain ⟨r2, s2, hg2, hf⟩ := bd_s hf
  refine r_cVI C (q := 5) (As := [vI v1]) (k0 := 0) (c_m_isRow C.i hg2) mt_M_isRow ml_M_148 (Nat.le_of_ble_eq_true rfl) rfl rfl rfl rfl rfl rfl ⟨Nat.le_of_ble_eq_true rfl, Nat.le_of_ble_eq_true rfl⟩ rfl (Nat.le_of_ble_eq_true rfl) d_M_slips_2 rfl ?_
  refine r_if_eq C (t := 25) (q := 8) d_M_slips_5 (by decide) rfl (fun c5 => ?_) (fun c5 => ?_)
  · replace hf := ite_t c5 hf
    refine r_bipush C (q := 27) (x := (-2)) d_M_slips_25 rfl rfl ?_
    exact r_ireturn C hf d_M_slips_27
  · replace hf := ite_f c5 hf
    refine r_aload_n C (q := 9) 0 d_M_slips_8 rfl rfl rfl ?_
    refine r_iload_n C (q := 10) 2 d_M_slips_9 rfl rfl rfl ?_
    obtain ⟨r10, s10, hg10, hf⟩ := bd_s hf
    refine r_cVI C (q := 13) (As := [vI v2]) (k0 := 0) (c_m_isRow C.i hg10) mt_M_isRow ml_M_148 (Nat.le_of_ble_eq_true rfl) rfl rfl rfl rfl rfl rfl ⟨Nat.le_of_ble_eq_true rfl, Nat.le_of_ble_eq_true rfl⟩ rfl (Nat.le_of_ble_eq_true rfl) d_M_slips_10 rfl ?_
    refine r_if_eq C (t := 25) (q := 16) d_M_slips_13 (by decide) rfl (fun c13 => ?_) (fun c13 => ?_)
    · replace hf := ite_t c13 hf
      refine r_bipush C (q := 27) (x := (-2)) d_M_slips_25 rfl rfl ?_
      exact r_ireturn C hf d_M_slips_27
    · replace hf := ite_f c13 hf
      refine r_aload_n C (q := 17) 0 d_M_slips_16 rfl rfl rfl ?_
      refine r_iload_n C (q := 18) 1 d_M_slips_17 rfl rfl rfl ?_
      refine r_iload_n C (q := 19) 2 d_M_slips_18 rfl rfl rfl ?_
      obtain ⟨r19, s19, hg19, hf⟩ := bd_s hf
      refine r_cVI C (q := 22) (As := [vI v1, vI v2]) (k0 := 0) (c_m_slipsOf C.i hg19) mt_M_slipsOf ml_M_181 (Nat.le_of_ble_eq_true rfl) rfl rfl rfl rfl rfl rfl ⟨Nat.le_of_ble_eq_true rfl, Nat.le_of_ble_eq_true rfl⟩ rfl (Nat.le_of_ble_eq_true rfl) d_M_slips_19 rfl ?_
      refine r_goto C (q := 27) d_M_slips_22 (by decide) ?_
      exact r_ireturn C hf d_M_slips_27
def m_areTwo (N : Nat) (v1 v2 : Int) (s : St) : MM := bd (m_isRow N v1 s) (fun r2 s2 => if eq32 r2 0 then (some (0, s2)) else (bd (m_isRow N v2 s2) (fun r10 s10 => if eq32 r10 0 then (some (0, s10)) else (if eq32 v1 v2 then (some (0, s10)) else (some (1, s10))))))
abbrev rm_m_areTwo : Room := { frames := 2, cells := 0, slots := 0, locals := 43 }
theorem c_m_areTwo {l : Launch} {G : GG} (hi : wo_i (mW G)) {N : Nat} {v1 v2 : Int} {s : St} {o : Int × St} (hf : m_areTwo N v1 v2 s = some o) : CtI l (mW G) y_M_areTwo (wo y_M_areTwo prog_14_method_28_code 3 (some .boolean)) rm_m_areTwo [.ref ((mW G).h 0), vI v1, vI v2] s o := by
  refine ct_I (by decide +kernel) hi (Nat.le_of_ble_eq_true rfl) fun X C => ?_
  unfold m_areTwo at hf
  show Rj X (mW G) 3 (qI X (mW G) o) 0 [(0, .ref ((mW G).h 0)), (1, vI v1), (2, vI v2)] [] s
  refine r_aload_n C (q := 1) 0 d_M_areTwo_0 rfl rfl rfl ?_
  refine r_iload_n C (q := 2) 1 d_M_areTwo_1 rfl rfl rfl ?_
  obtain ⟨r2, s2, hg2, hf⟩ := bd_s hf
  refine r_cVI C (q := 5) (As := [vI v1]) (k0 := 0) (c_m_isRow C.i hg2) mt_M_isRow ml_M_148 (Nat.le_of_ble_eq_true rfl) rfl rfl rfl rfl rfl rfl ⟨Nat.le_of_ble_eq_true rfl, Nat.le_of_ble_eq_true rfl⟩ rfl (Nat.le_of_ble_eq_true rfl) d_M_areTwo_2 rfl ?_
  refine r_if_eq C (t := 25) (q := 8) d_M_areTwo_5 (by decide) rfl (fun c5 => ?_) (fun c5 => ?_)
  · replace hf := ite_t c5 hf
    refine r_iconst C (q := 26) d_M_areTwo_25 rfl ?_
    exact r_zreturn C (by decide) hf d_M_areTwo_26
  · replace hf := ite_f c5 hf
    refine r_aload_n C (q := 9) 0 d_M_areTwo_8 rfl rfl rfl ?_
    refine r_iload_n C (q := 10) 2 d_M_areTwo_9 rfl rfl rfl ?_
    obtain ⟨r10, s10, hg10, hf⟩ := bd_s hf
    refine r_cVI C (q := 13) (As := [vI v2]) (k0 := 0) (c_m_isRow C.i hg10) mt_M_isRow ml_M_148 (Nat.le_of_ble_eq_true rfl) rfl rfl rfl rfl rfl rfl ⟨Nat.le_of_ble_eq_true rfl, Nat.le_of_ble_eq_true rfl⟩ rfl (Nat.le_of_ble_eq_true rfl) d_M_areTwo_10 rfl ?_
    refine r_if_eq C (t := 25) (q := 16) d_M_areTwo_13 (by decide) rfl (fun c13 => ?_) (fun c13 => ?_)
    · replace hf := ite_t c13 hf
      refine r_iconst C (q := 26) d_M_areTwo_25 rfl ?_
      exact r_zreturn C (by decide) hf d_M_areTwo_26
    · replace hf := ite_f c13 hf
      refine r_iload_n C (q := 17) 1 d_M_areTwo_16 rfl rfl rfl ?_
      refine r_iload_n C (q := 18) 2 d_M_areTwo_17 rfl rfl rfl ?_
      refine r_ic_eq C (t := 25) (q := 21) d_M_areTwo_18 (by decide) rfl (fun c18 => ?_) (fun c18 => ?_)
      · replace hf := ite_t c18 hf
        refine r_iconst C (q := 26) d_M_areTwo_25 rfl ?_
        exact r_zreturn C (by decide) hf d_M_areTwo_26
      · replace hf := ite_f c18 hf
        refine r_iconst C (q := 22) d_M_areTwo_21 rfl ?_
        refine r_goto C (q := 26) d_M_areTwo_22 (by decide) ?_
        exact r_zreturn C (by decide) hf d_M_areTwo_26
def m_soundAlike_31 (N : Nat) (k31 : Int → St → MM) (v3 : Int) (s : St) : MM := gd (inb 0 2) (if le32 (s 13 0) v3 then (some (1, s)) else (gd (inb v3 20) (gd (inb (10 + v3) 20) (if eq32 (s 12 v3) (s 12 (10 + v3)) then (k31 (v3 + 1) s) else (some (0, s))))))
def m_soundAlike (N : Nat) (v1 v2 : Int) (s : St) : MM := bd (m_soundOf N v1 0 s) (fun r3 s3 => bd (m_soundOf N v2 1 s3) (fun r9 s9 => gd (inb 0 2) (gd (inb 1 2) (if eq32 (s9 13 0) (s9 13 1) then (itr (m_soundAlike_31 N ) (fun _ _ => none) N 0 s9) else (some (0, s9))))))
abbrev rm_m_soundAlike : Room := { frames := 4, cells := 0, slots := 0, locals := 96 }
theorem s_m_soundAlike_31 {X : CxT} {l : Launch} {G : GG} (C : Cx X l (mW G) 4 prog_14_method_23_code "OneSelfModel" (wo y_M_soundAlike prog_14_method_23_code 4 (some .boolean)) (some .boolean) rm_m_soundAlike) {o : Int × St} {N : Nat} {v3 : Int} {k31 : Int → St → MM} (hk31 : ∀ (u3 : Int) (s : St), k31 u3 s = some o → Rj X (mW G) 4 (qI X (mW G) o) 31 [(0, .ref ((mW G).h 0)), (3, vI u3)] [] s) {s : St} (hf : m_soundAlike_31 N  k31 v3 s = some o) : Rj X (mW G) 4 (qI X (mW G) o) 31 [(0, .ref ((mW G).h 0)), (3, vI v3)] [] s := by
  unfold m_soundAlike_31 at hf
  refine r_iload_n C (q := 32) 1 d_M_soundAlike_31 rfl rfl rfl ?_
  refine r_aload_n C (q := 33) 0 d_M_soundAlike_32 rfl rfl rfl ?_
  refine gxm_M_soundMany C (q := 36) fl_M_50 d_M_soundAlike_33 rfl ?_
  refine r_iconst C (q := 37) d_M_soundAlike_36 rfl ?_
  obtain ⟨g37, hf⟩ := gd_s hf
  refine r_iald C (q := 38) 13 (Nat.le_of_ble_eq_true rfl) (fun _ => rfl) 0 rfl g37 (by decide) d_M_soundAlike_37 rfl ?_
  refine r_ic_ge C (t := 67) (q := 41) d_M_soundAlike_38 (by decide) rfl (fun c38 => ?_) (fun c38 => ?_)
  · replace hf := ite_t c38 hf
    refine r_iconst C (q := 68) d_M_soundAlike_67 rfl ?_
    exact r_zreturn C (by decide) hf d_M_soundAlike_68
  · replace hf := ite_f c38 hf
    refine r_aload_n C (q := 42) 0 d_M_soundAlike_41 rfl rfl rfl ?_
    refine gxm_M_sounds C (q := 45) fl_M_47 d_M_soundAlike_42 rfl ?_
    refine r_iload_n C (q := 46) 1 d_M_soundAlike_45 rfl rfl rfl ?_
    obtain ⟨g46, hf⟩ := gd_s hf
    refine r_iald C (q := 47) 12 (Nat.le_of_ble_eq_true rfl) (fun _ => rfl) 0 rfl g46 (by decide) d_M_soundAlike_46 rfl ?_
    refine r_aload_n C (q := 48) 0 d_M_soundAlike_47 rfl rfl rfl ?_
    refine gxm_M_sounds C (q := 51) fl_M_47 d_M_soundAlike_48 rfl ?_
    refine r_bipush C (q := 53) (x := 10) d_M_soundAlike_51 rfl rfl ?_
    refine r_iload_n C (q := 54) 1 d_M_soundAlike_53 rfl rfl rfl ?_
    refine r_iadd C (q := 55) d_M_soundAlike_54 rfl ?_
    obtain ⟨g55, hf⟩ := gd_s hf
    refine r_iald C (q := 56) 12 (Nat.le_of_ble_eq_true rfl) (fun _ => rfl) 0 rfl g55 (by decide) d_M_soundAlike_55 rfl ?_
    refine r_ic_eq C (t := 61) (q := 59) d_M_soundAlike_56 (by decide) rfl (fun c56 => ?_) (fun c56 => ?_)
    · replace hf := ite_t c56 hf
      refine r_iinc C (q := 64) (lv' := [(3, vI (v3 + 1)), (0, .ref ((mW G).h 0))]) 1 d_M_soundAlike_61 rfl (by decide) rfl rfl ?_
      refine r_goto C (q := 31) d_M_soundAlike_64 (by decide) ?_
      exact r_sub [1, 0] rfl (hk31 _ _  hf)
    · replace hf := ite_f c56 hf
      refine r_iconst C (q := 60) d_M_soundAlike_59 rfl ?_
      exact r_zreturn C (by decide) hf d_M_soundAlike_60
theorem c_m_soundAlike {l : Launch} {G : GG} (hi : wo_i (mW G)) {N : Nat} {v1 v2 : Int} {s : St} {o : Int × St} (hf : m_soundAlike N v1 v2 s = some o) : CtI l (mW G) y_M_soundAlike (wo y_M_soundAlike prog_14_method_23_code 4 (some .boolean)) rm_m_soundAlike [.ref ((mW G).h 0), vI v1, vI v2] s o := by
  refine ct_I (by decide +kernel) hi (Nat.le_of_ble_eq_true rfl) fun X C => ?_
  unfold m_soundAlike at hf
  show Rj X (mW G) 4 (qI X (mW G) o) 0 [(0, .ref ((mW G).h 0)), (1, vI v1), (2, vI v2)] [] s
  refine r_aload_n C (q := 1) 0 d_M_soundAlike_0 rfl rfl rfl ?_
  refine r_iload_n C (q := 2) 1 d_M_soundAlike_1 rfl rfl rfl ?_
  refine r_iconst C (q := 3) d_M_soundAlike_2 rfl ?_
  obtain ⟨r3, s3, hg3, hf⟩ := bd_s hf
  refine r_cVV C (q := 6) (As := [vI v1, vI 0]) (k0 := 0) (c_m_soundOf C.i hg3) mt_M_soundOf ml_M_177 (Nat.le_of_ble_eq_true rfl) rfl rfl rfl rfl rfl rfl ⟨Nat.le_of_ble_eq_true rfl, Nat.le_of_ble_eq_true rfl⟩ rfl (Nat.le_of_ble_eq_true rfl) d_M_soundAlike_3 rfl ?_
  refine r_aload_n C (q := 7) 0 d_M_soundAlike_6 rfl rfl rfl ?_
  refine r_iload_n C (q := 8) 2 d_M_soundAlike_7 rfl rfl rfl ?_
  refine r_iconst C (q := 9) d_M_soundAlike_8 rfl ?_
  obtain ⟨r9, s9, hg9, hf⟩ := bd_s hf
  refine r_cVV C (q := 12) (As := [vI v2, vI 1]) (k0 := 0) (c_m_soundOf C.i hg9) mt_M_soundOf ml_M_177 (Nat.le_of_ble_eq_true rfl) rfl rfl rfl rfl rfl rfl ⟨Nat.le_of_ble_eq_true rfl, Nat.le_of_ble_eq_true rfl⟩ rfl (Nat.le_of_ble_eq_true rfl) d_M_soundAlike_9 rfl ?_
  refine r_aload_n C (q := 13) 0 d_M_soundAlike_12 rfl rfl rfl ?_
  refine gxm_M_soundMany C (q := 16) fl_M_50 d_M_soundAlike_13 rfl ?_
  refine r_iconst C (q := 17) d_M_soundAlike_16 rfl ?_
  obtain ⟨g17, hf⟩ := gd_s hf
  refine r_iald C (q := 18) 13 (Nat.le_of_ble_eq_true rfl) (fun _ => rfl) 0 rfl g17 (by decide) d_M_soundAlike_17 rfl ?_
  refine r_aload_n C (q := 19) 0 d_M_soundAlike_18 rfl rfl rfl ?_
  refine gxm_M_soundMany C (q := 22) fl_M_50 d_M_soundAlike_19 rfl ?_
  refine r_iconst C (q := 23) d_M_soundAlike_22 rfl ?_
  obtain ⟨g23, hf⟩ := gd_s hf
  refine r_iald C (q := 24) 13 (Nat.le_of_ble_eq_true rfl) (fun _ => rfl) 0 rfl g23 (by decide) d_M_soundAlike_23 rfl ?_
  refine r_ic_eq C (t := 29) (q := 27) d_M_soundAlike_24 (by decide) rfl (fun c24 => ?_) (fun c24 => ?_)
  · replace hf := ite_t c24 hf
    refine r_iconst C (q := 30) d_M_soundAlike_29 rfl ?_
    refine r_istore_n C (q := 31) (lv' := [(3, vI 0), (0, .ref ((mW G).h 0)), (1, vI v1), (2, vI v2)]) d_M_soundAlike_30 rfl (by decide) rfl rfl ?_
    have hL : ∀ (u3 : Int) (z : St), itr (m_soundAlike_31 N ) (fun _ _ => none) N u3 z = some o → Rj X (mW G) 4 (qI X (mW G) o) 31 [(0, .ref ((mW G).h 0)), (3, vI u3)] [] z := itr_ind (m_soundAlike_31 N ) (fun _ _ => none) (fun k => ∀ (u3 : Int) (z : St), k u3 z = some o → Rj X (mW G) 4 (qI X (mW G) o) 31 [(0, .ref ((mW G).h 0)), (3, vI u3)] [] z) (fun _ _  h => by cases h) (fun k hk u3 z h => s_m_soundAlike_31 C hk h) N
    exact r_sub [1, 0] rfl (hL _ _  hf)
  · replace hf := ite_f c24 hf
    refine r_iconst C (q := 28) d_M_soundAlike_27 rfl ?_
    exact r_zreturn C (by decide) hf d_M_soundAlike_28
def m_nameLevel_30 (N : Nat) (s : St) : MM := some (2, s)
def m_nameLevel (N : Nat) (v1 v2 : Int) (s : St) : MM := bd (m_slipsOf N v1 v2 s) (fun r3 s3 => if le32 2 r3 then (if eq32 r3 2 then (m_nameLevel_30 N   s3) else (bd (m_soundAlike N v1 v2 s3) (fun r24 s24 => if eq32 r24 0 then (some (3, s24)) else (m_nameLevel_30 N   s24)))) else (some (r3, s3)))
abbrev rm_m_nameLevel : Room := { frames := 5, cells := 0, slots := 0, locals := 119 }
theorem s_m_nameLevel_30 {X : CxT} {l : Launch} {G : GG} (C : Cx X l (mW G) 4 prog_14_method_26_code "OneSelfModel" (wo y_M_nameLevel prog_14_method_26_code 4 (some .int)) (some .int) rm_m_nameLevel) {o : Int × St} {N : Nat} {s : St} (hf : m_nameLevel_30 N  s = some o) : Rj X (mW G) 4 (qI X (mW G) o) 30 [] [] s := by
  unfold m_nameLevel_30 at hf
  refine r_iconst C (q := 31) d_M_nameLevel_30 rfl ?_
  refine r_goto C (q := 35) d_M_nameLevel_31 (by decide) ?_
  exact r_ireturn C hf d_M_nameLevel_35
theorem c_m_nameLevel {l : Launch} {G : GG} (hi : wo_i (mW G)) {N : Nat} {v1 v2 : Int} {s : St} {o : Int × St} (hf : m_nameLevel N v1 v2 s = some o) : CtI l (mW G) y_M_nameLevel (wo y_M_nameLevel prog_14_method_26_code 4 (some .int)) rm_m_nameLevel [.ref ((mW G).h 0), vI v1, vI v2] s o := by
  refine ct_I (by decide +kernel) hi (Nat.le_of_ble_eq_true rfl) fun X C => ?_
  unfold m_nameLevel at hf
  show Rj X (mW G) 4 (qI X (mW G) o) 0 [(0, .ref ((mW G).h 0)), (1, vI v1), (2, vI v2)] [] s
  refine r_aload_n C (q := 1) 0 d_M_nameLevel_0 rfl rfl rfl ?_
  refine r_iload_n C (q := 2) 1 d_M_nameLevel_1 rfl rfl rfl ?_
  refine r_iload_n C (q := 3) 2 d_M_nameLevel_2 rfl rfl rfl ?_
  obtain ⟨r3, s3, hg3, hf⟩ := bd_s hf
  refine r_cVI C (q := 6) (As := [vI v1, vI v2]) (k0 := 0) (c_m_slipsOf C.i hg3) mt_M_slipsOf ml_M_181 (Nat.le_of_ble_eq_true rfl) rfl rfl rfl rfl rfl rfl ⟨Nat.le_of_ble_eq_true rfl, Nat.le_of_ble_eq_true rfl⟩ rfl (Nat.le_of_ble_eq_true rfl) d_M_nameLevel_3 rfl ?_
  refine r_istore_n C (q := 7) (lv' := [(3, vI r3), (0, .ref ((mW G).h 0)), (1, vI v1), (2, vI v2)]) d_M_nameLevel_6 rfl (by decide) rfl rfl ?_
  refine r_iload_n C (q := 8) 0 d_M_nameLevel_7 rfl rfl rfl ?_
  refine r_iconst C (q := 9) d_M_nameLevel_8 rfl ?_
  refine r_ic_ge C (t := 16) (q := 12) d_M_nameLevel_9 (by decide) rfl (fun c9 => ?_) (fun c9 => ?_)
  · replace hf := ite_t c9 hf
    refine r_iload_n C (q := 17) 0 d_M_nameLevel_16 rfl rfl rfl ?_
    refine r_iconst C (q := 18) d_M_nameLevel_17 rfl ?_
    refine r_ic_eq C (t := 30) (q := 21) d_M_nameLevel_18 (by decide) rfl (fun c18 => ?_) (fun c18 => ?_)
    · replace hf := ite_t c18 hf
      exact r_sub [] rfl (s_m_nameLevel_30 C hf)
    · replace hf := ite_f c18 hf
      refine r_aload_n C (q := 22) 1 d_M_nameLevel_21 rfl rfl rfl ?_
      refine r_iload_n C (q := 23) 2 d_M_nameLevel_22 rfl rfl rfl ?_
      refine r_iload_n C (q := 24) 3 d_M_nameLevel_23 rfl rfl rfl ?_
      obtain ⟨r24, s24, hg24, hf⟩ := bd_s hf
      refine r_cVI C (q := 27) (As := [vI v1, vI v2]) (k0 := 0) (c_m_soundAlike C.i hg24) mt_M_soundAlike ml_M_184 (Nat.le_of_ble_eq_true rfl) rfl rfl rfl rfl rfl rfl ⟨Nat.le_of_ble_eq_true rfl, Nat.le_of_ble_eq_true rfl⟩ rfl (Nat.le_of_ble_eq_true rfl) d_M_nameLevel_24 rfl ?_
      refine r_if_eq C (t := 34) (q := 30) d_M_nameLevel_27 (by decide) rfl (fun c27 => ?_) (fun c27 => ?_)
      · replace hf := ite_t c27 hf
        refine r_iconst C (q := 35) d_M_nameLevel_34 rfl ?_
        exact r_ireturn C hf d_M_nameLevel_35
      · replace hf := ite_f c27 hf
        exact r_sub [] rfl (s_m_nameLevel_30 C hf)
  · replace hf := ite_f c9 hf
    refine r_iload_n C (q := 13) 0 d_M_nameLevel_12 rfl rfl rfl ?_
    refine r_goto C (q := 35) d_M_nameLevel_13 (by decide) ?_
    exact r_ireturn C hf d_M_nameLevel_35
def m_amount (N : Nat) (v0 : Int) (s : St) : MM := if le32 0 v0 then (some (v0, s)) else (some (-v0, s))
abbrev rm_m_amount : Room := { frames := 0, cells := 0, slots := 0, locals := 0 }
theorem c_m_amount {l : Launch} {G : GG} (hi : wo_i (mW G)) {N : Nat} {v0 : Int} {s : St} {o : Int × St} (hf : m_amount N v0 s = some o) : CtI l (mW G) y_M_amount (wo y_M_amount prog_14_method_4_code 1 (some .int)) rm_m_amount [vI v0] s o := by
  refine ct_I (by decide +kernel) hi (Nat.le_of_ble_eq_true rfl) fun X C => ?_
  unfold m_amount at hf
  show Rj X (mW G) 1 (qI X (mW G) o) 0 [(0, vI v0)] [] s
  refine r_iload_n C (q := 1) 0 d_M_amount_0 rfl rfl rfl ?_
  refine r_if_ge C (t := 9) (q := 4) d_M_amount_1 (by decide) rfl (fun c1 => ?_) (fun c1 => ?_)
  · replace hf := ite_t c1 hf
    refine r_iload_n C (q := 10) 0 d_M_amount_9 rfl rfl rfl ?_
    exact r_ireturn C hf d_M_amount_10
  · replace hf := ite_f c1 hf
    refine r_iload_n C (q := 5) 0 d_M_amount_4 rfl rfl rfl ?_
    refine r_ineg C (q := 6) d_M_amount_5 rfl ?_
    refine r_goto C (q := 10) d_M_amount_6 (by decide) ?_
    exact r_ireturn C hf d_M_amount_10
def m_levelOf_142 (N : Nat) (v3 t0 : Int) (s : St) : MM := if eq32 v3 1 then (if lt32 1 t0 then (if lt32 5 t0 then (some (3, s)) else (some (2, s))) else (some (1, s))) else (if lt32 5 t0 then (if lt32 20 t0 then (some (3, s)) else (some (2, s))) else (some (1, s)))
def m_levelOf_81 (N : Nat) (v3 v4 t0 : Int) (s : St) : MM := if eq32 v4 ((-1)) then (some ((-1), s)) else (if eq32 t0 ((-1)) then (some ((-1), s)) else (if eq32 v4 t0 then (some (0, s)) else (if eq32 v3 3 then (some (3, s)) else (if eq32 v3 1 then (bd (m_amount N (v4 - t0) s) (fun r123 s123 => m_levelOf_142 N v3 r123 s123)) else (gd (inb ((8 * v4) + t0) 64) (m_levelOf_142 N v3 (s 9 ((8 * v4) + t0)) s))))))
def m_levelOf_45 (N : Nat) (v2 v3 t0 : Int) (s : St) : MM := if eq32 v3 1 then (gd (inb v2 36) (m_levelOf_81 N v3 t0 (s 4 v2) s)) else (if eq32 v3 2 then (gd (inb v2 36) (m_levelOf_81 N v3 t0 (s 5 v2) s)) else (gd (inb v2 36) (m_levelOf_81 N v3 t0 (s 6 v2) s)))
def m_levelOf (N : Nat) (v1 v2 v3 : Int) (s : St) : MM := if eq32 v3 0 then (bd (m_nameLevel N v1 v2 s) (fun r7 s7 => some (r7, s7))) else (if eq32 v3 1 then (gd (inb v1 36) (m_levelOf_45 N v2 v3 (s 4 v1) s)) else (if eq32 v3 2 then (gd (inb v1 36) (m_levelOf_45 N v2 v3 (s 5 v1) s)) else (gd (inb v1 36) (m_levelOf_45 N v2 v3 (s 6 v1) s))))
abbrev rm_m_levelOf : Room := { frames := 6, cells := 0, slots := 0, locals := 142 }
theorem s_m_levelOf_142 {X : CxT} {l : Launch} {G : GG} (C : Cx X l (mW G) 7 prog_14_method_27_code "OneSelfModel" (wo y_M_levelOf prog_14_method_27_code 7 (some .int)) (some .int) rm_m_levelOf) {o : Int × St} {N : Nat} {v3 t0 : Int} {s : St} (hf : m_levelOf_142 N v3 t0 s = some o) : Rj X (mW G) 7 (qI X (mW G) o) 142 [(3, vI v3)] [vI t0] s := by
  unfold m_levelOf_142 at hf
  refine r_istore C (q := 144) (lv' := [(6, vI t0), (3, vI v3)]) d_M_levelOf_142 (by decide) rfl rfl ?_
  refine r_iload_n C (q := 145) 1 d_M_levelOf_144 rfl rfl rfl ?_
  refine r_iconst C (q := 146) d_M_levelOf_145 rfl ?_
  refine r_ic_ne C (t := 173) (q := 149) d_M_levelOf_146 (by decide) rfl (fun c146 => ?_) (fun c146 => ?_)
  · replace hf := ite_t c146 hf
    refine r_iload C (q := 151) 0 d_M_levelOf_149 rfl rfl ?_
    refine r_iconst C (q := 152) d_M_levelOf_151 rfl ?_
    refine r_ic_gt C (t := 159) (q := 155) d_M_levelOf_152 (by decide) rfl (fun c152 => ?_) (fun c152 => ?_)
    · replace hf := ite_t c152 hf
      refine r_iload C (q := 161) 0 d_M_levelOf_159 rfl rfl ?_
      refine r_iconst C (q := 162) d_M_levelOf_161 rfl ?_
      refine r_ic_gt C (t := 169) (q := 165) d_M_levelOf_162 (by decide) rfl (fun c162 => ?_) (fun c162 => ?_)
      · replace hf := ite_t c162 hf
        refine r_iconst C (q := 170) d_M_levelOf_169 rfl ?_
        refine r_goto C (q := 195) d_M_levelOf_170 (by decide) ?_
        exact r_ireturn C hf d_M_levelOf_195
      · replace hf := ite_f c162 hf
        refine r_iconst C (q := 166) d_M_levelOf_165 rfl ?_
        refine r_goto C (q := 195) d_M_levelOf_166 (by decide) ?_
        exact r_ireturn C hf d_M_levelOf_195
    · replace hf := ite_f c152 hf
      refine r_iconst C (q := 156) d_M_levelOf_155 rfl ?_
      refine r_goto C (q := 195) d_M_levelOf_156 (by decide) ?_
      exact r_ireturn C hf d_M_levelOf_195
  · replace hf := ite_f c146 hf
    refine r_iload C (q := 175) 0 d_M_levelOf_173 rfl rfl ?_
    refine r_iconst C (q := 176) d_M_levelOf_175 rfl ?_
    refine r_ic_gt C (t := 183) (q := 179) d_M_levelOf_176 (by decide) rfl (fun c176 => ?_) (fun c176 => ?_)
    · replace hf := ite_t c176 hf
      refine r_iload C (q := 185) 0 d_M_levelOf_183 rfl rfl ?_
      refine r_bipush C (q := 187) (x := 20) d_M_levelOf_185 rfl rfl ?_
      refine r_ic_gt C (t := 194) (q := 190) d_M_levelOf_187 (by decide) rfl (fun c187 => ?_) (fun c187 => ?_)
      · replace hf := ite_t c187 hf
        refine r_iconst C (q := 195) d_M_levelOf_194 rfl ?_
        exact r_ireturn C hf d_M_levelOf_195
      · replace hf := ite_f c187 hf
        refine r_iconst C (q := 191) d_M_levelOf_190 rfl ?_
        refine r_goto C (q := 195) d_M_levelOf_191 (by decide) ?_
        exact r_ireturn C hf d_M_levelOf_195
    · replace hf := ite_f c176 hf
      refine r_iconst C (q := 180) d_M_levelOf_179 rfl ?_
      refine r_goto C (q := 195) d_M_levelOf_180 (by decide) ?_
      exact r_ireturn C hf d_M_levelOf_195
theorem s_m_levelOf_81 {X : CxT} {l : Launch} {G : GG} (C : Cx X l (mW G) 7 prog_14_method_27_code "OneSelfModel" (wo y_M_levelOf prog_14_method_27_code 7 (some .int)) (some .int) rm_m_levelOf) {o : Int × St} {N : Nat} {v3 v4 t0 : Int} {s : St} (hf : m_levelOf_81 N v3 v4 t0 s = some o) : Rj X (mW G) 7 (qI X (mW G) o) 81 [(0, .ref ((mW G).h 0)), (3, vI v3), (4, vI v4)] [vI t0] s := by
  unfold m_levelOf_81 at hf
  refine r_istore C (q := 83) (lv' := [(5, vI t0), (0, .ref ((mW G).h 0)), (3, vI v3), (4, vI v4)]) d_M_levelOf_81 (by decide) rfl rfl ?_
  refine r_iload C (q := 85) 3 d_M_levelOf_83 rfl rfl ?_
  refine r_iconst C (q := 86) d_M_levelOf_85 rfl ?_
  refine r_ic_eq C (t := 95) (q := 89) d_M_levelOf_86 (by decide) rfl (fun c86 => ?_) (fun c86 => ?_)
  · replace hf := ite_t c86 hf
    refine r_iconst C (q := 96) d_M_levelOf_95 rfl ?_
    exact r_ireturn C hf d_M_levelOf_96
  · replace hf := ite_f c86 hf
    refine r_iload C (q := 91) 0 d_M_levelOf_89 rfl rfl ?_
    refine r_iconst C (q := 92) d_M_levelOf_91 rfl ?_
    refine r_ic_ne C (t := 97) (q := 95) d_M_levelOf_92 (by decide) rfl (fun c92 => ?_) (fun c92 => ?_)
    · replace hf := ite_t c92 hf
      refine r_iconst C (q := 96) d_M_levelOf_95 rfl ?_
      exact r_ireturn C hf d_M_levelOf_96
    · replace hf := ite_f c92 hf
      refine r_iload C (q := 99) 3 d_M_levelOf_97 rfl rfl ?_
      refine r_iload C (q := 101) 0 d_M_levelOf_99 rfl rfl ?_
      refine r_ic_ne C (t := 106) (q := 104) d_M_levelOf_101 (by decide) rfl (fun c101 => ?_) (fun c101 => ?_)
      · replace hf := ite_t c101 hf
        refine r_iconst C (q := 105) d_M_levelOf_104 rfl ?_
        exact r_ireturn C hf d_M_levelOf_105
      · replace hf := ite_f c101 hf
        refine r_iload_n C (q := 107) 2 d_M_levelOf_106 rfl rfl rfl ?_
        refine r_iconst C (q := 108) d_M_levelOf_107 rfl ?_
        refine r_ic_ne C (t := 113) (q := 111) d_M_levelOf_108 (by decide) rfl (fun c108 => ?_) (fun c108 => ?_)
        · replace hf := ite_t c108 hf
          refine r_iconst C (q := 112) d_M_levelOf_111 rfl ?_
          exact r_ireturn C hf d_M_levelOf_112
        · replace hf := ite_f c108 hf
          refine r_iload_n C (q := 114) 2 d_M_levelOf_113 rfl rfl rfl ?_
          refine r_iconst C (q := 115) d_M_levelOf_114 rfl ?_
          refine r_ic_ne C (t := 129) (q := 118) d_M_levelOf_115 (by decide) rfl (fun c115 => ?_) (fun c115 => ?_)
          · replace hf := ite_t c115 hf
            refine r_iload C (q := 120) 3 d_M_levelOf_118 rfl rfl ?_
            refine r_iload C (q := 122) 0 d_M_levelOf_120 rfl rfl ?_
            refine r_isub C (q := 123) d_M_levelOf_122 rfl ?_
            obtain ⟨r123, s123, hg123, hf⟩ := bd_s hf
            refine r_cSI C (q := 126) (As := [vI (v4 - t0)]) (c_m_amount C.i hg123) mt_M_amount ml_M_191 rfl rfl rfl ⟨Nat.le_of_ble_eq_true rfl, Nat.le_of_ble_eq_true rfl⟩ rfl (Nat.le_of_ble_eq_true rfl) d_M_levelOf_123 rfl ?_
            refine r_goto C (q := 142) d_M_levelOf_126 (by decide) ?_
            exact r_sub [2] rfl (s_m_levelOf_142 C hf)
          · replace hf := ite_f c115 hf
            refine r_aload_n C (q := 130) 1 d_M_levelOf_129 rfl rfl rfl ?_
            refine gxm_M_ways C (q := 133) fl_M_38 d_M_levelOf_130 rfl ?_
            refine r_bipush C (q := 135) (x := 8) d_M_levelOf_133 rfl rfl ?_
            refine r_iload C (q := 137) 3 d_M_levelOf_135 rfl rfl ?_
            refine r_imul C (q := 138) d_M_levelOf_137 rfl ?_
            refine r_iload C (q := 140) 0 d_M_levelOf_138 rfl rfl ?_
            refine r_iadd C (q := 141) d_M_levelOf_140 rfl ?_
            obtain ⟨g141, hf⟩ := gd_s hf
            refine r_iald C (q := 142) 9 (Nat.le_of_ble_eq_true rfl) (fun _ => rfl) 0 rfl g141 (by decide) d_M_levelOf_141 rfl ?_
            exact r_sub [2] rfl (s_m_levelOf_142 C hf)
theorem s_m_levelOf_45 {X : CxT} {l : Launch} {G : GG} (C : Cx X l (mW G) 7 prog_14_method_27_code "OneSelfModel" (wo y_M_levelOf prog_14_method_27_code 7 (some .int)) (some .int) rm_m_levelOf) {o : Int × St} {N : Nat} {v2 v3 t0 : Int} {s : St} (hf : m_levelOf_45 N v2 v3 t0 s = some o) : Rj X (mW G) 7 (qI X (mW G) o) 45 [(0, .ref ((mW G).h 0)), (2, vI v2), (3, vI v3)] [vI t0] s := by
  unfold m_levelOf_45 at hf
  refine r_istore C (q := 47) (lv' := [(4, vI t0), (0, .ref ((mW G).h 0)), (2, vI v2), (3, vI v3)]) d_M_levelOf_45 (by decide) rfl rfl ?_
  refine r_iload_n C (q := 48) 3 d_M_levelOf_47 rfl rfl rfl ?_
  refine r_iconst C (q := 49) d_M_levelOf_48 rfl ?_
  refine r_ic_ne C (t := 61) (q := 52) d_M_levelOf_49 (by decide) rfl (fun c49 => ?_) (fun c49 => ?_)
  · replace hf := ite_t c49 hf
    refine r_aload_n C (q := 53) 1 d_M_levelOf_52 rfl rfl rfl ?_
    refine gxm_M_yearOf C (q := 56) fl_M_19 d_M_levelOf_53 rfl ?_
    refine r_iload_n C (q := 57) 2 d_M_levelOf_56 rfl rfl rfl ?_
    obtain ⟨g57, hf⟩ := gd_s hf
    refine r_iald C (q := 58) 4 (Nat.le_of_ble_eq_true rfl) (fun _ => rfl) 0 rfl g57 (by decide) d_M_levelOf_57 rfl ?_
    refine r_goto C (q := 81) d_M_levelOf_58 (by decide) ?_
    exact r_sub [1, 3, 0] rfl (s_m_levelOf_81 C hf)
  · replace hf := ite_f c49 hf
    refine r_iload_n C (q := 62) 3 d_M_levelOf_61 rfl rfl rfl ?_
    refine r_iconst C (q := 63) d_M_levelOf_62 rfl ?_
    refine r_ic_ne C (t := 75) (q := 66) d_M_levelOf_63 (by decide) rfl (fun c63 => ?_) (fun c63 => ?_)
    · replace hf := ite_t c63 hf
      refine r_aload_n C (q := 67) 1 d_M_levelOf_66 rfl rfl rfl ?_
      refine gxm_M_placeOf C (q := 70) fl_M_22 d_M_levelOf_67 rfl ?_
      refine r_iload_n C (q := 71) 2 d_M_levelOf_70 rfl rfl rfl ?_
      obtain ⟨g71, hf⟩ := gd_s hf
      refine r_iald C (q := 72) 5 (Nat.le_of_ble_eq_true rfl) (fun _ => rfl) 0 rfl g71 (by decide) d_M_levelOf_71 rfl ?_
      refine r_goto C (q := 81) d_M_levelOf_72 (by decide) ?_
      exact r_sub [1, 3, 0] rfl (s_m_levelOf_81 C hf)
    · replace hf := ite_f c63 hf
      refine r_aload_n C (q := 76) 1 d_M_levelOf_75 rfl rfl rfl ?_
      refine gxm_M_sortOf C (q := 79) fl_M_25 d_M_levelOf_76 rfl ?_
      refine r_iload_n C (q := 80) 2 d_M_levelOf_79 rfl rfl rfl ?_
      obtain ⟨g80, hf⟩ := gd_s hf
      refine r_iald C (q := 81) 6 (Nat.le_of_ble_eq_true rfl) (fun _ => rfl) 0 rfl g80 (by decide) d_M_levelOf_80 rfl ?_
      exact r_sub [1, 3, 0] rfl (s_m_levelOf_81 C hf)
theorem c_m_levelOf {l : Launch} {G : GG} (hi : wo_i (mW G)) {N : Nat} {v1 v2 v3 : Int} {s : St} {o : Int × St} (hf : m_levelOf N v1 v2 v3 s = some o) : CtI l (mW G) y_M_levelOf (wo y_M_levelOf prog_14_method_27_code 7 (some .int)) rm_m_levelOf [.ref ((mW G).h 0), vI v1, vI v2, vI v3] s o := by
  refine ct_I (by decide +kernel) hi (Nat.le_of_ble_eq_true rfl) fun X C => ?_
  unfold m_levelOf at hf
  show Rj X (mW G) 7 (qI X (mW G) o) 0 [(0, .ref ((mW G).h 0)), (1, vI v1), (2, vI v2), (3, vI v3)] [] s
  refine r_iload_n C (q := 1) 3 d_M_levelOf_0 rfl rfl rfl ?_
  refine r_if_ne C (t := 11) (q := 4) d_M_levelOf_1 (by decide) rfl (fun c1 => ?_) (fun c1 => ?_)
  · replace hf := ite_t c1 hf
    refine r_aload_n C (q := 5) 0 d_M_levelOf_4 rfl rfl rfl ?_
    refine r_iload_n C (q := 6) 1 d_M_levelOf_5 rfl rfl rfl ?_
    refine r_iload_n C (q := 7) 2 d_M_levelOf_6 rfl rfl rfl ?_
    obtain ⟨r7, s7, hg7, hf⟩ := bd_s hf
    refine r_cVI C (q := 10) (As := [vI v1, vI v2]) (k0 := 0) (c_m_nameLevel C.i hg7) mt_M_nameLevel ml_M_188 (Nat.le_of_ble_eq_true rfl) rfl rfl rfl rfl rfl rfl ⟨Nat.le_of_ble_eq_true rfl, Nat.le_of_ble_eq_true rfl⟩ rfl (Nat.le_of_ble_eq_true rfl) d_M_levelOf_7 rfl ?_
    exact r_ireturn C hf d_M_levelOf_10
  · replace hf := ite_f c1 hf
    refine r_iload_n C (q := 12) 3 d_M_levelOf_11 rfl rfl rfl ?_
    refine r_iconst C (q := 13) d_M_levelOf_12 rfl ?_
    refine r_ic_ne C (t := 25) (q := 16) d_M_levelOf_13 (by decide) rfl (fun c13 => ?_) (fun c13 => ?_)
    · replace hf := ite_t c13 hf
      refine r_aload_n C (q := 17) 0 d_M_levelOf_16 rfl rfl rfl ?_
      refine gxm_M_yearOf C (q := 20) fl_M_19 d_M_levelOf_17 rfl ?_
      refine r_iload_n C (q := 21) 1 d_M_levelOf_20 rfl rfl rfl ?_
      obtain ⟨g21, hf⟩ := gd_s hf
      refine r_iald C (q := 22) 4 (Nat.le_of_ble_eq_true rfl) (fun _ => rfl) 0 rfl g21 (by decide) d_M_levelOf_21 rfl ?_
      refine r_goto C (q := 45) d_M_levelOf_22 (by decide) ?_
      exact r_sub [0, 2, 3] rfl (s_m_levelOf_45 C hf)
    · replace hf := ite_f c13 hf
      refine r_iload_n C (q := 26) 3 d_M_levelOf_25 rfl rfl rfl ?_
      refine r_iconst C (q := 27) d_M_levelOf_26 rfl ?_
      refine r_ic_ne C (t := 39) (q := 30) d_M_levelOf_27 (by decide) rfl (fun c27 => ?_) (fun c27 => ?_)
      · replace hf := ite_t c27 hf
        refine r_aload_n C (q := 31) 0 d_M_levelOf_30 rfl rfl rfl ?_
        refine gxm_M_placeOf C (q := 34) fl_M_22 d_M_levelOf_31 rfl ?_
        refine r_iload_n C (q := 35) 1 d_M_levelOf_34 rfl rfl rfl ?_
        obtain ⟨g35, hf⟩ := gd_s hf
        refine r_iald C (q := 36) 5 (Nat.le_of_ble_eq_true rfl) (fun _ => rfl) 0 rfl g35 (by decide) d_M_levelOf_35 rfl ?_
        refine r_goto C (q := 45) d_M_levelOf_36 (by decide) ?_
        exact r_sub [0, 2, 3] rfl (s_m_levelOf_45 C hf)
      · replace hf := ite_f c27 hf
        refine r_aload_n C (q := 40) 0 d_M_levelOf_39 rfl rfl rfl ?_
        refine gxm_M_sortOf C (q := 43) fl_M_25 d_M_levelOf_40 rfl ?_
        refine r_iload_n C (q := 44) 1 d_M_levelOf_43 rfl rfl rfl ?_
        obtain ⟨g44, hf⟩ := gd_s hf
        refine r_iald C (q := 45) 6 (Nat.le_of_ble_eq_true rfl) (fun _ => rfl) 0 rfl g44 (by decide) d_M_levelOf_44 rfl ?_
        exact r_sub [0, 2, 3] rfl (s_m_levelOf_45 C hf)
