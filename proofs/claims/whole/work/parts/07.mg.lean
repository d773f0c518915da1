def m_learnt_131 (N : Nat) (k30 : Int → Int → Int → St → MM) (v1 v2 v3 v4 v5 v6 : Int) (s : St) : MM := k30 v4 v5 (v6 + 1) s
def m_learnt_128 (N : Nat) (k30 : Int → Int → Int → St → MM) (v1 v2 v3 v4 v6 t0 t1 : Int) (s : St) : MM := m_learnt_131 N k30 v1 v2 v3 v4 (t1 + t0) v6  s
def m_learnt_112 (N : Nat) (k30 : Int → Int → Int → St → MM) (v1 v2 v3 v5 v6 v7 t0 t1 : Int) (s : St) : MM := if eq32 v7 v3 then (m_learnt_128 N k30 v1 v2 v3 (t1 + t0) v6 1 v5 s) else (m_learnt_128 N k30 v1 v2 v3 (t1 + t0) v6 0 v5 s)
def m_learnt_30 (N : Nat) (v1 v2 v3 : Int) (k30 : Int → Int → Int → St → MM) (v4 v5 v6 : Int) (s : St) : MM := if le32 (s 0 37) v6 then (gd (¬ eq32 (2 * (v4 + 4)) 0) (if le32 1 (dv32 (((2000 * (v5 + 1)) + v4) + 4) (2 * (v4 + 4))) then (some (dv32 (((2000 * (v5 + 1)) + v4) + 4) (2 * (v4 + 4)), s)) else (some (1, s)))) else (gd (inb v6 40) (if eq32 (s 27 v6) v1 then (gd (inb v6 40) (bd (m_isKnown N (s 25 v6) s) (fun r58 s58 => if eq32 r58 0 then (m_learnt_131 N k30 v1 v2 v3 v4 v5 v6  s58) else (gd (inb v6 40) (bd (m_isKnown N (s58 26 v6) s58) (fun r72 s72 => if eq32 r72 0 then (m_learnt_131 N k30 v1 v2 v3 v4 v5 v6  s72) else (gd (inb v6 40) (gd (inb v6 40) (bd (m_levelOf N (s72 25 v6) (s72 26 v6) v2 s72) (fun r94 s94 => if eq32 r94 ((-1)) then (m_learnt_112 N k30 v1 v2 v3 v5 v6 r94 0 v4 s94) else (m_learnt_112 N k30 v1 v2 v3 v5 v6 r94 1 v4 s94))))))))))) else (m_learnt_131 N k30 v1 v2 v3 v4 v5 v6  s)))
def m_learnt (N : Nat) (v1 v2 v3 : Int) (s : St) : MM := bd (m_in N v2 0 3 s) (fun r3 s3 => if eq32 r3 0 then (some ((-2), s3)) else (bd (m_in N v3 0 3 s3) (fun r12 s12 => if eq32 r12 0 then (some ((-2), s12)) else (itr (m_learnt_30 N v1 v2 v3) (fun _ _ _ _ => none) N 0 0 0 s12))))
abbrev rm_m_learnt : Room := { frames := 7, cells := 0, slots := 0, locals := 168 }
theorem s_m_learnt_131 {X : CxT} {l : Launch} {G : GG} (C : Cx X l (mW G) 8 prog_14_method_63_code "OneSelfModel" (wo y_M_learnt prog_14_method_63_code 8 (some .int)) (some .int) rm_m_learnt) {o : Int × St} {N : Nat} {v1 v2 v3 v4 v5 v6 : Int} {k30 : Int → Int → Int → St → MM} (hk30 : ∀ (u4 u5 u6 : Int) (s : St), k30 u4 u5 u6 s = some o → Rj X (mW G) 8 (qI X (mW G) o) 30 [(0, .ref ((mW G).h 0)), (1, vI v1), (2, vI v2), (3, vI v3), (4, vI u4), (5, vI u5), (6, vI u6)] [] s) {s : St} (hf : m_learnt_131 N k30 v1 v2 v3 v4 v5 v6 s = some o) : Rj X (mW G) 8 (qI X (mW G) o) 131 [(0, .ref ((mW G).h 0)), (1, vI v1), (2, vI v2), (3, vI v3), (4, vI v4), (5, vI v5), (6, vI v6)] [] s := by
  unfold m_learnt_131 at hf
  refine r_iinc C (q := 134) (lv' := [(6, vI (v6 + 1)), (0, .ref ((mW G).h 0)), (1, vI v1), (2, vI v2), (3, vI v3), (4, vI v4), (5, vI v5)]) 6 d_M_learnt_131 rfl (by decide) rfl rfl ?_
  refine r_goto C (q := 30) d_M_learnt_134 (by decide) ?_
  exact r_sub [1, 2, 3, 4, 5, 6, 0] rfl (hk30 _ _ _ _  hf)
theorem s_m_learnt_128 {X : CxT} {l : Launch} {G : GG} (C : Cx X l (mW G) 8 prog_14_method_63_code "OneSelfModel" (wo y_M_learnt prog_14_method_63_code 8 (some .int)) (some .int) rm_m_learnt) {o : Int × St} {N : Nat} {v1 v2 v3 v4 v6 t0 t1 : Int} {k30 : Int → Int → Int → St → MM} (hk30 : ∀ (u4 u5 u6 : Int) (s : St), k30 u4 u5 u6 s = some o → Rj X (mW G) 8 (qI X (mW G) o) 30 [(0, .ref ((mW G).h 0)), (1, vI v1), (2, vI v2), (3, vI v3), (4, vI u4), (5, vI u5), (6, vI u6)] [] s) {s : St} (hf : m_learnt_128 N k30 v1 v2 v3 v4 v6 t0 t1 s = some o) : Rj X (mW G) 8 (qI X (mW G) o) 128 [(0, .ref ((mW G).h 0)), (1, vI v1), (2, vI v2), (3, vI v3), (4, vI v4), (6, vI v6)] [vI t0, vI t1] s := by
  unfold m_learnt_128 at hf
  refine r_iadd C (q := 129) d_M_learnt_128 rfl ?_
  refine r_istore C (q := 131) (lv' := [(5, vI (t1 + t0)), (0, .ref ((mW G).h 0)), (1, vI v1), (2, vI v2), (3, vI v3), (4, vI v4), (6, vI v6)]) d_M_learnt_129 (by decide) rfl rfl ?_
  exact r_sub [1, 2, 3, 4, 5, 0, 6] rfl (s_m_learnt_131 C hk30 hf)
theorem s_m_learnt_112 {X : CxT} {l : Launch} {G : GG} (C : Cx X l (mW G) 8 prog_14_method_63_code "OneSelfModel" (wo y_M_learnt prog_14_method_63_code 8 (some .int)) (some .int) rm_m_learnt) {o : Int × St} {N : Nat} {v1 v2 v3 v5 v6 v7 t0 t1 : Int} {k30 : Int → Int → Int → St → MM} (hk30 : ∀ (u4 u5 u6 : Int) (s : St), k30 u4 u5 u6 s = some o → Rj X (mW G) 8 (qI X (mW G) o) 30 [(0, .ref ((mW G).h 0)), (1, vI v1), (2, vI v2), (3, vI v3), (4, vI u4), (5, vI u5), (6, vI u6)] [] s) {s : St} (hf : m_learnt_112 N k30 v1 v2 v3 v5 v6 v7 t0 t1 s = some o) : Rj X (mW G) 8 (qI X (mW G) o) 112 [(0, .ref ((mW G).h 0)), (1, vI v1), (2, vI v2), (3, vI v3), (5, vI v5), (6, vI v6), (7, vI v7)] [vI t0, vI t1] s := by
  unfold m_learnt_112 at hf
  refine r_iadd C (q := 113) d_M_learnt_112 rfl ?_
  refine r_istore C (q := 115) (lv' := [(4, vI (t1 + t0)), (0, .ref ((mW G).h 0)), (1, vI v1), (2, vI v2), (3, vI v3), (5, vI v5), (6, vI v6), (7, vI v7)]) d_M_learnt_113 (by decide) rfl rfl ?_
  refine r_iload C (q := 117) 5 d_M_learnt_115 rfl rfl ?_
  refine r_iload C (q := 119) 7 d_M_learnt_117 rfl rfl ?_
  refine r_iload_n C (q := 120) 4 d_M_learnt_119 rfl rfl rfl ?_
  refine r_ic_ne C (t := 127) (q := 123) d_M_learnt_120 (by decide) rfl (fun c120 => ?_) (fun c120 => ?_)
  · replace hf := ite_t c120 hf
    refine r_iconst C (q := 124) d_M_learnt_123 rfl ?_
    refine r_goto C (q := 128) d_M_learnt_124 (by decide) ?_
    exact r_sub [1, 2, 3, 4, 0, 6] rfl (s_m_learnt_128 C hk30 hf)
  · replace hf := ite_f c120 hf
    refine r_iconst C (q := 128) d_M_learnt_127 rfl ?_
    exact r_sub [1, 2, 3, 4, 0, 6] rfl (s_m_learnt_128 C hk30 hf)
theorem s_m_learnt_30 {X : CxT} {l : Launch} {G : GG} (C : Cx X l (mW G) 8 prog_14_method_63_code "OneSelfModel" (wo y_M_learnt prog_14_method_63_code 8 (some .int)) (some .int) rm_m_learnt) {o : Int × St} {N : Nat} {v1 v2 v3 v4 v5 v6 : Int} {k30 : Int → Int → Int → St → MM} (hk30 : ∀ (u4 u5 u6 : Int) (s : St), k30 u4 u5 u6 s = some o → Rj X (mW G) 8 (qI X (mW G) o) 30 [(0, .ref ((mW G).h 0)), (1, vI v1), (2, vI v2), (3, vI v3), (4, vI u4), (5, vI u5), (6, vI u6)] [] s) {s : St} (hf : m_learnt_30 N v1 v2 v3 k30 v4 v5 v6 s = some o) : Rj X (mW G) 8 (qI X (mW G) o) 30 [(0, .ref ((mW G).h 0)), (1, vI v1), (2, vI v2), (3, vI v3), (4, vI v4), (5, vI v5), (6, vI v6)] [] s := by
  unfold m_learnt_30 at hf
  refine r_iload C (q := 32) 6 d_M_learnt_30 rfl rfl ?_
  refine r_aload_n C (q := 33) 0 d_M_learnt_32 rfl rfl rfl ?_
  refine gxm_M_checks C (q := 36) fl_M_265 d_M_learnt_33 rfl ?_
  refine r_ic_ge C (t := 137) (q := 39) d_M_learnt_36 (by decide) rfl (fun c36 => ?_) (fun c36 => ?_)
  · replace hf := ite_t c36 hf
    refine r_sipush C (q := 140) (x := 2000) d_M_learnt_137 rfl rfl ?_
    refine r_iload C (q := 142) 5 d_M_learnt_140 rfl rfl ?_
    refine r_iconst C (q := 143) d_M_learnt_142 rfl ?_
    refine r_iadd C (q := 144) d_M_learnt_143 rfl ?_
    refine r_imul C (q := 145) d_M_learnt_144 rfl ?_
    refine r_iload C (q := 147) 4 d_M_learnt_145 rfl rfl ?_
    refine r_iadd C (q := 148) d_M_learnt_147 rfl ?_
    refine r_iconst C (q := 149) d_M_learnt_148 rfl ?_
    refine r_iadd C (q := 150) d_M_learnt_149 rfl ?_
    refine r_iconst C (q := 151) d_M_learnt_150 rfl ?_
    refine r_iload C (q := 153) 4 d_M_learnt_151 rfl rfl ?_
    refine r_iconst C (q := 154) d_M_learnt_153 rfl ?_
    refine r_iadd C (q := 155) d_M_learnt_154 rfl ?_
    refine r_imul C (q := 156) d_M_learnt_155 rfl ?_
    obtain ⟨g156, hf⟩ := gd_s hf
    refine r_idiv C (q := 157) g156 d_M_learnt_156 rfl ?_
    refine r_istore C (q := 159) (lv' := [(6, vI (dv32 (((2000 * (v5 + 1)) + v4) + 4) (2 * (v4 + 4)))), (0, .ref ((mW G).h 0)), (1, vI v1), (2, vI v2), (3, vI v3), (4, vI v4), (5, vI v5)]) d_M_learnt_157 (by decide) rfl rfl ?_
    refine r_iload C (q := 161) 0 d_M_learnt_159 rfl rfl ?_
    refine r_iconst C (q := 162) d_M_learnt_161 rfl ?_
    refine r_ic_ge C (t := 169) (q := 165) d_M_learnt_162 (by decide) rfl (fun c162 => ?_) (fun c162 => ?_)
    · replace hf := ite_t c162 hf
      refine r_iload C (q := 171) 0 d_M_learnt_169 rfl rfl ?_
      exact r_ireturn C hf d_M_learnt_171
    · replace hf := ite_f c162 hf
      refine r_iconst C (q := 166) d_M_learnt_165 rfl ?_
      refine r_goto C (q := 171) d_M_learnt_166 (by decide) ?_
      exact r_ireturn C hf d_M_learnt_171
  · replace hf := ite_f c36 hf
    refine r_aload_n C (q := 40) 0 d_M_learnt_39 rfl rfl rfl ?_
    refine gxm_M_checkOne C (q := 43) fl_M_96 d_M_learnt_40 rfl ?_
    refine r_iload C (q := 45) 6 d_M_learnt_43 rfl rfl ?_
    obtain ⟨g45, hf⟩ := gd_s hf
    refine r_zald C (q := 46) 27 (Nat.le_of_ble_eq_true rfl) (fun _ => rfl) 2 rfl g45 (by decide) d_M_learnt_45 rfl ?_
    refine r_iload_n C (q := 47) 1 d_M_learnt_46 rfl rfl rfl ?_
    refine r_ic_ne C (t := 131) (q := 50) d_M_learnt_47 (by decide) rfl (fun c47 => ?_) (fun c47 => ?_)
    · replace hf := ite_t c47 hf
      refine r_aload_n C (q := 51) 0 d_M_learnt_50 rfl rfl rfl ?_
      refine r_aload_n C (q := 52) 0 d_M_learnt_51 rfl rfl rfl ?_
      refine gxm_M_checkA C (q := 55) fl_M_90 d_M_learnt_52 rfl ?_
      refine r_iload C (q := 57) 6 d_M_learnt_55 rfl rfl ?_
      obtain ⟨g57, hf⟩ := gd_s hf
      refine r_iald C (q := 58) 25 (Nat.le_of_ble_eq_true rfl) (fun _ => rfl) 0 rfl g57 (by decide) d_M_learnt_57 rfl ?_
      obtain ⟨r58, s58, hg58, hf⟩ := bd_s hf
      refine r_cVI C (q := 61) (As := [vI (s 25 v6)]) (k0 := 0) (c_m_isKnown C.i hg58) mt_M_isKnown ml_M_151 (Nat.le_of_ble_eq_true rfl) rfl rfl rfl rfl rfl rfl ⟨Nat.le_of_ble_eq_true rfl, Nat.le_of_ble_eq_true rfl⟩ rfl (Nat.le_of_ble_eq_true rfl) d_M_learnt_58 rfl ?_
      refine r_if_eq C (t := 131) (q := 64) d_M_learnt_61 (by decide) rfl (fun c61 => ?_) (fun c61 => ?_)
      · replace hf := ite_t c61 hf
        exact r_sub [0, 1, 2, 3, 4, 5, 6] rfl (s_m_learnt_131 C hk30 hf)
      · replace hf := ite_f c61 hf
        refine r_aload_n C (q := 65) 0 d_M_learnt_64 rfl rfl rfl ?_
        refine r_aload_n C (q := 66) 0 d_M_learnt_65 rfl rfl rfl ?_
        refine gxm_M_checkB C (q := 69) fl_M_93 d_M_learnt_66 rfl ?_
        refine r_iload C (q := 71) 6 d_M_learnt_69 rfl rfl ?_
        obtain ⟨g71, hf⟩ := gd_s hf
        refine r_iald C (q := 72) 26 (Nat.le_of_ble_eq_true rfl) (fun _ => rfl) 0 rfl g71 (by decide) d_M_learnt_71 rfl ?_
        obtain ⟨r72, s72, hg72, hf⟩ := bd_s hf
        refine r_cVI C (q := 75) (As := [vI (s58 26 v6)]) (k0 := 0) (c_m_isKnown C.i hg72) mt_M_isKnown ml_M_151 (Nat.le_of_ble_eq_true rfl) rfl rfl rfl rfl rfl rfl ⟨Nat.le_of_ble_eq_true rfl, Nat.le_of_ble_eq_true rfl⟩ rfl (Nat.le_of_ble_eq_true rfl) d_M_learnt_72 rfl ?_
        refine r_if_eq C (t := 131) (q := 78) d_M_learnt_75 (by decide) rfl (fun c75 => ?_) (fun c75 => ?_)
        · replace hf := ite_t c75 hf
          exact r_sub [0, 1, 2, 3, 4, 5, 6] rfl (s_m_learnt_131 C hk30 hf)
        · replace hf := ite_f c75 hf
          refine r_aload_n C (q := 79) 0 d_M_learnt_78 rfl rfl rfl ?_
          refine r_aload_n C (q := 80) 0 d_M_learnt_79 rfl rfl rfl ?_
          refine gxm_M_checkA C (q := 83) fl_M_90 d_M_learnt_80 rfl ?_
          refine r_iload C (q := 85) 6 d_M_learnt_83 rfl rfl ?_
          obtain ⟨g85, hf⟩ := gd_s hf
          refine r_iald C (q := 86) 25 (Nat.le_of_ble_eq_true rfl) (fun _ => rfl) 0 rfl g85 (by decide) d_M_learnt_85 rfl ?_
          refine r_aload_n C (q := 87) 0 d_M_learnt_86 rfl rfl rfl ?_
          refine gxm_M_checkB C (q := 90) fl_M_93 d_M_learnt_87 rfl ?_
          refine r_iload C (q := 92) 6 d_M_learnt_90 rfl rfl ?_
          obtain ⟨g92, hf⟩ := gd_s hf
          refine r_iald C (q := 93) 26 (Nat.le_of_ble_eq_true rfl) (fun _ => rfl) 0 rfl g92 (by decide) d_M_learnt_92 rfl ?_
          refine r_iload_n C (q := 94) 2 d_M_learnt_93 rfl rfl rfl ?_
          obtain ⟨r94, s94, hg94, hf⟩ := bd_s hf
          refine r_cVI C (q := 97) (As := [vI (s72 25 v6), vI (s72 26 v6), vI v2]) (k0 := 0) (c_m_levelOf C.i hg94) mt_M_levelOf ml_M_197 (Nat.le_of_ble_eq_true rfl) rfl rfl rfl rfl rfl rfl ⟨Nat.le_of_ble_eq_true rfl, Nat.le_of_ble_eq_true rfl⟩ rfl (Nat.le_of_ble_eq_true rfl) d_M_learnt_94 rfl ?_
          refine r_istore C (q := 99) (lv' := [(7, vI r94), (0, .ref ((mW G).h 0)), (1, vI v1), (2, vI v2), (3, vI v3), (4, vI v4), (5, vI v5), (6, vI v6)]) d_M_learnt_97 (by decide) rfl rfl ?_
          refine r_iload C (q := 101) 5 d_M_learnt_99 rfl rfl ?_
          refine r_iload C (q := 103) 0 d_M_learnt_101 rfl rfl ?_
          refine r_iconst C (q := 104) d_M_learnt_103 rfl ?_
          refine r_ic_ne C (t := 111) (q := 107) d_M_learnt_104 (by decide) rfl (fun c104 => ?_) (fun c104 => ?_)
          · replace hf := ite_t c104 hf
            refine r_iconst C (q := 108) d_M_learnt_107 rfl ?_
            refine r_goto C (q := 112) d_M_learnt_108 (by decide) ?_
            exact r_sub [1, 2, 3, 4, 6, 7, 0] rfl (s_m_learnt_112 C hk30 hf)
          · replace hf := ite_f c104 hf
            refine r_iconst C (q := 112) d_M_learnt_111 rfl ?_
            exact r_sub [1, 2, 3, 4, 6, 7, 0] rfl (s_m_learnt_112 C hk30 hf)
    · replace hf := ite_f c47 hf
      exact r_sub [0, 1, 2, 3, 4, 5, 6] rfl (s_m_learnt_131 C hk30 hf)
theorem c_m_learnt {l : Launch} {G : GG} (hi : wo_i (mW G)) {N : Nat} {v1 v2 v3 : Int} {s : St} {o : Int × St} (hf : m_learnt N v1 v2 v3 s = some o) : CtI l (mW G) y_M_learnt (wo y_M_learnt prog_14_method_63_code 8 (some .int)) rm_m_learnt [.ref ((mW G).h 0), vI v1, vI v2, vI v3] s o := by
  refine ct_I (by decide +kernel) hi (Nat.le_of_ble_eq_true rfl) fun X C => ?_
  unfold m_learnt at hf
  show Rj X (mW G) 8 (qI X (mW G) o) 0 [(0, .ref ((mW G).h 0)), (1, vI v1), (2, vI v2), (3, vI v3)] [] s
  refine r_iload_n C (q := 1) 2 d_M_learnt_0 rfl rfl rfl ?_
  refine r_iconst C (q := 2) d_M_learnt_1 rfl ?_
  refine r_iconst C (q := 3) d_M_learnt_2 rfl ?_
  obtain ⟨r3, s3, hg3, hf⟩ := bd_s hf
  refine r_cSI C (q := 6) (As := [vI v2, vI 0, vI 3]) (c_m_in C.i hg3) mt_M_in ml_M_133 rfl rfl rfl ⟨Nat.le_of_ble_eq_true rfl, Nat.le_of_ble_eq_true rfl⟩ rfl (Nat.le_of_ble_eq_true rfl) d_M_learnt_3 rfl ?_
  refine r_if_eq C (t := 18) (q := 9) d_M_learnt_6 (by decide) rfl (fun c6 => ?_) (fun c6 => ?_)
  · replace hf := ite_t c6 hf
    refine r_bipush C (q := 20) (x := (-2)) d_M_learnt_18 rfl rfl ?_
    exact r_ireturn C hf d_M_learnt_20
  · replace hf := ite_f c6 hf
    refine r_iload_n C (q := 10) 3 d_M_learnt_9 rfl rfl rfl ?_
    refine r_iconst C (q := 11) d_M_learnt_10 rfl ?_
    refine r_iconst C (q := 12) d_M_learnt_11 rfl ?_
    obtain ⟨r12, s12, hg12, hf⟩ := bd_s hf
    refine r_cSI C (q := 15) (As := [vI v3, vI 0, vI 3]) (c_m_in C.i hg12) mt_M_in ml_M_133 rfl rfl rfl ⟨Nat.le_of_ble_eq_true rfl, Nat.le_of_ble_eq_true rfl⟩ rfl (Nat.le_of_ble_eq_true rfl) d_M_learnt_12 rfl ?_
    refine r_if_ne C (t := 21) (q := 18) d_M_learnt_15 (by decide) rfl (fun c15 => ?_) (fun c15 => ?_)
    · replace hf := ite_t c15 hf
      refine r_bipush C (q := 20) (x := (-2)) d_M_learnt_18 rfl rfl ?_
      exact r_ireturn C hf d_M_learnt_20
    · replace hf := ite_f c15 hf
      refine r_iconst C (q := 22) d_M_learnt_21 rfl ?_
      refine r_istore C (q := 24) (lv' := [(4, vI 0), (0, .ref ((mW G).h 0)), (1, vI v1), (2, vI v2), (3, vI v3)]) d_M_learnt_22 (by decide) rfl rfl ?_
      refine r_iconst C (q := 25) d_M_learnt_24 rfl ?_
      refine r_istore C (q := 27) (lv' := [(5, vI 0), (4, vI 0), (0, .ref ((mW G).h 0)), (1, vI v1), (2, vI v2), (3, vI v3)]) d_M_learnt_25 (by decide) rfl rfl ?_
      refine r_iconst C (q := 28) d_M_learnt_27 rfl ?_
      refine r_istore C (q := 30) (lv' := [(6, vI 0), (5, vI 0), (4, vI 0), (0, .ref ((mW G).h 0)), (1, vI v1), (2, vI v2), (3, vI v3)]) d_M_learnt_28 (by decide) rfl rfl ?_
      have hL : ∀ (u4 u5 u6 : Int) (z : St), itr (m_learnt_30 N v1 v2 v3) (fun _ _ _ _ => none) N u4 u5 u6 z = some o → Rj X (mW G) 8 (qI X (mW G) o) 30 [(0, .ref ((mW G).h 0)), (1, vI v1), (2, vI v2), (3, vI v3), (4, vI u4), (5, vI u5), (6, vI u6)] [] z := itr_ind (m_learnt_30 N v1 v2 v3) (fun _ _ _ _ => none) (fun k => ∀ (u4 u5 u6 : Int) (z : St), k u4 u5 u6 z = some o → Rj X (mW G) 8 (qI X (mW G) o) 30 [(0, .ref ((mW G).h 0)), (1, vI v1), (2, vI v2), (3, vI v3), (4, vI u4), (5, vI u5), (6, vI u6)] [] z) (fun _ _ _ _  h => by cases h) (fun k hk u4 u5 u6 z h => s_m_learnt_30 C hk h) N
      exact r_sub [3, 4, 5, 6, 2, 1, 0] rfl (hL _ _ _ _  hf)
def m_mayMeet (N : Nat) (v1 v2 : Int) (s : St) : MM := bd (m_isKnown N v1 s) (fun r2 s2 => if eq32 r2 0 then (some (0, s2)) else (bd (m_isKnown N v2 s2) (fun r10 s10 => if eq32 r10 0 then (some (0, s10)) else (gd (inb v1 36) (gd (inb v2 36) (if eq32 (s10 1 v1) (s10 1 v2) then (some (0, s10)) else (some (1, s10))))))))
abbrev rm_m_mayMeet : Room := { frames := 1, cells := 0, slots := 0, locals := 22 }
theorem c_m_mayMeet {l : Launch} {G : GG} (hi : wo_i (mW G)) {N : Nat} {v1 v2 : Int} {s : St} {o : Int × St} (hf : m_mayMeet N v1 v2 s = some o) : CtI l (mW G) y_M_mayMeet (wo y_M_mayMeet prog_14_method_65_code 3 (some .boolean)) rm_m_mayMeet [.ref ((mW G).h 0), vI v1, vI v2] s o := by
  refine ct_I (by decide +kernel) hi (Nat.le_of_ble_eq_true rfl) fun X C => ?_
  unfold m_mayMeet at hf
  show Rj X (mW G) 3 (qI X (mW G) o) 0 [(0, .ref ((mW G).h 0)), (1, vI v1), (2, vI v2)] [] s
  refine r_aload_n C (q := 1) 0 d_M_mayMeet_0 rfl rfl rfl ?_
  refine r_iload_n C (q := 2) 1 d_M_mayMeet_1 rfl rfl rfl ?_
  obtain ⟨r2, s2, hg2, hf⟩ := bd_s hf
  refine r_cVI C (q := 5) (As := [vI v1]) (k0 := 0) (c_m_isKnown C.i hg2) mt_M_isKnown ml_M_151 (Nat.le_of_ble_eq_true rfl) rfl rfl rfl rfl rfl rfl ⟨Nat.le_of_ble_eq_true rfl, Nat.le_of_ble_eq_true rfl⟩ rfl (Nat.le_of_ble_eq_true rfl) d_M_mayMeet_2 rfl ?_
  refine r_if_eq C (t := 35) (q := 8) d_M_mayMeet_5 (by decide) rfl (fun c5 => ?_) (fun c5 => ?_)
  · replace hf := ite_t c5 hf
    refine r_iconst C (q := 36) d_M_mayMeet_35 rfl ?_
    exact r_zreturn C (by decide) hf d_M_mayMeet_36
  · replace hf := ite_f c5 hf
    refine r_aload_n C (q := 9) 0 d_M_mayMeet_8 rfl rfl rfl ?_
    refine r_iload_n C (q := 10) 2 d_M_mayMeet_9 rfl rfl rfl ?_
    obtain ⟨r10, s10, hg10, hf⟩ := bd_s hf
    refine r_cVI C (q := 13) (As := [vI v2]) (k0 := 0) (c_m_isKnown C.i hg10) mt_M_isKnown ml_M_151 (Nat.le_of_ble_eq_true rfl) rfl rfl rfl rfl rfl rfl ⟨Nat.le_of_ble_eq_true rfl, Nat.le_of_ble_eq_true rfl⟩ rfl (Nat.le_of_ble_eq_true rfl) d_M_mayMeet_10 rfl ?_
    refine r_if_eq C (t := 35) (q := 16) d_M_mayMeet_13 (by decide) rfl (fun c13 => ?_) (fun c13 => ?_)
    · replace hf := ite_t c13 hf
      refine r_iconst C (q := 36) d_M_mayMeet_35 rfl ?_
      exact r_zreturn C (by decide) hf d_M_mayMeet_36
    · replace hf := ite_f c13 hf
      refine r_aload_n C (q := 17) 0 d_M_mayMeet_16 rfl rfl rfl ?_
      refine gxm_M_registerOf C (q := 20) fl_M_7 d_M_mayMeet_17 rfl ?_
      refine r_iload_n C (q := 21) 1 d_M_mayMeet_20 rfl rfl rfl ?_
      obtain ⟨g21, hf⟩ := gd_s hf
      refine r_iald C (q := 22) 1 (Nat.le_of_ble_eq_true rfl) (fun _ => rfl) 0 rfl g21 (by decide) d_M_mayMeet_21 rfl ?_
      refine r_aload_n C (q := 23) 0 d_M_mayMeet_22 rfl rfl rfl ?_
      refine gxm_M_registerOf C (q := 26) fl_M_7 d_M_mayMeet_23 rfl ?_
      refine r_iload_n C (q := 27) 2 d_M_mayMeet_26 rfl rfl rfl ?_
      obtain ⟨g27, hf⟩ := gd_s hf
      refine r_iald C (q := 28) 1 (Nat.le_of_ble_eq_true rfl) (fun _ => rfl) 0 rfl g27 (by decide) d_M_mayMeet_27 rfl ?_
      refine r_ic_eq C (t := 35) (q := 31) d_M_mayMeet_28 (by decide) rfl (fun c28 => ?_) (fun c28 => ?_)
      · replace hf := ite_t c28 hf
        refine r_iconst C (q := 36) d_M_mayMeet_35 rfl ?_
        exact r_zreturn C (by decide) hf d_M_mayMeet_36
      · replace hf := ite_f c28 hf
        refine r_iconst C (q := 32) d_M_mayMeet_31 rfl ?_
        refine r_goto C (q := 36) d_M_mayMeet_32 (by decide) ?_
        exact r_zreturn C (by decide) hf d_M_mayMeet_36
def m_alikeBy_185 (N : Nat) (v1 v2 v4 t0 t1 : Int) (s : St) : MM := if eq32 v4 0 then (some (or32 (or32 t1 t0) 0, s)) else (gd (inb v1 36) (if eq32 (s 6 v1) ((-1)) then (some (or32 (or32 t1 t0) 0, s)) else (gd (inb v1 36) (gd (inb v2 36) (if eq32 (s 6 v1) (s 6 v2) then (some (or32 (or32 t1 t0) 32, s)) else (some (or32 (or32 t1 t0) 0, s)))))))
def m_alikeBy_137 (N : Nat) (v1 v2 v4 t0 t1 : Int) (s : St) : MM := gd (inb v1 36) (gd (inb (((10 * v1) + (s 3 v1)) - 1) 360) (gd (inb v2 36) (gd (inb (((10 * v2) + (s 3 v2)) - 1) 360) (if eq32 (s 2 (((10 * v1) + (s 3 v1)) - 1)) (s 2 (((10 * v2) + (s 3 v2)) - 1)) then (m_alikeBy_185 N v1 v2 v4 16 (or32 t1 t0) s) else (m_alikeBy_185 N v1 v2 v4 0 (or32 t1 t0) s)))))
def m_alikeBy_136 (N : Nat) (v1 v2 v4 t0 : Int) (s : St) : MM := m_alikeBy_137 N v1 v2 v4 0 t0 s
def m_alikeBy_103 (N : Nat) (v1 v2 v4 t0 t1 : Int) (s : St) : MM := gd (inb v1 36) (if eq32 (s 5 v1) ((-1)) then (m_alikeBy_136 N v1 v2 v4 (or32 t1 t0) s) else (gd (inb v1 36) (gd (inb v2 36) (if eq32 (s 5 v1) (s 5 v2) then (m_alikeBy_137 N v1 v2 v4 8 (or32 t1 t0) s) else (m_alikeBy_136 N v1 v2 v4 (or32 t1 t0) s)))))
def m_alikeBy_102 (N : Nat) (v1 v2 v4 t0 : Int) (s : St) : MM := m_alikeBy_103 N v1 v2 v4 0 t0 s
def m_alikeBy_54 (N : Nat) (v1 v2 v4 t0 t1 : Int) (s : St) : MM := gd (inb v1 36) (if eq32 (s 4 v1) ((-1)) then (m_alikeBy_102 N v1 v2 v4 (or32 t1 t0) s) else (gd (inb v2 36) (if eq32 (s 4 v2) ((-1)) then (m_alikeBy_102 N v1 v2 v4 (or32 t1 t0) s) else (gd (inb v1 36) (gd (inb v2 36) (if eq32 (dv32 (s 4 v1) 10) (dv32 (s 4 v2) 10) then (m_alikeBy_103 N v1 v2 v4 4 (or32 t1 t0) s) else (m_alikeBy_102 N v1 v2 v4 (or32 t1 t0) s)))))))
def m_alikeBy_41 (N : Nat) (v1 v2 v3 t0 : Int) (s : St) : MM := if eq32 t0 0 then (m_alikeBy_54 N v1 v2 t0 0 v3 s) else (m_alikeBy_54 N v1 v2 t0 2 v3 s)
def m_alikeBy_14 (N : Nat) (v1 v2 t0 : Int) (s : St) : MM := gd (inb (10 * v1) 360) (gd (inb (10 * v2) 360) (if eq32 (s 2 (10 * v1)) (s 2 (10 * v2)) then (m_alikeBy_41 N v1 v2 t0 1 s) else (m_alikeBy_41 N v1 v2 t0 0 s)))
def m_alikeBy (N : Nat) (v1 v2 : Int) (s : St) : MM := bd (m_soundAlike N v1 v2 s) (fun r3 s3 => if eq32 r3 0 then (m_alikeBy_14 N v1 v2 0 s3) else (m_alikeBy_14 N v1 v2 1 s3))
abbrev rm_m_alikeBy : Room := { frames := 5, cells := 0, slots := 0, locals := 119 }
theorem s_m_alikeBy_185 {X : CxT} {l : Launch} {G : GG} (C : Cx X l (mW G) 5 prog_14_method_64_code "OneSelfModel" (wo y_M_alikeBy prog_14_method_64_code 5 (some .int)) (some .int) rm_m_alikeBy) {o : Int × St} {N : Nat} {v1 v2 v4 t0 t1 : Int} {s : St} (hf : m_alikeBy_185 N v1 v2 v4 t0 t1 s = some o) : Rj X (mW G) 5 (qI X (mW G) o) 185 [(0, .ref ((mW G).h 0)), (1, vI v1), (2, vI v2), (4, vI v4)] [vI t0, vI t1] s := by
  unfold m_alikeBy_185 at hf
  refine r_ior C (q := 186) d_M_alikeBy_185 rfl ?_
  refine r_istore_n C (q := 187) (lv' := [(3, vI (or32 t1 t0)), (0, .ref ((mW G).h 0)), (1, vI v1), (2, vI v2), (4, vI v4)]) d_M_alikeBy_186 rfl (by decide) rfl rfl ?_
  refine r_iload_n C (q := 188) 0 d_M_alikeBy_187 rfl rfl rfl ?_
  refine r_iload C (q := 190) 4 d_M_alikeBy_188 rfl rfl ?_
  refine r_if_eq C (t := 223) (q := 193) d_M_alikeBy_190 (by decide) rfl (fun c190 => ?_) (fun c190 => ?_)
  · replace hf := ite_t c190 hf
    refine r_iconst C (q := 224) d_M_alikeBy_223 rfl ?_
    refine r_ior C (q := 225) d_M_alikeBy_224 rfl ?_
    exact r_ireturn C hf d_M_alikeBy_225
  · replace hf := ite_f c190 hf
    refine r_aload_n C (q := 194) 1 d_M_alikeBy_193 rfl rfl rfl ?_
    refine gxm_M_sortOf C (q := 197) fl_M_25 d_M_alikeBy_194 rfl ?_
    refine r_iload_n C (q := 198) 2 d_M_alikeBy_197 rfl rfl rfl ?_
    obtain ⟨g198, hf⟩ := gd_s hf
    refine r_iald C (q := 199) 6 (Nat.le_of_ble_eq_true rfl) (fun _ => rfl) 0 rfl g198 (by decide) d_M_alikeBy_198 rfl ?_
    refine r_iconst C (q := 200) d_M_alikeBy_199 rfl ?_
    refine r_ic_eq C (t := 223) (q := 203) d_M_alikeBy_200 (by decide) rfl (fun c200 => ?_) (fun c200 => ?_)
    · replace hf := ite_t c200 hf
      refine r_iconst C (q := 224) d_M_alikeBy_223 rfl ?_
      refine r_ior C (q := 225) d_M_alikeBy_224 rfl ?_
      exact r_ireturn C hf d_M_alikeBy_225
    · replace hf := ite_f c200 hf
      refine r_aload_n C (q := 204) 1 d_M_alikeBy_203 rfl rfl rfl ?_
      refine gxm_M_sortOf C (q := 207) fl_M_25 d_M_alikeBy_204 rfl ?_
      refine r_iload_n C (q := 208) 2 d_M_alikeBy_207 rfl rfl rfl ?_
      obtain ⟨g208, hf⟩ := gd_s hf
      refine r_iald C (q := 209) 6 (Nat.le_of_ble_eq_true rfl) (fun _ => rfl) 0 rfl g208 (by decide) d_M_alikeBy_208 rfl ?_
      refine r_aload_n C (q := 210) 1 d_M_alikeBy_209 rfl rfl rfl ?_
      refine gxm_M_sortOf C (q := 213) fl_M_25 d_M_alikeBy_210 rfl ?_
      refine r_iload_n C (q := 214) 3 d_M_alikeBy_213 rfl rfl rfl ?_
      obtain ⟨g214, hf⟩ := gd_s hf
      refine r_iald C (q := 215) 6 (Nat.le_of_ble_eq_true rfl) (fun _ => rfl) 0 rfl g214 (by decide) d_M_alikeBy_214 rfl ?_
      refine r_ic_ne C (t := 223) (q := 218) d_M_alikeBy_215 (by decide) rfl (fun c215 => ?_) (fun c215 => ?_)
      · replace hf := ite_t c215 hf
        refine r_bipush C (q := 220) (x := 32) d_M_alikeBy_218 rfl rfl ?_
        refine r_goto C (q := 224) d_M_alikeBy_220 (by decide) ?_
        refine r_ior C (q := 225) d_M_alikeBy_224 rfl ?_
        exact r_ireturn C hf d_M_alikeBy_225
      · replace hf := ite_f c215 hf
        refine r_iconst C (q := 224) d_M_alikeBy_223 rfl ?_
        refine r_ior C (q := 225) d_M_alikeBy_224 rfl ?_
        exact r_ireturn C hf d_M_alikeBy_225
theorem s_m_alikeBy_137 {X : CxT} {l : Launch} {G : GG} (C : Cx X l (mW G) 5 prog_14_method_64_code "OneSelfModel" (wo y_M_alikeBy prog_14_method_64_code 5 (some .int)) (some .int) rm_m_alikeBy) {o : Int × St} {N : Nat} {v1 v2 v4 t0 t1 : Int} {s : St} (hf : m_alikeBy_137 N v1 v2 v4 t0 t1 s = some o) : Rj X (mW G) 5 (qI X (mW G) o) 137 [(0, .ref ((mW G).h 0)), (1, vI v1), (2, vI v2), (4, vI v4)] [vI t0, vI t1] s := by
  unfold m_alikeBy_137 at hf
  refine r_ior C (q := 138) d_M_alikeBy_137 rfl ?_
  refine r_istore_n C (q := 139) (lv' := [(3, vI (or32 t1 t0)), (0, .ref ((mW G).h 0)), (1, vI v1), (2, vI v2), (4, vI v4)]) d_M_alikeBy_138 rfl (by decide) rfl rfl ?_
  refine r_iload_n C (q := 140) 0 d_M_alikeBy_139 rfl rfl rfl ?_
  refine r_aload_n C (q := 141) 1 d_M_alikeBy_140 rfl rfl rfl ?_
  refine gxm_M_letters C (q := 144) fl_M_13 d_M_alikeBy_141 rfl ?_
  refine r_bipush C (q := 146) (x := 10) d_M_alikeBy_144 rfl rfl ?_
  refine r_iload_n C (q := 147) 2 d_M_alikeBy_146 rfl rfl rfl ?_
  refine r_imul C (q := 148) d_M_alikeBy_147 rfl ?_
  refine r_aload_n C (q := 149) 1 d_M_alikeBy_148 rfl rfl rfl ?_
  refine gxm_M_lengths C (q := 152) fl_M_16 d_M_alikeBy_149 rfl ?_
  refine r_iload_n C (q := 153) 2 d_M_alikeBy_152 rfl rfl rfl ?_
  obtain ⟨g153, hf⟩ := gd_s hf
  refine r_iald C (q := 154) 3 (Nat.le_of_ble_eq_true rfl) (fun _ => rfl) 0 rfl g153 (by decide) d_M_alikeBy_153 rfl ?_
  refine r_iadd C (q := 155) d_M_alikeBy_154 rfl ?_
  refine r_iconst C (q := 156) d_M_alikeBy_155 rfl ?_
  refine r_isub C (q := 157) d_M_alikeBy_156 rfl ?_
  obtain ⟨g157, hf⟩ := gd_s hf
  refine r_iald C (q := 158) 2 (Nat.le_of_ble_eq_true rfl) (fun _ => rfl) 0 rfl g157 (by decide) d_M_alikeBy_157 rfl ?_
  refine r_aload_n C (q := 159) 1 d_M_alikeBy_158 rfl rfl rfl ?_
  refine gxm_M_letters C (q := 162) fl_M_13 d_M_alikeBy_159 rfl ?_
  refine r_bipush C (q := 164) (x := 10) d_M_alikeBy_162 rfl rfl ?_
  refine r_iload_n C (q := 165) 3 d_M_alikeBy_164 rfl rfl rfl ?_
  refine r_imul C (q := 166) d_M_alikeBy_165 rfl ?_
  refine r_aload_n C (q := 167) 1 d_M_alikeBy_166 rfl rfl rfl ?_
  refine gxm_M_lengths C (q := 170) fl_M_16 d_M_alikeBy_167 rfl ?_
  refine r_iload_n C (q := 171) 3 d_M_alikeBy_170 rfl rfl rfl ?_
  obtain ⟨g171, hf⟩ := gd_s hf
  refine r_iald C (q := 172) 3 (Nat.le_of_ble_eq_true rfl) (fun _ => rfl) 0 rfl g171 (by decide) d_M_alikeBy_171 rfl ?_
  refine r_iadd C (q := 173) d_M_alikeBy_172 rfl ?_
  refine r_iconst C (q := 174) d_M_alikeBy_173 rfl ?_
  refine r_isub C (q := 175) d_M_alikeBy_174 rfl ?_
  obtain ⟨g175, hf⟩ := gd_s hf
  refine r_iald C (q := 176) 2 (Nat.le_of_ble_eq_true rfl) (fun _ => rfl) 0 rfl g175 (by decide) d_M_alikeBy_175 rfl ?_
  refine r_ic_ne C (t := 184) (q := 179) d_M_alikeBy_176 (by decide) rfl (fun c176 => ?_) (fun c176 => ?_)
  · replace hf := ite_t c176 hf
    refine r_bipush C (q := 181) (x := 16) d_M_alikeBy_179 rfl rfl ?_
    refine r_goto C (q := 185) d_M_alikeBy_181 (by decide) ?_
    exact r_sub [1, 2, 3, 4] rfl (s_m_alikeBy_185 C hf)
  · replace hf := ite_f c176 hf
    refine r_iconst C (q := 185) d_M_alikeBy_184 rfl ?_
    exact r_sub [1, 2, 3, 4] rfl (s_m_alikeBy_185 C hf)
theorem s_m_alikeBy_136 {X : CxT} {l : Launch} {G : GG} (C : Cx X l (mW G) 5 prog_14_method_64_code "OneSelfModel" (wo y_M_alikeBy prog_14_method_64_code 5 (some .int)) (some .int) rm_m_alikeBy) {o : Int × St} {N : Nat} {v1 v2 v4 t0 : Int} {s : St} (hf : m_alikeBy_136 N v1 v2 v4 t0 s = some o) : Rj X (mW G) 5 (qI X (mW G) o) 136 [(0, .ref ((mW G).h 0)), (1, vI v1), (2, vI v2), (4, vI v4)] [vI t0] s := by
  unfold m_alikeBy_136 at hf
  refine r_iconst C (q := 137) d_M_alikeBy_136 rfl ?_
  exact r_sub [0, 1, 2, 3] rfl (s_m_alikeBy_137 C hf)
theorem s_m_alikeBy_103 {X : CxT} {l : Launch} {G : GG} (C : Cx X l (mW G) 5 prog_14_method_64_code "OneSelfModel" (wo y_M_alikeBy prog_14_method_64_code 5 (some .int)) (some .int) rm_m_alikeBy) {o : Int × St} {N : Nat} {v1 v2 v4 t0 t1 : Int} {s : St} (hf : m_alikeBy_103 N v1 v2 v4 t0 t1 s = some o) : Rj X (mW G) 5 (qI X (mW G) o) 103 [(0, .ref ((mW G).h 0)), (1, vI v1), (2, vI v2), (4, vI v4)] [vI t0, vI t1] s := by
  unfold m_alikeBy_103 at hf
  refine r_ior C (q := 104) d_M_alikeBy_103 rfl ?_
  refine r_istore_n C (q := 105) (lv' := [(3, vI (or32 t1 t0)), (0, .ref ((mW G).h 0)), (1, vI v1), (2, vI v2), (4, vI v4)]) d_M_alikeBy_104 rfl (by decide) rfl rfl ?_
  refine r_iload_n C (q := 106) 0 d_M_alikeBy_105 rfl rfl rfl ?_
  refine r_aload_n C (q := 107) 1 d_M_alikeBy_106 rfl rfl rfl ?_
  refine gxm_M_placeOf C (q := 110) fl_M_22 d_M_alikeBy_107 rfl ?_
  refine r_iload_n C (q := 111) 2 d_M_alikeBy_110 rfl rfl rfl ?_
  obtain ⟨g111, hf⟩ := gd_s hf
  refine r_iald C (q := 112) 5 (Nat.le_of_ble_eq_true rfl) (fun _ => rfl) 0 rfl g111 (by decide) d_M_alikeBy_111 rfl ?_
  refine r_iconst C (q := 113) d_M_alikeBy_112 rfl ?_
  refine r_ic_eq C (t := 136) (q := 116) d_M_alikeBy_113 (by decide) rfl (fun c113 => ?_) (fun c113 => ?_)
  · replace hf := ite_t c113 hf
    exact r_sub [1, 2, 3, 4] rfl (s_m_alikeBy_136 C hf)
  · replace hf := ite_f c113 hf
    refine r_aload_n C (q := 117) 1 d_M_alikeBy_116 rfl rfl rfl ?_
    refine gxm_M_placeOf C (q := 120) fl_M_22 d_M_alikeBy_117 rfl ?_
    refine r_iload_n C (q := 121) 2 d_M_alikeBy_120 rfl rfl rfl ?_
    obtain ⟨g121, hf⟩ := gd_s hf
    refine r_iald C (q := 122) 5 (Nat.le_of_ble_eq_true rfl) (fun _ => rfl) 0 rfl g121 (by decide) d_M_alikeBy_121 rfl ?_
    refine r_aload_n C (q := 123) 1 d_M_alikeBy_122 rfl rfl rfl ?_
    refine gxm_M_placeOf C (q := 126) fl_M_22 d_M_alikeBy_123 rfl ?_
    refine r_iload_n C (q := 127) 3 d_M_alikeBy_126 rfl rfl rfl ?_
    obtain ⟨g127, hf⟩ := gd_s hf
    refine r_iald C (q := 128) 5 (Nat.le_of_ble_eq_true rfl) (fun _ => rfl) 0 rfl g127 (by decide) d_M_alikeBy_127 rfl ?_
    refine r_ic_ne C (t := 136) (q := 131) d_M_alikeBy_128 (by decide) rfl (fun c128 => ?_) (fun c128 => ?_)
    · replace hf := ite_t c128 hf
      refine r_bipush C (q := 133) (x := 8) d_M_alikeBy_131 rfl rfl ?_
      refine r_goto C (q := 137) d_M_alikeBy_133 (by decide) ?_
      exact r_sub [1, 2, 3, 4] rfl (s_m_alikeBy_137 C hf)
    · replace hf := ite_f c128 hf
      exact r_sub [1, 2, 3, 4] rfl (s_m_alikeBy_136 C hf)
theorem s_m_alikeBy_102 {X : CxT} {l : Launch} {G : GG} (C : Cx X l (mW G) 5 prog_14_method_64_code "OneSelfModel" (wo y_M_alikeBy prog_14_method_64_code 5 (some .int)) (some .int) rm_m_alikeBy) {o : Int × St} {N : Nat} {v1 v2 v4 t0 : Int} {s : St} (hf : m_alikeBy_102 N v1 v2 v4 t0 s = some o) : Rj X (mW G) 5 (qI X (mW G) o) 102 [(0, .ref ((mW G).h 0)), (1, vI v1), (2, vI v2), (4, vI v4)] [vI t0] s := by
  unfold m_alikeBy_102 at hf
  refine r_iconst C (q := 103) d_M_alikeBy_102 rfl ?_
  exact r_sub [0, 1, 2, 3] rfl (s_m_alikeBy_103 C hf)
theorem s_m_alikeBy_54 {X : CxT} {l : Launch} {G : GG} (C : Cx X l (mW G) 5 prog_14_method_64_code "OneSelfModel" (wo y_M_alikeBy prog_14_method_64_code 5 (some .int)) (some .int) rm_m_alikeBy) {o : Int × St} {N : Nat} {v1 v2 v4 t0 t1 : Int} {s : St} (hf : m_alikeBy_54 N v1 v2 v4 t0 t1 s = some o) : Rj X (mW G) 5 (qI X (mW G) o) 54 [(0, .ref ((mW G).h 0)), (1, vI v1), (2, vI v2), (4, vI v4)] [vI t0, vI t1] s := by
  unfold m_alikeBy_54 at hf
  refine r_ior C (q := 55) d_M_alikeBy_54 rfl ?_
  refine r_istore_n C (q := 56) (lv' := [(3, vI (or32 t1 t0)), (0, .ref ((mW G).h 0)), (1, vI v1), (2, vI v2), (4, vI v4)]) d_M_alikeBy_55 rfl (by decide) rfl rfl ?_
  refine r_iload_n C (q := 57) 0 d_M_alikeBy_56 rfl rfl rfl ?_
  refine r_aload_n C (q := 58) 1 d_M_alikeBy_57 rfl rfl rfl ?_
  refine gxm_M_yearOf C (q := 61) fl_M_19 d_M_alikeBy_58 rfl ?_
  refine r_iload_n C (q := 62) 2 d_M_alikeBy_61 rfl rfl rfl ?_
  obtain ⟨g62, hf⟩ := gd_s hf
  refine r_iald C (q := 63) 4 (Nat.le_of_ble_eq_true rfl) (fun _ => rfl) 0 rfl g62 (by decide) d_M_alikeBy_62 rfl ?_
  refine r_iconst C (q := 64) d_M_alikeBy_63 rfl ?_
  refine r_ic_eq C (t := 102) (q := 67) d_M_alikeBy_64 (by decide) rfl (fun c64 => ?_) (fun c64 => ?_)
  · replace hf := ite_t c64 hf
    exact r_sub [1, 2, 3, 4] rfl (s_m_alikeBy_102 C hf)
  · replace hf := ite_f c64 hf
    refine r_aload_n C (q := 68) 1 d_M_alikeBy_67 rfl rfl rfl ?_
    refine gxm_M_yearOf C (q := 71) fl_M_19 d_M_alikeBy_68 rfl ?_
    refine r_iload_n C (q := 72) 3 d_M_alikeBy_71 rfl rfl rfl ?_
    obtain ⟨g72, hf⟩ := gd_s hf
    refine r_iald C (q := 73) 4 (Nat.le_of_ble_eq_true rfl) (fun _ => rfl) 0 rfl g72 (by decide) d_M_alikeBy_72 rfl ?_
    refine r_iconst C (q := 74) d_M_alikeBy_73 rfl ?_
    refine r_ic_eq C (t := 102) (q := 77) d_M_alikeBy_74 (by decide) rfl (fun c74 => ?_) (fun c74 => ?_)
    · replace hf := ite_t c74 hf
      exact r_sub [1, 2, 3, 4] rfl (s_m_alikeBy_102 C hf)
    · replace hf := ite_f c74 hf
      refine r_aload_n C (q := 78) 1 d_M_alikeBy_77 rfl rfl rfl ?_
      refine gxm_M_yearOf C (q := 81) fl_M_19 d_M_alikeBy_78 rfl ?_
      refine r_iload_n C (q := 82) 2 d_M_alikeBy_81 rfl rfl rfl ?_
      obtain ⟨g82, hf⟩ := gd_s hf
      refine r_iald C (q := 83) 4 (Nat.le_of_ble_eq_true rfl) (fun _ => rfl) 0 rfl g82 (by decide) d_M_alikeBy_82 rfl ?_
      refine r_bipush C (q := 85) (x := 10) d_M_alikeBy_83 rfl rfl ?_
      refine r_idiv C (q := 86) (by decide) d_M_alikeBy_85 rfl ?_
      refine r_aload_n C (q := 87) 1 d_M_alikeBy_86 rfl rfl rfl ?_
      refine gxm_M_yearOf C (q := 90) fl_M_19 d_M_alikeBy_87 rfl ?_
      refine r_iload_n C (q := 91) 3 d_M_alikeBy_90 rfl rfl rfl ?_
      obtain ⟨g91, hf⟩ := gd_s hf
      refine r_iald C (q := 92) 4 (Nat.le_of_ble_eq_true rfl) (fun _ => rfl) 0 rfl g91 (by decide) d_M_alikeBy_91 rfl ?_
      refine r_bipush C (q := 94) (x := 10) d_M_alikeBy_92 rfl rfl ?_
      refine r_idiv C (q := 95) (by decide) d_M_alikeBy_94 rfl ?_
      refine r_ic_ne C (t := 102) (q := 98) d_M_alikeBy_95 (by decide) rfl (fun c95 => ?_) (fun c95 => ?_)
      · replace hf := ite_t c95 hf
        refine r_iconst C (q := 99) d_M_alikeBy_98 rfl ?_
        refine r_goto C (q := 103) d_M_alikeBy_99 (by decide) ?_
        exact r_sub [1, 2, 3, 4] rfl (s_m_alikeBy_103 C hf)
      · replace hf := ite_f c95 hf
        exact r_sub [1, 2, 3, 4] rfl (s_m_alikeBy_102 C hf)
theorem s_m_alikeBy_41 {X : CxT} {l : Launch} {G : GG} (C : Cx X l (mW G) 5 prog_14_method_64_code "OneSelfModel" (wo y_M_alikeBy prog_14_method_64_code 5 (some .int)) (some .int) rm_m_alikeBy) {o : Int × St} {N : Nat} {v1 v2 v3 t0 : Int} {s : St} (hf : m_alikeBy_41 N v1 v2 v3 t0 s = some o) : Rj X (mW G) 5 (qI X (mW G) o) 41 [(0, .ref ((mW G).h 0)), (1, vI v1), (2, vI v2), (3, vI v3)] [vI t0] s := by
  unfold m_alikeBy_41 at hf
  refine r_istore C (q := 43) (lv' := [(4, vI t0), (0, .ref ((mW G).h 0)), (1, vI v1), (2, vI v2), (3, vI v3)]) d_M_alikeBy_41 (by decide) rfl rfl ?_
  refine r_iload_n C (q := 44) 4 d_M_alikeBy_43 rfl rfl rfl ?_
  refine r_iload C (q := 46) 0 d_M_alikeBy_44 rfl rfl ?_
  refine r_if_eq C (t := 53) (q := 49) d_M_alikeBy_46 (by decide) rfl (fun c46 => ?_) (fun c46 => ?_)
  · replace hf := ite_t c46 hf
    refine r_iconst C (q := 54) d_M_alikeBy_53 rfl ?_
    exact r_sub [1, 2, 3, 0] rfl (s_m_alikeBy_54 C hf)
  · replace hf := ite_f c46 hf
    refine r_iconst C (q := 50) d_M_alikeBy_49 rfl ?_
    refine r_goto C (q := 54) d_M_alikeBy_50 (by decide) ?_
    exact r_sub [1, 2, 3, 0] rfl (s_m_alikeBy_54 C hf)
theorem s_m_alikeBy_14 {X : CxT} {l : Launch} {G : GG} (C : Cx X l (mW G) 5 prog_14_method_64_code "OneSelfModel" (wo y_M_alikeBy prog_14_method_64_code 5 (some .int)) (some .int) rm_m_alikeBy) {o : Int × St} {N : Nat} {v1 v2 t0 : Int} {s : St} (hf : m_alikeBy_14 N v1 v2 t0 s = some o) : Rj X (mW G) 5 (qI X (mW G) o) 14 [(0, .ref ((mW G).h 0)), (1, vI v1), (2, vI v2)] [vI t0] s := by
  unfold m_alikeBy_14 at hf
  refine r_istore_n C (q := 15) (lv' := [(3, vI t0), (0, .ref ((mW G).h 0)), (1, vI v1), (2, vI v2)]) d_M_alikeBy_14 rfl (by decide) rfl rfl ?_
  refine r_aload_n C (q := 16) 1 d_M_alikeBy_15 rfl rfl rfl ?_
  refine gxm_M_letters C (q := 19) fl_M_13 d_M_alikeBy_16 rfl ?_
  refine r_bipush C (q := 21) (x := 10) d_M_alikeBy_19 rfl rfl ?_
  refine r_iload_n C (q := 22) 2 d_M_alikeBy_21 rfl rfl rfl ?_
  refine r_imul C (q := 23) d_M_alikeBy_22 rfl ?_
  obtain ⟨g23, hf⟩ := gd_s hf
  refine r_iald C (q := 24) 2 (Nat.le_of_ble_eq_true rfl) (fun _ => rfl) 0 rfl g23 (by decide) d_M_alikeBy_23 rfl ?_
  refine r_aload_n C (q := 25) 1 d_M_alikeBy_24 rfl rfl rfl ?_
  refine gxm_M_letters C (q := 28) fl_M_13 d_M_alikeBy_25 rfl ?_
  refine r_bipush C (q := 30) (x := 10) d_M_alikeBy_28 rfl rfl ?_
  refine r_iload_n C (q := 31) 3 d_M_alikeBy_30 rfl rfl rfl ?_
  refine r_imul C (q := 32) d_M_alikeBy_31 rfl ?_
  obtain ⟨g32, hf⟩ := gd_s hf
  refine r_iald C (q := 33) 2 (Nat.le_of_ble_eq_true rfl) (fun _ => rfl) 0 rfl g32 (by decide) d_M_alikeBy_32 rfl ?_
  refine r_ic_ne C (t := 40) (q := 36) d_M_alikeBy_33 (by decide) rfl (fun c33 => ?_) (fun c33 => ?_)
  · replace hf := ite_t c33 hf
    refine r_iconst C (q := 37) d_M_alikeBy_36 rfl ?_
    refine r_goto C (q := 41) d_M_alikeBy_37 (by decide) ?_
    exact r_sub [1, 2, 3, 0] rfl (s_m_alikeBy_41 C hf)
  · replace hf := ite_f c33 hf
    refine r_iconst C (q := 41) d_M_alikeBy_40 rfl ?_
    exact r_sub [1, 2, 3, 0] rfl (s_m_alikeBy_41 C hf)
theorem c_m_alikeBy {l : Launch} {G : GG} (hi : wo_i (mW G)) {N : Nat} {v1 v2 : Int} {s : St} {o : Int × St} (hf : m_alikeBy N v1 v2 s = some o) : CtI l (mW G) y_M_alikeBy (wo y_M_alikeBy prog_14_method_64_code 5 (some .int)) rm_m_alikeBy [.ref ((mW G).h 0), vI v1, vI v2] s o := by
  refine ct_I (by decide +kernel) hi (Nat.le_of_ble_eq_true rfl) fun X C => ?_
  unfold m_alikeBy at hf
  show Rj X (mW G) 5 (qI X (mW G) o) 0 [(0, .ref ((mW G).h 0)), (1, vI v1), (2, vI v2)] [] s
  refine r_aload_n C (q := 1) 0 d_M_alikeBy_0 rfl rfl rfl ?_
  refine r_iload_n C (q := 2) 1 d_M_alikeBy_1 rfl rfl rfl ?_
  refine r_iload_n C (q := 3) 2 d_M_alikeBy_2 rfl rfl rfl ?_
  obtain ⟨r3, s3, hg3, hf⟩ := bd_s hf
  refine r_cVI C (q := 6) (As := [vI v1, vI v2]) (k0 := 0) (c_m_soundAlike C.i hg3) mt_M_soundAlike ml_M_184 (Nat.le_of_ble_eq_true rfl) rfl rfl rfl rfl rfl rfl ⟨Nat.le_of_ble_eq_true rfl, Nat.le_of_ble_eq_true rfl⟩ rfl (Nat.le_of_ble_eq_true rfl) d_M_alikeBy_3 rfl ?_
  refine r_if_eq C (t := 13) (q := 9) d_M_alikeBy_6 (by decide) rfl (fun c6 => ?_) (fun c6 => ?_)
  · replace hf := ite_t c6 hf
    refine r_iconst C (q := 14) d_M_alikeBy_13 rfl ?_
    exact r_sub [0, 1, 2] rfl (s_m_alikeBy_14 C hf)
  · replace hf := ite_f c6 hf
    refine r_iconst C (q := 10) d_M_alikeBy_9 rfl ?_
    refine r_goto C (q := 14) d_M_alikeBy_10 (by decide) ?_
    exact r_sub [0, 1, 2] rfl (s_m_alikeBy_14 C hf)
def m_meet (N : Nat) (v1 v2 v3 : Int) (s : St) : MM := bd (m_areTwo N v1 v2 s) (fun r3 s3 => if eq32 r3 0 then (some ((-2), s3)) else (bd (m_in N v3 0 63 s3) (fun r13 s13 => if eq32 r13 0 then (some ((-2), s13)) else (bd (m_mayMeet N v1 v2 s13) (fun r25 s25 => if eq32 r25 0 then (some ((-3), s25)) else (bd (m_alikeBy N v1 v2 s25) (fun r39 s39 => if eq32 (an32 r39 v3) 0 then (some (0, s39)) else (some (1, s39)))))))))
abbrev rm_m_meet : Room := { frames := 6, cells := 0, slots := 0, locals := 143 }
theorem c_m_meet {l : Launch} {G : GG} (hi : wo_i (mW G)) {N : Nat} {v1 v2 v3 : Int} {s : St} {o : Int × St} (hf : m_meet N v1 v2 v3 s = some o) : CtI l (mW G) y_M_meet (wo y_M_meet prog_14_method_66_code 4 (some .int)) rm_m_meet [.ref ((mW G).h 0), vI v1, vI v2, vI v3] s o := by
  refine ct_I (by decide +kernel) hi (Nat.le_of_ble_eq_true rfl) fun X C => ?_
  unfold m_meet at hf
  show Rj X (mW G) 4 (qI X (mW G) o) 0 [(0, .ref ((mW G).h 0)), (1, vI v1), (2, vI v2), (3, vI v3)] [] s
  refine r_aload_n C (q := 1) 0 d_M_meet_0 rfl rfl rfl ?_
  refine r_iload_n C (q := 2) 1 d_M_meet_1 rfl rfl rfl ?_
  refine r_iload_n C (q := 3) 2 d_M_meet_2 rfl rfl rfl ?_
  obtain ⟨r3, s3, hg3, hf⟩ := bd_s hf
  refine r_cVI C (q := 6) (As := [vI v1, vI v2]) (k0 := 0) (c_m_areTwo C.i hg3) mt_M_areTwo ml_M_194 (Nat.le_of_ble_eq_true rfl) rfl rfl rfl rfl rfl rfl ⟨Nat.le_of_ble_eq_true rfl, Nat.le_of_ble_eq_true rfl⟩ rfl (Nat.le_of_ble_eq_true rfl) d_M_meet_3 rfl ?_
  refine r_if_eq C (t := 19) (q := 9) d_M_meet_6 (by decide) rfl (fun c6 => ?_) (fun c6 => ?_)
  · replace hf := ite_t c6 hf
    refine r_bipush C (q := 21) (x := (-2)) d_M_meet_19 rfl rfl ?_
    exact r_ireturn C hf d_M_meet_21
  · replace hf := ite_f c6 hf
    refine r_iload_n C (q := 10) 3 d_M_meet_9 rfl rfl rfl ?_
    refine r_iconst C (q := 11) d_M_meet_10 rfl ?_
    refine r_bipush C (q := 13) (x := 63) d_M_meet_11 rfl rfl ?_
    obtain ⟨r13, s13, hg13, hf⟩ := bd_s hf
    refine r_cSI C (q := 16) (As := [vI v3, vI 0, vI 63]) (c_m_in C.i hg13) mt_M_in ml_M_133 rfl rfl rfl ⟨Nat.le_of_ble_eq_true rfl, Nat.le_of_ble_eq_true rfl⟩ rfl (Nat.le_of_ble_eq_true rfl) d_M_meet_13 rfl ?_
    refine r_if_ne C (t := 22) (q := 19) d_M_meet_16 (by decide) rfl (fun c16 => ?_) (fun c16 => ?_)
    · replace hf := ite_t c16 hf
      refine r_bipush C (q := 21) (x := (-2)) d_M_meet_19 rfl rfl ?_
      exact r_ireturn C hf d_M_meet_21
    · replace hf := ite_f c16 hf
      refine r_aload_n C (q := 23) 0 d_M_meet_22 rfl rfl rfl ?_
      refine r_iload_n C (q := 24) 1 d_M_meet_23 rfl rfl rfl ?_
      refine r_iload_n C (q := 25) 2 d_M_meet_24 rfl rfl rfl ?_
      obtain ⟨r25, s25, hg25, hf⟩ := bd_s hf
      refine r_cVI C (q := 28) (As := [vI v1, vI v2]) (k0 := 0) (c_m_mayMeet C.i hg25) mt_M_mayMeet ml_M_283 (Nat.le_of_ble_eq_true rfl) rfl rfl rfl rfl rfl rfl ⟨Nat.le_of_ble_eq_true rfl, Nat.le_of_ble_eq_true rfl⟩ rfl (Nat.le_of_ble_eq_true rfl) d_M_meet_25 rfl ?_
      refine r_if_ne C (t := 36) (q := 31) d_M_meet_28 (by decide) rfl (fun c28 => ?_) (fun c28 => ?_)
      · replace hf := ite_t c28 hf
        refine r_bipush C (q := 33) (x := (-3)) d_M_meet_31 rfl rfl ?_
        refine r_goto C (q := 52) d_M_meet_33 (by decide) ?_
        exact r_ireturn C hf d_M_meet_52
      · replace hf := ite_f c28 hf
        refine r_aload_n C (q := 37) 0 d_M_meet_36 rfl rfl rfl ?_
        refine r_iload_n C (q := 38) 1 d_M_meet_37 rfl rfl rfl ?_
        refine r_iload_n C (q := 39) 2 d_M_meet_38 rfl rfl rfl ?_
        obtain ⟨r39, s39, hg39, hf⟩ := bd_s hf
        refine r_cVI C (q := 42) (As := [vI v1, vI v2]) (k0 := 0) (c_m_alikeBy C.i hg39) mt_M_alikeBy ml_M_286 (Nat.le_of_ble_eq_true rfl) rfl rfl rfl rfl rfl rfl ⟨Nat.le_of_ble_eq_true rfl, Nat.le_of_ble_eq_true rfl⟩ rfl (Nat.le_of_ble_eq_true rfl) d_M_meet_39 rfl ?_
        refine r_iload_n C (q := 43) 3 d_M_meet_42 rfl rfl rfl ?_
        refine r_iand C (q := 44) d_M_meet_43 rfl ?_
        refine r_if_eq C (t := 51) (q := 47) d_M_meet_44 (by decide) rfl (fun c44 => ?_) (fun c44 => ?_)
        · replace hf := ite_t c44 hf
          refine r_iconst C (q := 52) d_M_meet_51 rfl ?_
          exact r_ireturn C hf d_M_meet_52
        · replace hf := ite_f c44 hf
          refine r_iconst C (q := 48) d_M_meet_47 rfl ?_
          refine r_goto C (q := 52) d_M_meet_48 (by decide) ?_
          exact r_ireturn C hf d_M_meet_52
def m_counts_69 (N : Nat) (k30 : Int → St → MM) (k40 : Int → St → MM) (v1 v2 : Int) (s : St) : MM := k40 (v2 + 1) s
def m_counts_40 (N : Nat) (k30 : Int → St → MM) (v1 : Int) (k40 : Int → St → MM) (v2 : Int) (s : St) : MM := if le32 v1 v2 then (k30 (v1 + 1) s) else (bd (m_mayMeet N v1 v2 s) (fun r48 s48 => if eq32 r48 0 then (m_counts_69 N k30 k40 v1 v2  s48) else (bd (m_alikeBy N v1 v2 s48) (fun r61 s61 => gd (inb r61 64) (gd (inb r61 64) (m_counts_69 N k30 k40 v1 v2  (su s61 31 r61 ((s61 31 r61) + 1))))))))
def m_counts_141 (N : Nat) (k83 : Int → St → MM) (v1 : Int) (s : St) : MM := k83 (v1 + 1) s
def m_counts_83 (N : Nat) (k83 : Int → St → MM) (v1 : Int) (s : St) : MM := if le32 (s 0 37) v1 then (some (0, s)) else (gd (inb v1 40) (if eq32 (s 27 v1) 0 then (m_counts_141 N k83 v1  s) else (gd (inb v1 40) (gd (inb v1 40) (bd (m_mayMeet N (s 25 v1) (s 26 v1) s) (fun r113 s113 => if eq32 r113 0 then (m_counts_141 N k83 v1  s113) else (gd (inb v1 40) (gd (inb v1 40) (bd (m_alikeBy N (s113 25 v1) (s113 26 v1) s113) (fun r136 s136 => gd (inb r136 64) (m_counts_141 N k83 v1  (su s136 32 r136 1))))))))))))
def m_counts_30 (N : Nat) (k30 : Int → St → MM) (v1 : Int) (s : St) : MM := if le32 (s 0 1) v1 then (itr (m_counts_83 N ) (fun _ _ => none) N 0 s) else (itr (m_counts_40 N k30 v1) (fun _ _ => none) N 0 s)
def m_counts_2 (N : Nat) (k2 : Int → St → MM) (v1 : Int) (s : St) : MM := if le32 64 v1 then (itr (m_counts_30 N ) (fun _ _ => none) N 0 s) else (gd (inb v1 64) (gd (inb v1 64) (k2 (v1 + 1) (su (su s 31 v1 0) 32 v1 0))))
def m_counts (N : Nat) (s : St) : MM := itr (m_counts_2 N ) (fun _ _ => none) N 0 s
abbrev rm_m_counts : Room := { frames := 6, cells := 0, slots := 0, locals := 143 }
theorem s_m_counts_69 {X : CxT} {l : Launch} {G : GG} (C : Cx X l (mW G) 3 prog_14_method_67_code "OneSelfModel" (wo y_M_counts prog_14_method_67_code 3 none) none rm_m_counts) {o : Int × St} {N : Nat} {v1 v2 : Int} {k30 : Int → St → MM} (hk30 : ∀ (u1 : Int) (s : St), k30 u1 s = some o → Rj X (mW G) 3 (qV X (mW G) o) 30 [(0, .ref ((mW G).h 0)), (1, vI u1)] [] s) {k40 : Int → St → MM} (hk40 : ∀ (u2 : Int) (s : St), k40 u2 s = some o → Rj X (mW G) 3 (qV X (mW G) o) 40 [(0, .ref ((mW G).h 0)), (1, vI v1), (2, vI u2)] [] s) {s : St} (hf : m_counts_69 N k30 k40 v1 v2 s = some o) : Rj X (mW G) 3 (qV X (mW G) o) 69 [(0, .ref ((mW G).h 0)), (1, vI v1), (2, vI v2)] [] s := by
  unfold m_counts_69 at hf
  refine r_iinc C (q := 72) (lv' := [(2, vI (v2 + 1)), (0, .ref ((mW G).h 0)), (1, vI v1)]) 2 d_M_counts_69 rfl (by decide) rfl rfl ?_
  refine r_goto C (q := 40) d_M_counts_72 (by decide) ?_
  exact r_sub [1, 2, 0] rfl (hk40 _ _  hf)
theorem s_m_counts_40 {X : CxT} {l : Launch} {G : GG} (C : Cx X l (mW G) 3 prog_14_method_67_code "OneSelfModel" (wo y_M_counts prog_14_method_67_code 3 none) none rm_m_counts) {o : Int × St} {N : Nat} {v1 v2 : Int} {k30 : Int → St → MM} (hk30 : ∀ (u1 : Int) (s : St), k30 u1 s = some o → Rj X (mW G) 3 (qV X (mW G) o) 30 [(0, .ref ((mW G).h 0)), (1, vI u1)] [] s) {k40 : Int → St → MM} (hk40 : ∀ (u2 : Int) (s : St), k40 u2 s = some o → Rj X (mW G) 3 (qV X (mW G) o) 40 [(0, .ref ((mW G).h 0)), (1, vI v1), (2, vI u2)] [] s) {s : St} (hf : m_counts_40 N k30 v1 k40 v2 s = some o) : Rj X (mW G) 3 (qV X (mW G) o) 40 [(0, .ref ((mW G).h 0)), (1, vI v1), (2, vI v2)] [] s := by
  unfold m_counts_40 at hf
  refine r_iload_n C (q := 41) 2 d_M_counts_40 rfl rfl rfl ?_
  refine r_iload_n C (q := 42) 1 d_M_counts_41 rfl rfl rfl ?_
  refine r_ic_ge C (t := 75) (q := 45) d_M_counts_42 (by decide) rfl (fun c42 => ?_) (fun c42 => ?_)
  · replace hf := ite_t c42 hf
    refine r_iinc C (q := 78) (lv' := [(1, vI (v1 + 1)), (0, .ref ((mW G).h 0)), (2, vI v2)]) 1 d_M_counts_75 rfl (by decide) rfl rfl ?_
    refine r_goto C (q := 30) d_M_counts_78 (by decide) ?_
    exact r_sub [1, 0] rfl (hk30 _ _  hf)
  · replace hf := ite_f c42 hf
    refine r_aload_n C (q := 46) 0 d_M_counts_45 rfl rfl rfl ?_
    refine r_iload_n C (q := 47) 1 d_M_counts_46 rfl rfl rfl ?_
    refine r_iload_n C (q := 48) 2 d_M_counts_47 rfl rfl rfl ?_
    obtain ⟨r48, s48, hg48, hf⟩ := bd_s hf
    refine r_cVI C (q := 51) (As := [vI v1, vI v2]) (k0 := 0) (c_m_mayMeet C.i hg48) mt_M_mayMeet ml_M_283 (Nat.le_of_ble_eq_true rfl) rfl rfl rfl rfl rfl rfl ⟨Nat.le_of_ble_eq_true rfl, Nat.le_of_ble_eq_true rfl⟩ rfl (Nat.le_of_ble_eq_true rfl) d_M_counts_48 rfl ?_
    refine r_if_eq C (t := 69) (q := 54) d_M_counts_51 (by decide) rfl (fun c51 => ?_) (fun c51 => ?_)
    · replace hf := ite_t c51 hf
      exact r_sub [0, 1, 2] rfl (s_m_counts_69 C hk30 hk40 hf)
    · replace hf := ite_f c51 hf
      refine r_aload_n C (q := 55) 0 d_M_counts_54 rfl rfl rfl ?_
      refine gxm_M_alikes C (q := 58) fl_M_109 d_M_counts_55 rfl ?_
      refine r_aload_n C (q := 59) 0 d_M_counts_58 rfl rfl rfl ?_
      refine r_iload_n C (q := 60) 1 d_M_counts_59 rfl rfl rfl ?_
      refine r_iload_n C (q := 61) 2 d_M_counts_60 rfl rfl rfl ?_
      obtain ⟨r61, s61, hg61, hf⟩ := bd_s hf
      refine r_cVI C (q := 64) (As := [vI v1, vI v2]) (k0 := 0) (c_m_alikeBy C.i hg61) mt_M_alikeBy ml_M_286 (Nat.le_of_ble_eq_true rfl) rfl rfl rfl rfl rfl rfl ⟨Nat.le_of_ble_eq_true rfl, Nat.le_of_ble_eq_true rfl⟩ rfl (Nat.le_of_ble_eq_true rfl) d_M_counts_61 rfl ?_
      refine r_dup2 C (q := 65) d_M_counts_64 rfl rfl rfl ?_
      obtain ⟨g65, hf⟩ := gd_s hf
      refine r_iald C (q := 66) 31 (Nat.le_of_ble_eq_true rfl) (fun _ => rfl) 0 rfl g65 (by decide) d_M_counts_65 rfl ?_
      refine r_iconst C (q := 67) d_M_counts_66 rfl ?_
      refine r_iadd C (q := 68) d_M_counts_67 rfl ?_
      obtain ⟨g68, hf⟩ := gd_s hf
      refine r_iast C (q := 69) 31 (Nat.le_of_ble_eq_true rfl) (fun _ => rfl) 0 rfl g68 (by decide) d_M_counts_68 rfl ?_
      exact r_sub [0, 1, 2] rfl (s_m_counts_69 C hk30 hk40 hf)
theorem s_m_counts_141 {X : CxT} {l : Launch} {G : GG} (C : Cx X l (mW G) 3 prog_14_method_67_code "OneSelfModel" (wo y_M_counts prog_14_method_67_code 3 none) none rm_m_counts) {o : Int × St} {N : Nat} {v1 : Int} {k83 : Int → St → MM} (hk83 : ∀ (u1 : Int) (s : St), k83 u1 s = some o → Rj X (mW G) 3 (qV X (mW G) o) 83 [(0, .ref ((mW G).h 0)), (1, vI u1)] [] s) {s : St} (hf : m_counts_141 N k83 v1 s = some o) : Rj X (mW G) 3 (qV X (mW G) o) 141 [(0, .ref ((mW G).h 0)), (1, vI v1)] [] s := by
  unfold m_counts_141 at hf
  refine r_iinc C (q := 144) (lv' := [(1, vI (v1 + 1)), (0, .ref ((mW G).h 0))]) 1 d_M_counts_141 rfl (by decide) rfl rfl ?_
  refine r_goto C (q := 83) d_M_counts_144 (by decide) ?_
  exact r_sub [1, 0] rfl (hk83 _ _  hf)
theorem s_m_counts_83 {X : CxT} {l : Launch} {G : GG} (C : Cx X l (mW G) 3 prog_14_method_67_code "OneSelfModel" (wo y_M_counts prog_14_method_67_code 3 none) none rm_m_counts) {o : Int × St} {N : Nat} {v1 : Int} {k83 : Int → St → MM} (hk83 : ∀ (u1 : Int) (s : St), k83 u1 s = some o → Rj X (mW G) 3 (qV X (mW G) o) 83 [(0, .ref ((mW G).h 0)), (1, vI u1)] [] s) {s : St} (hf : m_counts_83 N  k83 v1 s = some o) : Rj X (mW G) 3 (qV X (mW G) o) 83 [(0, .ref ((mW G).h 0)), (1, vI v1)] [] s := by
  unfold m_counts_83 at hf
  refine r_iload_n C (q := 84) 1 d_M_counts_83 rfl rfl rfl ?_
  refine r_aload_n C (q := 85) 0 d_M_counts_84 rfl rfl rfl ?_
  refine gxm_M_checks C (q := 88) fl_M_265 d_M_counts_85 rfl ?_
  refine r_ic_ge C (t := 147) (q := 91) d_M_counts_88 (by decide) rfl (fun c88 => ?_) (fun c88 => ?_)
  · replace hf := ite_t c88 hf
    exact r_return C hf d_M_counts_147
  · replace hf := ite_f c88 hf
    refine r_aload_n C (q := 92) 0 d_M_counts_91 rfl rfl rfl ?_
    refine gxm_M_checkOne C (q := 95) fl_M_96 d_M_counts_92 rfl ?_
    refine r_iload_n C (q := 96) 1 d_M_counts_95 rfl rfl rfl ?_
    obtain ⟨g96, hf⟩ := gd_s hf
    refine r_zald C (q := 97) 27 (Nat.le_of_ble_eq_true rfl) (fun _ => rfl) 2 rfl g96 (by decide) d_M_counts_96 rfl ?_
    refine r_if_eq C (t := 141) (q := 100) d_M_counts_97 (by decide) rfl (fun c97 => ?_) (fun c97 => ?_)
    · replace hf := ite_t c97 hf
      exact r_sub [0, 1] rfl (s_m_counts_141 C hk83 hf)
    · replace hf := ite_f c97 hf
      refine r_aload_n C (q := 101) 0 d_M_counts_100 rfl rfl rfl ?_
      refine r_aload_n C (q := 102) 0 d_M_counts_101 rfl rfl rfl ?_
      refine gxm_M_checkA C (q := 105) fl_M_90 d_M_counts_102 rfl ?_
      refine r_iload_n C (q := 106) 1 d_M_counts_105 rfl rfl rfl ?_
      obtain ⟨g106, hf⟩ := gd_s hf
      refine r_iald C (q := 107) 25 (Nat.le_of_ble_eq_true rfl) (fun _ => rfl) 0 rfl g106 (by decide) d_M_counts_106 rfl ?_
      refine r_aload_n C (q := 108) 0 d_M_counts_107 rfl rfl rfl ?_
      refine gxm_M_checkB C (q := 111) fl_M_93 d_M_counts_108 rfl ?_
      refine r_iload_n C (q := 112) 1 d_M_counts_111 rfl rfl rfl ?_
      obtain ⟨g112, hf⟩ := gd_s hf
      refine r_iald C (q := 113) 26 (Nat.le_of_ble_eq_true rfl) (fun _ => rfl) 0 rfl g112 (by decide) d_M_counts_112 rfl ?_
      obtain ⟨r113, s113, hg113, hf⟩ := bd_s hf
      refine r_cVI C (q := 116) (As := [vI (s 25 v1), vI (s 26 v1)]) (k0 := 0) (c_m_mayMeet C.i hg113) mt_M_mayMeet ml_M_283 (Nat.le_of_ble_eq_true rfl) rfl rfl rfl rfl rfl rfl ⟨Nat.le_of_ble_eq_true rfl, Nat.le_of_ble_eq_true rfl⟩ rfl (Nat.le_of_ble_eq_true rfl) d_M_counts_113 rfl ?_
      refine r_if_eq C (t := 141) (q := 119) d_M_counts_116 (by decide) rfl (fun c116 => ?_) (fun c116 => ?_)
      · replace hf := ite_t c116 hf
        exact r_sub [0, 1] rfl (s_m_counts_141 C hk83 hf)
      · replace hf := ite_f c116 hf
        refine r_aload_n C (q := 120) 0 d_M_counts_119 rfl rfl rfl ?_
        refine gxm_M_isTrue C (q := 123) fl_M_112 d_M_counts_120 rfl ?_
        refine r_aload_n C (q := 124) 0 d_M_counts_123 rfl rfl rfl ?_
        refine r_aload_n C (q := 125) 0 d_M_counts_124 rfl rfl rfl ?_
        refine gxm_M_checkA C (q := 128) fl_M_90 d_M_counts_125 rfl ?_
        refine r_iload_n C (q := 129) 1 d_M_counts_128 rfl rfl rfl ?_
        obtain ⟨g129, hf⟩ := gd_s hf
        refine r_iald C (q := 130) 25 (Nat.le_of_ble_eq_true rfl) (fun _ => rfl) 0 rfl g129 (by decide) d_M_counts_129 rfl ?_
        refine r_aload_n C (q := 131) 0 d_M_counts_130 rfl rfl rfl ?_
        refine gxm_M_checkB C (q := 134) fl_M_93 d_M_counts_131 rfl ?_
        refine r_iload_n C (q := 135) 1 d_M_counts_134 rfl rfl rfl ?_
        obtain ⟨g135, hf⟩ := gd_s hf
        refine r_iald C (q := 136) 26 (Nat.le_of_ble_eq_true rfl) (fun _ => rfl) 0 rfl g135 (by decide) d_M_counts_135 rfl ?_
        obtain ⟨r136, s136, hg136, hf⟩ := bd_s hf
        refine r_cVI C (q := 139) (As := [vI (s113 25 v1), vI (s113 26 v1)]) (k0 := 0) (c_m_alikeBy C.i hg136) mt_M_alikeBy ml_M_286 (Nat.le_of_ble_eq_true rfl) rfl rfl rfl rfl rfl rfl ⟨Nat.le_of_ble_eq_true rfl, Nat.le_of_ble_eq_true rfl⟩ rfl (Nat.le_of_ble_eq_true rfl) d_M_counts_136 rfl ?_
        refine r_iconst C (q := 140) d_M_counts_139 rfl ?_
        obtain ⟨g140, hf⟩ := gd_s hf
        refine r_zast C (q := 141) 32 (Nat.le_of_ble_eq_true rfl) (fun _ => rfl) 2 rfl g140 (by decide) (by decide) d_M_counts_140 rfl ?_
        exact r_sub [0, 1] rfl (s_m_counts_141 C hk83 hf)
theorem s_m_counts_30 {X : CxT} {l : Launch} {G : GG} (C : Cx X l (mW G) 3 prog_14_method_67_code "OneSelfModel" (wo y_M_counts prog_14_method_67_code 3 none) none rm_m_counts) {o : Int × St} {N : Nat} {v1 : Int} {k30 : Int → St → MM} (hk30 : ∀ (u1 : Int) (s : St), k30 u1 s = some o → Rj X (mW G) 3 (qV X (mW G) o) 30 [(0, .ref ((mW G).h 0)), (1, vI u1)] [] s) {s : St} (hf : m_counts_30 N  k30 v1 s = some o) : Rj X (mW G) 3 (qV X (mW G) o) 30 [(0, .ref ((mW G).h 0)), (1, vI v1)] [] s := by
  unfold m_counts_30 at hf
  refine r_iload_n C (q := 31) 1 d_M_counts_30 rfl rfl rfl ?_
  refine r_aload_n C (q := 32) 0 d_M_counts_31 rfl rfl rfl ?_
  refine gxm_M_rows C (q := 35) fl_M_130 d_M_counts_32 rfl ?_
  refine r_ic_ge C (t := 81) (q := 38) d_M_counts_35 (by decide) rfl (fun c35 => ?_) (fun c35 => ?_)
  · replace hf := ite_t c35 hf
    refine r_iconst C (q := 82) d_M_counts_81 rfl ?_
    refine r_istore_n C (q := 83) (lv' := [(1, vI 0), (0, .ref ((mW G).h 0))]) d_M_counts_82 rfl (by decide) rfl rfl ?_
    have hL : ∀ (u1 : Int) (z : St), itr (m_counts_83 N ) (fun _ _ => none) N u1 z = some o → Rj X (mW G) 3 (qV X (mW G) o) 83 [(0, .ref ((mW G).h 0)), (1, vI u1)] [] z := itr_ind (m_counts_83 N ) (fun _ _ => none) (fun k => ∀ (u1 : Int) (z : St), k u1 z = some o → Rj X (mW G) 3 (qV X (mW G) o) 83 [(0, .ref ((mW G).h 0)), (1, vI u1)] [] z) (fun _ _  h => by cases h) (fun k hk u1 z h => s_m_counts_83 C hk h) N
    exact r_sub [1, 0] rfl (hL _ _  hf)
  · replace hf := ite_f c35 hf
    refine r_iconst C (q := 39) d_M_counts_38 rfl ?_
    refine r_istore_n C (q := 40) (lv' := [(2, vI 0), (0, .ref ((mW G).h 0)), (1, vI v1)]) d_M_counts_39 rfl (by decide) rfl rfl ?_
    have hL : ∀ (u2 : Int) (z : St), itr (m_counts_40 N k30 v1) (fun _ _ => none) N u2 z = some o → Rj X (mW G) 3 (qV X (mW G) o) 40 [(0, .ref ((mW G).h 0)), (1, vI v1), (2, vI u2)] [] z := itr_ind (m_counts_40 N k30 v1) (fun _ _ => none) (fun k => ∀ (u2 : Int) (z : St), k u2 z = some o → Rj X (mW G) 3 (qV X (mW G) o) 40 [(0, .ref ((mW G).h 0)), (1, vI v1), (2, vI u2)] [] z) (fun _ _  h => by cases h) (fun k hk u2 z h => s_m_counts_40 C hk30 hk h) N
    exact r_sub [1, 2, 0] rfl (hL _ _  hf)
theorem s_m_counts_2 {X : CxT} {l : Launch} {G : GG} (C : Cx X l (mW G) 3 prog_14_method_67_code "OneSelfModel" (wo y_M_counts prog_14_method_67_code 3 none) none rm_m_counts) {o : Int × St} {N : Nat} {v1 : Int} {k2 : Int → St → MM} (hk2 : ∀ (u1 : Int) (s : St), k2 u1 s = some o → Rj X (mW G) 3 (qV X (mW G) o) 2 [(0, .ref ((mW G).h 0)), (1, vI u1)] [] s) {s : St} (hf : m_counts_2 N  k2 v1 s = some o) : Rj X (mW G) 3 (qV X (mW G) o) 2 [(0, .ref ((mW G).h 0)), (1, vI v1)] [] s := by
  unfold m_counts_2 at hf
  refine r_iload_n C (q := 3) 1 d_M_counts_2 rfl rfl rfl ?_
  refine r_bipush C (q := 5) (x := 64) d_M_counts_3 rfl rfl ?_
  refine r_ic_ge C (t := 28) (q := 8) d_M_counts_5 (by decide) rfl (fun c5 => ?_) (fun c5 => ?_)
  · replace hf := ite_t c5 hf
    refine r_iconst C (q := 29) d_M_counts_28 rfl ?_
    refine r_istore_n C (q := 30) (lv' := [(1, vI 0), (0, .ref ((mW G).h 0))]) d_M_counts_29 rfl (by decide) rfl rfl ?_
    have hL : ∀ (u1 : Int) (z : St), itr (m_counts_30 N ) (fun _ _ => none) N u1 z = some o → Rj X (mW G) 3 (qV X (mW G) o) 30 [(0, .ref ((mW G).h 0)), (1, vI u1)] [] z := itr_ind (m_counts_30 N ) (fun _ _ => none) (fun k => ∀ (u1 : Int) (z : St), k u1 z = some o → Rj X (mW G) 3 (qV X (mW G) o) 30 [(0, .ref ((mW G).h 0)), (1, vI u1)] [] z) (fun _ _  h => by cases h) (fun k hk u1 z h => s_m_counts_30 C hk h) N
    exact r_sub [1, 0] rfl (hL _ _  hf)
  · replace hf := ite_f c5 hf
    refine r_aload_n C (q := 9) 0 d_M_counts_8 rfl rfl rfl ?_
    refine gxm_M_alikes C (q := 12) fl_M_109 d_M_counts_9 rfl ?_
    refine r_iload_n C (q := 13) 1 d_M_counts_12 rfl rfl rfl ?_
    refine r_iconst C (q := 14) d_M_counts_13 rfl ?_
    obtain ⟨g14, hf⟩ := gd_s hf
    refine r_iast C (q := 15) 31 (Nat.le_of_ble_eq_true rfl) (fun _ => rfl) 0 rfl g14 (by decide) d_M_counts_14 rfl ?_
    refine r_aload_n C (q := 16) 0 d_M_counts_15 rfl rfl rfl ?_
    refine gxm_M_isTrue C (q := 19) fl_M_112 d_M_counts_16 rfl ?_
    refine r_iload_n C (q := 20) 1 d_M_counts_19 rfl rfl rfl ?_
    refine r_iconst C (q := 21) d_M_counts_20 rfl ?_
    obtain ⟨g21, hf⟩ := gd_s hf
    refine r_zast C (q := 22) 32 (Nat.le_of_ble_eq_true rfl) (fun _ => rfl) 2 rfl g21 (by decide) (by decide) d_M_counts_21 rfl ?_
    refine r_iinc C (q := 25) (lv' := [(1, vI (v1 + 1)), (0, .ref ((mW G).h 0))]) 1 d_M_counts_22 rfl (by decide) rfl rfl ?_
    refine r_goto C (q := 2) d_M_counts_25 (by decide) ?_
    exact r_sub [1, 0] rfl (hk2 _ _  hf)
theorem c_m_counts {l : Launch} {G : GG} (hi : wo_i (mW G)) {N : Nat} {s : St} {o : Int × St} (hf : m_counts N s = some o) : CtV l (mW G) y_M_counts (wo y_M_counts prog_14_method_67_code 3 none) rm_m_counts [.ref ((mW G).h 0)] s o := by
  refine ct_V (by decide +kernel) hi (Nat.le_of_ble_eq_true rfl) fun X C => ?_
  unfold m_counts at hf
  show Rj X (mW G) 3 (qV X (mW G) o) 0 [(0, .ref ((mW G).h 0))] [] s
  refine r_iconst C (q := 1) d_M_counts_0 rfl ?_
  refine r_istore_n C (q := 2) (lv' := [(1, vI 0), (0, .ref ((mW G).h 0))]) d_M_counts_1 rfl (by decide) rfl rfl ?_
  have hL : ∀ (u1 : Int) (z : St), itr (m_counts_2 N ) (fun _ _ => none) N u1 z = some o → Rj X (mW G) 3 (qV X (mW G) o) 2 [(0, .ref ((mW G).h 0)), (1, vI u1)] [] z := itr_ind (m_counts_2 N ) (fun _ _ => none) (fun k => ∀ (u1 : Int) (z : St), k u1 z = some o → Rj X (mW G) 3 (qV X (mW G) o) 2 [(0, .ref ((mW G).h 0)), (1, vI u1)] [] z) (fun _ _  h => by cases h) (fun k hk u1 z h => s_m_counts_2 C hk h) N
  exact r_sub [1, 0] rfl (hL _ _  hf)
def m_pairsOf_27 (N : Nat) (k4 : Int → Int → St → MM) (v1 v3 t0 t1 : Int) (s : St) : MM := k4 (t1 + t0) (v3 + 1) s
def m_pairsOf_4 (N : Nat) (v1 : Int) (k4 : Int → Int → St → MM) (v2 v3 : Int) (s : St) : MM := if le32 64 v3 then (some (v2, s)) else (if eq32 (an32 v3 v1) 0 then (m_pairsOf_27 N k4 v1 v3 0 v2 s) else (gd (inb v3 64) (m_pairsOf_27 N k4 v1 v3 (s 31 v3) v2 s)))
def m_pairsOf (N : Nat) (v1 : Int) (s : St) : MM := itr (m_pairsOf_4 N v1) (fun _ _ _ => none) N 0 0 s
abbrev rm_m_pairsOf : Room := { frames := 0, cells := 0, slots := 0, locals := 0 }
theorem s_m_pairsOf_27 {X : CxT} {l : Launch} {G : GG} (C : Cx X l (mW G) 4 prog_14_method_68_code "OneSelfModel" (wo y_M_pairsOf prog_14_method_68_code 4 (some .int)) (some .int) rm_m_pairsOf) {o : Int × St} {N : Nat} {v1 v3 t0 t1 : Int} {k4 : Int → Int → St → MM} (hk4 : ∀ (u2 u3 : Int) (s : St), k4 u2 u3 s = some o → Rj X (mW G) 4 (qI X (mW G) o) 4 [(0, .ref ((mW G).h 0)), (1, vI v1), (2, vI u2), (3, vI u3)] [] s) {s : St} (hf : m_pairsOf_27 N k4 v1 v3 t0 t1 s = some o) : Rj X (mW G) 4 (qI X (mW G) o) 27 [(0, .ref ((mW G).h 0)), (1, vI v1), (3, vI v3)] [vI t0, vI t1] s := by
  unfold m_pairsOf_27 at hf
  refine r_iadd C (q := 28) d_M_pairsOf_27 rfl ?_
  refine r_istore_n C (q := 29) (lv' := [(2, vI (t1 + t0)), (0, .ref ((mW G).h 0)), (1, vI v1), (3, vI v3)]) d_M_pairsOf_28 rfl (by decide) rfl rfl ?_
  refine r_iinc C (q := 32) (lv' := [(3, vI (v3 + 1)), (2, vI (t1 + t0)), (0, .ref ((mW G).h 0)), (1, vI v1)]) 3 d_M_pairsOf_29 rfl (by decide) rfl rfl ?_
  refine r_goto C (q := 4) d_M_pairsOf_32 (by decide) ?_
  exact r_sub [2, 3, 1, 0] rfl (hk4 _ _ _  hf)
theorem s_m_pairsOf_4 {X : CxT} {l : Launch} {G : GG} (C : Cx X l (mW G) 4 prog_14_method_68_code "OneSelfModel" (wo y_M_pairsOf prog_14_method_68_code 4 (some .int)) (some .int) rm_m_pairsOf) {o : Int × St} {N : Nat} {v1 v2 v3 : Int} {k4 : Int → Int → St → MM} (hk4 : ∀ (u2 u3 : Int) (s : St), k4 u2 u3 s = some o → Rj X (mW G) 4 (qI X (mW G) o) 4 [(0, .ref ((mW G).h 0)), (1, vI v1), (2, vI u2), (3, vI u3)] [] s) {s : St} (hf : m_pairsOf_4 N v1 k4 v2 v3 s = some o) : Rj X (mW G) 4 (qI X (mW G) o) 4 [(0, .ref ((mW G).h 0)), (1, vI v1), (2, vI v2), (3, vI v3)] [] s := by
  unfold m_pairsOf_4 at hf
  refine r_iload_n C (q := 5) 3 d_M_pairsOf_4 rfl rfl rfl ?_
  refine r_bipush C (q := 7) (x := 64) d_M_pairsOf_5 rfl rfl ?_
  refine r_ic_ge C (t := 35) (q := 10) d_M_pairsOf_7 (by decide) rfl (fun c7 => ?_) (fun c7 => ?_)
  · replace hf := ite_t c7 hf
    refine r_iload_n C (q := 36) 2 d_M_pairsOf_35 rfl rfl rfl ?_
    exact r_ireturn C hf d_M_pairsOf_36
  · replace hf := ite_f c7 hf
    refine r_iload_n C (q := 11) 2 d_M_pairsOf_10 rfl rfl rfl ?_
    refine r_iload_n C (q := 12) 3 d_M_pairsOf_11 rfl rfl rfl ?_
    refine r_iload_n C (q := 13) 1 d_M_pairsOf_12 rfl rfl rfl ?_
    refine r_iand C (q := 14) d_M_pairsOf_13 rfl ?_
    refine r_if_ne C (t := 21) (q := 17) d_M_pairsOf_14 (by decide) rfl (fun c14 => ?_) (fun c14 => ?_)
    · replace hf := ite_t c14 hf
      refine r_iconst C (q := 18) d_M_pairsOf_17 rfl ?_
      refine r_goto C (q := 27) d_M_pairsOf_18 (by decide) ?_
      exact r_sub [0, 1, 3] rfl (s_m_pairsOf_27 C hk4 hf)
    · replace hf := ite_f c14 hf
      refine r_aload_n C (q := 22) 0 d_M_pairsOf_21 rfl rfl rfl ?_
      refine gxm_M_alikes C (q := 25) fl_M_109 d_M_pairsOf_22 rfl ?_
      refine r_iload_n C (q := 26) 3 d_M_pairsOf_25 rfl rfl rfl ?_
      obtain ⟨g26, hf⟩ := gd_s hf
      refine r_iald C (q := 27) 31 (Nat.le_of_ble_eq_true rfl) (fun _ => rfl) 0 rfl g26 (by decide) d_M_pairsOf_26 rfl ?_
      exact r_sub [0, 1, 3] rfl (s_m_pairsOf_27 C hk4 hf)
theorem c_m_pairsOf {l : Launch} {G : GG} (hi : wo_i (mW G)) {N : Nat} {v1 : Int} {s : St} {o : Int × St} (hf : m_pairsOf N v1 s = some o) : CtI l (mW G) y_M_pairsOf (wo y_M_pairsOf prog_14_method_68_code 4 (some .int)) rm_m_pairsOf [.ref ((mW G).h 0), vI v1] s o := by
  refine ct_I (by decide +kernel) hi (Nat.le_of_ble_eq_true rfl) fun X C => ?_
  unfold m_pairsOf at hf
  show Rj X (mW G) 4 (qI X (mW G) o) 0 [(0, .ref ((mW G).h 0)), (1, vI v1)] [] s
  refine r_iconst C (q := 1) d_M_pairsOf_0 rfl ?_
  refine r_istore_n C (q := 2) (lv' := [(2, vI 0), (0, .ref ((mW G).h 0)), (1, vI v1)]) d_M_pairsOf_1 rfl (by decide) rfl rfl ?_
  refine r_iconst C (q := 3) d_M_pairsOf_2 rfl ?_
  refine r_istore_n C (q := 4) (lv' := [(3, vI 0), (2, vI 0), (0, .ref ((mW G).h 0)), (1, vI v1)]) d_M_pairsOf_3 rfl (by decide) rfl rfl ?_
  have hL : ∀ (u2 u3 : Int) (z : St), itr (m_pairsOf_4 N v1) (fun _ _ _ => none) N u2 u3 z = some o → Rj X (mW G) 4 (qI X (mW G) o) 4 [(0, .ref ((mW G).h 0)), (1, vI v1), (2, vI u2), (3, vI u3)] [] z := itr_ind (m_pairsOf_4 N v1) (fun _ _ _ => none) (fun k => ∀ (u2 u3 : Int) (z : St), k u2 u3 z = some o → Rj X (mW G) 4 (qI X (mW G) o) 4 [(0, .ref ((mW G).h 0)), (1, vI v1), (2, vI u2), (3, vI u3)] [] z) (fun _ _ _  h => by cases h) (fun k hk u2 u3 z h => s_m_pairsOf_4 C hk h) N
  exact r_sub [2, 3, 1, 0] rfl (hL _ _ _  hf)
def m_pairs (N : Nat) (v1 : Int) (s : St) : MM := bd (m_in N v1 0 63 s) (fun r4 s4 => if eq32 r4 0 then (some ((-2), s4)) else (bd (m_counts N s4) (fun r14 s14 => bd (m_pairsOf N v1 s14) (fun r19 s19 => some (r19, s19)))))
abbrev rm_m_pairs : Room := { frames := 7, cells := 0, slots := 0, locals := 165 }
theorem c_m_pairs {l : Launch} {G : GG} (hi : wo_i (mW G)) {N : Nat} {v1 : Int} {s : St} {o : Int × St} (hf : m_pairs N v1 s = some o) : CtI l (mW G) y_M_pairs (wo y_M_pairs prog_14_method_69_code 2 (some .int)) rm_m_pairs [.ref ((mW G).h 0), vI v1] s o := by
  refine ct_I (by decide +kernel) hi (Nat.le_of_ble_eq_true rfl) fun X C => ?_
  unfold m_pairs at hf
  show Rj X (mW G) 2 (qI X (mW G) o) 0 [(0, .ref ((mW G).h 0)), (1, vI v1)] [] s
  refine r_iload_n C (q := 1) 1 d_M_pairs_0 rfl rfl rfl ?_
  refine r_iconst C (q := 2) d_M_pairs_1 rfl ?_
  refine r_bipush C (q := 4) (x := 63) d_M_pairs_2 rfl rfl ?_
  obtain ⟨r4, s4, hg4, hf⟩ := bd_s hf
  refine r_cSI C (q := 7) (As := [vI v1, vI 0, vI 63]) (c_m_in C.i hg4) mt_M_in ml_M_133 rfl rfl rfl ⟨Nat.le_of_ble_eq_true rfl, Nat.le_of_ble_eq_true rfl⟩ rfl (Nat.le_of_ble_eq_true rfl) d_M_pairs_4 rfl ?_
  refine r_if_ne C (t := 13) (q := 10) d_M_pairs_7 (by decide) rfl (fun c7 => ?_) (fun c7 => ?_)
  · replace hf := ite_t c7 hf
    refine r_bipush C (q := 12) (x := (-2)) d_M_pairs_10 rfl rfl ?_
    exact r_ireturn C hf d_M_pairs_12
  · replace hf := ite_f c7 hf
    refine r_aload_n C (q := 14) 0 d_M_pairs_13 rfl rfl rfl ?_
    obtain ⟨r14, s14, hg14, hf⟩ := bd_s hf
    refine r_cVV C (q := 17) (As := []) (k0 := 0) (c_m_counts C.i hg14) mt_M_counts ml_M_289 (Nat.le_of_ble_eq_true rfl) rfl rfl rfl rfl rfl rfl ⟨Nat.le_of_ble_eq_true rfl, Nat.le_of_ble_eq_true rfl⟩ rfl (Nat.le_of_ble_eq_true rfl) d_M_pairs_14 rfl ?_
    refine r_aload_n C (q := 18) 0 d_M_pairs_17 rfl rfl rfl ?_
    refine r_iload_n C (q := 19) 1 d_M_pairs_18 rfl rfl rfl ?_
    obtain ⟨r19, s19, hg19, hf⟩ := bd_s hf
    refine r_cVI C (q := 22) (As := [vI v1]) (k0 := 0) (c_m_pairsOf C.i hg19) mt_M_pairsOf ml_M_292 (Nat.le_of_ble_eq_true rfl) rfl rfl rfl rfl rfl rfl ⟨Nat.le_of_ble_eq_true rfl, Nat.le_of_ble_eq_true rfl⟩ rfl (Nat.le_of_ble_eq_true rfl) d_M_pairs_19 rfl ?_
    exact r_ireturn C hf d_M_pairs_22
def m_missesNone_25 (N : Nat) (k2 : Int → St → MM) (v1 v2 : Int) (s : St) : MM := k2 (v2 + 1) s
def m_missesNone_2 (N : Nat) (v1 : Int) (k2 : Int → St → MM) (v2 : Int) (s : St) : MM := if le32 64 v2 then (some (1, s)) else (gd (inb v2 64) (if eq32 (s 32 v2) 0 then (m_missesNone_25 N k2 v1 v2  s) else (if eq32 (an32 v2 v1) 0 then (some (0, s)) else (m_missesNone_25 N k2 v1 v2  s))))
def m_missesNone (N : Nat) (v1 : Int) (s : St) : MM := itr (m_missesNone_2 N v1) (fun _ _ => none) N 0 s
abbrev rm_m_missesNone : Room := { frames := 0, cells := 0, slots := 0, locals := 0 }
theorem s_m_missesNone_25 {X : CxT} {l : Launch} {G : GG} (C : Cx X l (mW G) 3 prog_14_method_71_code "OneSelfModel" (wo y_M_missesNone prog_14_method_71_code 3 (some .boolean)) (some .boolean) rm_m_missesNone) {o : Int × St} {N : Nat} {v1 v2 : Int} {k2 : Int → St → MM} (hk2 : ∀ (u2 : Int) (s : St), k2 u2 s = some o → Rj X (mW G) 3 (qI X (mW G) o) 2 [(0, .ref ((mW G).h 0)), (1, vI v1), (2, vI u2)] [] s) {s : St} (hf : m_missesNone_25 N k2 v1 v2 s = some o) : Rj X (mW G) 3 (qI X (mW G) o) 25 [(0, .ref ((mW G).h 0)), (1, vI v1), (2, vI v2)] [] s := by
  unfold m_missesNone_25 at hf
  refine r_iinc C (q := 28) (lv' := [(2, vI (v2 + 1)), (0, .ref ((mW G).h 0)), (1, vI v1)]) 2 d_M_missesNone_25 rfl (by decide) rfl rfl ?_
  refine r_goto C (q := 2) d_M_missesNone_28 (by decide) ?_
  exact r_sub [1, 2, 0] rfl (hk2 _ _  hf)
theorem s_m_missesNone_2 {X : CxT} {l : Launch} {G : GG} (C : Cx X l (mW G) 3 prog_14_method_71_code "OneSelfModel" (wo y_M_missesNone prog_14_method_71_code 3 (some .boolean)) (some .boolean) rm_m_missesNone) {o : Int × St} {N : Nat} {v1 v2 : Int} {k2 : Int → St → MM} (hk2 : ∀ (u2 : Int) (s : St), k2 u2 s = some o → Rj X (mW G) 3 (qI X (mW G) o) 2 [(0, .ref ((mW G).h 0)), (1, vI v1), (2, vI u2)] [] s) {s : St} (hf : m_missesNone_2 N v1 k2 v2 s = some o) : Rj X (mW G) 3 (qI X (mW G) o) 2 [(0, .ref ((mW G).h 0)), (1, vI v1), (2, vI v2)] [] s := by
  unfold m_missesNone_2 at hf
  refine r_iload_n C (q := 3) 2 d_M_missesNone_2 rfl rfl rfl ?_
  refine r_bipush C (q := 5) (x := 64) d_M_missesNone_3 rfl rfl ?_
  refine r_ic_ge C (t := 31) (q := 8) d_M_missesNone_5 (by decide) rfl (fun c5 => ?_) (fun c5 => ?_)
  · replace hf := ite_t c5 hf
    refine r_iconst C (q := 32) d_M_missesNone_31 rfl ?_
    exact r_zreturn C (by decide) hf d_M_missesNone_32
  · replace hf := ite_f c5 hf
    refine r_aload_n C (q := 9) 0 d_M_missesNone_8 rfl rfl rfl ?_
    refine gxm_M_isTrue C (q := 12) fl_M_112 d_M_missesNone_9 rfl ?_
    refine r_iload_n C (q := 13) 2 d_M_missesNone_12 rfl rfl rfl ?_
    obtain ⟨g13, hf⟩ := gd_s hf
    refine r_zald C (q := 14) 32 (Nat.le_of_ble_eq_true rfl) (fun _ => rfl) 2 rfl g13 (by decide) d_M_missesNone_13 rfl ?_
    refine r_if_eq C (t := 25) (q := 17) d_M_missesNone_14 (by decide) rfl (fun c14 => ?_) (fun c14 => ?_)
    · replace hf := ite_t c14 hf
      exact r_sub [0, 1, 2] rfl (s_m_missesNone_25 C hk2 hf)
    · replace hf := ite_f c14 hf
      refine r_iload_n C (q := 18) 2 d_M_missesNone_17 rfl rfl rfl ?_
      refine r_iload_n C (q := 19) 1 d_M_missesNone_18 rfl rfl rfl ?_
      refine r_iand C (q := 20) d_M_missesNone_19 rfl ?_
      refine r_if_ne C (t := 25) (q := 23) d_M_missesNone_20 (by decide) rfl (fun c20 => ?_) (fun c20 => ?_)
      · replace hf := ite_t c20 hf
        refine r_iconst C (q := 24) d_M_missesNone_23 rfl ?_
        exact r_zreturn C (by decide) hf d_M_missesNone_24
      · replace hf := ite_f c20 hf
        exact r_sub [0, 1, 2] rfl (s_m_missesNone_25 C hk2 hf)
theorem c_m_missesNone {l : Launch} {G : GG} (hi : wo_i (mW G)) {N : Nat} {v1 : Int} {s : St} {o : Int × St} (hf : m_missesNone N v1 s = some o) : CtI l (mW G) y_M_missesNone (wo y_M_missesNone prog_14_method_71_code 3 (some .boolean)) rm_m_missesNone [.ref ((mW G).h 0), vI v1] s o := by
  refine ct_I (by decide +kernel) hi (Nat.le_of_ble_eq_true rfl) fun X C => ?_
  unfold m_missesNone at hf
  show Rj X (mW G) 3 (qI X (mW G) o) 0 [(0, .ref ((mW G).h 0)), (1, vI v1)] [] s
  refine r_iconst C (q := 1) d_M_missesNone_0 rfl ?_
  refine r_istore_n C (q := 2) (lv' := [(2, vI 0), (0, .ref ((mW G).h 0)), (1, vI v1)]) d_M_missesNone_1 rfl (by decide) rfl rfl ?_
  have hL : ∀ (u2 : Int) (z : St), itr (m_missesNone_2 N v1) (fun _ _ => none) N u2 z = some o → Rj X (mW G) 3 (qI X (mW G) o) 2 [(0, .ref ((mW G).h 0)), (1, vI v1), (2, vI u2)] [] z := itr_ind (m_missesNone_2 N v1) (fun _ _ => none) (fun k => ∀ (u2 : Int) (z : St), k u2 z = some o → Rj X (mW G) 3 (qI X (mW G) o) 2 [(0, .ref ((mW G).h 0)), (1, vI v1), (2, vI u2)] [] z) (fun _ _  h => by cases h) (fun k hk u2 z h => s_m_missesNone_2 C hk h) N
  exact r_sub [1, 2, 0] rfl (hL _ _  hf)
def m_ones_4 (N : Nat) (v0 : Int) (k4 : Int → Int → St → MM) (v1 v2 : Int) (s : St) : MM := if le32 6 v2 then (some (v1, s)) else (k4 (v1 + (an32 (sr32 v0 v2) 1)) (v2 + 1) s)
def m_ones (N : Nat) (v0 : Int) (s : St) : MM := itr (m_ones_4 N v0) (fun _ _ _ => none) N 0 0 s
abbrev rm_m_ones : Room := { frames := 0, cells := 0, slots := 0, locals := 0 }
theorem s_m_ones_4 {X : CxT} {l : Launch} {G : GG} (C : Cx X l (mW G) 3 prog_14_method_70_code "OneSelfModel" (wo y_M_ones prog_14_method_70_code 3 (some .int)) (some .int) rm_m_ones) {o : Int × St} {N : Nat} {v0 v1 v2 : Int} {k4 : Int → Int → St → MM} (hk4 : ∀ (u1 u2 : Int) (s : St), k4 u1 u2 s = some o → Rj X (mW G) 3 (qI X (mW G) o) 4 [(0, vI v0), (1, vI u1), (2, vI u2)] [] s) {s : St} (hf : m_ones_4 N v0 k4 v1 v2 s = some o) : Rj X (mW G) 3 (qI X (mW G) o) 4 [(0, vI v0), (1, vI v1), (2, vI v2)] [] s := by
  unfold m_ones_4 at hf
  refine r_iload_n C (q := 5) 2 d_M_ones_4 rfl rfl rfl ?_
  refine r_bipush C (q := 7) (x := 6) d_M_ones_5 rfl rfl ?_
  refine r_ic_ge C (t := 24) (q := 10) d_M_ones_7 (by decide) rfl (fun c7 => ?_) (fun c7 => ?_)
  · replace hf := ite_t c7 hf
    refine r_iload_n C (q := 25) 1 d_M_ones_24 rfl rfl rfl ?_
    exact r_ireturn C hf d_M_ones_25
  · replace hf := ite_f c7 hf
    refine r_iload_n C (q := 11) 1 d_M_ones_10 rfl rfl rfl ?_
    refine r_iload_n C (q := 12) 0 d_M_ones_11 rfl rfl rfl ?_
    refine r_iload_n C (q := 13) 2 d_M_ones_12 rfl rfl rfl ?_
    refine r_ishr C (q := 14) d_M_ones_13 rfl ?_
    refine r_iconst C (q := 15) d_M_ones_14 rfl ?_
    refine r_iand C (q := 16) d_M_ones_15 rfl ?_
    refine r_iadd C (q := 17) d_M_ones_16 rfl ?_
    refine r_istore_n C (q := 18) (lv' := [(1, vI (v1 + (an32 (sr32 v0 v2) 1))), (0, vI v0), (2, vI v2)]) d_M_ones_17 rfl (by decide) rfl rfl ?_
    refine r_iinc C (q := 21) (lv' := [(2, vI (v2 + 1)), (1, vI (v1 + (an32 (sr32 v0 v2) 1))), (0, vI v0)]) 2 d_M_ones_18 rfl (by decide) rfl rfl ?_
    refine r_goto C (q := 4) d_M_ones_21 (by decide) ?_
    exact r_sub [2, 1, 0] rfl (hk4 _ _ _  hf)
theorem c_m_ones {l : Launch} {G : GG} (hi : wo_i (mW G)) {N : Nat} {v0 : Int} {s : St} {o : Int × St} (hf : m_ones N v0 s = some o) : CtI l (mW G) y_M_ones (wo y_M_ones prog_14_method_70_code 3 (some .int)) rm_m_ones [vI v0] s o := by
  refine ct_I (by decide +kernel) hi (Nat.le_of_ble_eq_true rfl) fun X C => ?_
  unfold m_ones at hf
  show Rj X (mW G) 3 (qI X (mW G) o) 0 [(0, vI v0)] [] s
  refine r_iconst C (q := 1) d_M_ones_0 rfl ?_
  refine r_istore_n C (q := 2) (lv' := [(1, vI 0), (0, vI v0)]) d_M_ones_1 rfl (by decide) rfl rfl ?_
  refine r_iconst C (q := 3) d_M_ones_2 rfl ?_
  refine r_istore_n C (q := 4) (lv' := [(2, vI 0), (1, vI 0), (0, vI v0)]) d_M_ones_3 rfl (by decide) rfl rfl ?_
  have hL : ∀ (u1 u2 : Int) (z : St), itr (m_ones_4 N v0) (fun _ _ _ => none) N u1 u2 z = some o → Rj X (mW G) 3 (qI X (mW G) o) 4 [(0, vI v0), (1, vI u1), (2, vI u2)] [] z := itr_ind (m_ones_4 N v0) (fun _ _ _ => none) (fun k => ∀ (u1 u2 : Int) (z : St), k u1 u2 z = some o → Rj X (mW G) 3 (qI X (mW G) o) 4 [(0, vI v0), (1, vI u1), (2, vI u2)] [] z) (fun _ _ _  h => by cases h) (fun k hk u1 u2 z h => s_m_ones_4 C hk h) N
  exact r_sub [2, 1, 0] rfl (hL _ _ _  hf)
def m_keys_71 (N : Nat) (k8 : Int → Int → St → MM) (v1 v2 : Int) (s : St) : MM := k8 v1 (v2 + 1) s
def m_keys_70 (N : Nat) (k8 : Int → Int → St → MM) (v2 t0 : Int) (s : St) : MM := m_keys_71 N k8 t0 v2  s
def m_keys_60 (N : Nat) (k8 : Int → Int → St → MM) (v1 v2 t0 : Int) (s : St) : MM := if le32 t0 0 then (m_keys_70 N k8 v2 v1 s) else (m_keys_70 N k8 v2 v2 s)
def m_keys_42 (N : Nat) (k8 : Int → Int → St → MM) (v1 v2 t0 : Int) (s : St) : MM := if eq32 t0 0 then (bd (m_ones N v1 s) (fun r48 s48 => bd (m_ones N v2 s48) (fun r52 s52 => m_keys_60 N k8 v1 v2 (r48 - r52) s52))) else (m_keys_60 N k8 v1 v2 t0 s)
def m_keys_8 (N : Nat) (k8 : Int → Int → St → MM) (v1 v2 : Int) (s : St) : MM := if le32 64 v2 then (some (v1, s)) else (bd (m_missesNone N v2 s) (fun r16 s16 => if eq32 r16 0 then (m_keys_71 N k8 v1 v2  s16) else (if eq32 v1 ((-1)) then (m_keys_42 N k8 v1 v2 1 s16) else (bd (m_pairsOf N v1 s16) (fun r33 s33 => bd (m_pairsOf N v2 s33) (fun r38 s38 => m_keys_42 N k8 v1 v2 (r33 - r38) s38))))))
def m_keys (N : Nat) (s : St) : MM := bd (m_counts N s) (fun r1 s1 => itr (m_keys_8 N ) (fun _ _ _ => none) N ((-1)) 0 s1)
abbrev rm_m_keys : Room := { frames := 7, cells := 0, slots := 0, locals := 165 }
theorem s_m_keys_71 {X : CxT} {l : Launch} {G : GG} (C : Cx X l (mW G) 4 prog_14_method_72_code "OneSelfModel" (wo y_M_keys prog_14_method_72_code 4 (some .int)) (some .int) rm_m_keys) {o : Int × St} {N : Nat} {v1 v2 : Int} {k8 : Int → Int → St → MM} (hk8 : ∀ (u1 u2 : Int) (s : St), k8 u1 u2 s = some o → Rj X (mW G) 4 (qI X (mW G) o) 8 [(0, .ref ((mW G).h 0)), (1, vI u1), (2, vI u2)] [] s) {s : St} (hf : m_keys_71 N k8 v1 v2 s = some o) : Rj X (mW G) 4 (qI X (mW G) o) 71 [(0, .ref ((mW G).h 0)), (1, vI v1), (2, vI v2)] [] s := by
  unfold m_keys_71 at hf
  refine r_iinc C (q := 74) (lv' := [(2, vI (v2 + 1)), (0, .ref ((mW G).h 0)), (1, vI v1)]) 2 d_M_keys_71 rfl (by decide) rfl rfl ?_
  refine r_goto C (q := 8) d_M_keys_74 (by decide) ?_
  exact r_sub [1, 2, 0] rfl (hk8 _ _ _  hf)
theorem s_m_keys_70 {X : CxT} {l : Launch} {G : GG} (C : Cx X l (mW G) 4 prog_14_method_72_code "OneSelfModel" (wo y_M_keys prog_14_method_72_code 4 (some .int)) (some .int) rm_m_keys) {o : Int × St} {N : Nat} {v2 t0 : Int} {k8 : Int → Int → St → MM} (hk8 : ∀ (u1 u2 : Int) (s : St), k8 u1 u2 s = some o → Rj X (mW G) 4 (qI X (mW G) o) 8 [(0, .ref ((mW G).h 0)), (1, vI u1), (2, vI u2)] [] s) {s : St} (hf : m_keys_70 N k8 v2 t0 s = some o) : Rj X (mW G) 4 (qI X (mW G) o) 70 [(0, .ref ((mW G).h 0)), (2, vI v2)] [vI t0] s := by
  unfold m_keys_70 at hf
  refine r_istore_n C (q := 71) (lv' := [(1, vI t0), (0, .ref ((mW G).h 0)), (2, vI v2)]) d_M_keys_70 rfl (by decide) rfl rfl ?_
  exact r_sub [1, 0, 2] rfl (s_m_keys_71 C hk8 hf)
theorem s_m_keys_60 {X : CxT} {l : Launch} {G : GG} (C : Cx X l (mW G) 4 prog_14_method_72_code "OneSelfModel" (wo y_M_keys prog_14_method_72_code 4 (some .int)) (some .int) rm_m_keys) {o : Int × St} {N : Nat} {v1 v2 t0 : Int} {k8 : Int → Int → St → MM} (hk8 : ∀ (u1 u2 : Int) (s : St), k8 u1 u2 s = some o → Rj X (mW G) 4 (qI X (mW G) o) 8 [(0, .ref ((mW G).h 0)), (1, vI u1), (2, vI u2)] [] s) {s : St} (hf : m_keys_60 N k8 v1 v2 t0 s = some o) : Rj X (mW G) 4 (qI X (mW G) o) 60 [(0, .ref ((mW G).h 0)), (1, vI v1), (2, vI v2)] [vI t0] s := by
  unfold m_keys_60 at hf
  refine r_istore_n C (q := 61) (lv' := [(3, vI t0), (0, .ref ((mW G).h 0)), (1, vI v1), (2, vI v2)]) d_M_keys_60 rfl (by decide) rfl rfl ?_
  refine r_iload_n C (q := 62) 0 d_M_keys_61 rfl rfl rfl ?_
  refine r_if_le C (t := 69) (q := 65) d_M_keys_62 (by decide) rfl (fun c62 => ?_) (fun c62 => ?_)
  · replace hf := ite_t c62 hf
    refine r_iload_n C (q := 70) 2 d_M_keys_69 rfl rfl rfl ?_
    exact r_sub [1, 3] rfl (s_m_keys_70 C hk8 hf)
  · replace hf := ite_f c62 hf
    refine r_iload_n C (q := 66) 3 d_M_keys_65 rfl rfl rfl ?_
    refine r_goto C (q := 70) d_M_keys_66 (by decide) ?_
    exact r_sub [1, 3] rfl (s_m_keys_70 C hk8 hf)
theorem s_m_keys_42 {X : CxT} {l : Launch} {G : GG} (C : Cx X l (mW G) 4 prog_14_method_72_code "OneSelfModel" (wo y_M_keys prog_14_method_72_code 4 (some .int)) (some .int) rm_m_keys) {o : Int × St} {N : Nat} {v1 v2 t0 : Int} {k8 : Int → Int → St → MM} (hk8 : ∀ (u1 u2 : Int) (s : St), k8 u1 u2 s = some o → Rj X (mW G) 4 (qI X (mW G) o) 8 [(0, .ref ((mW G).h 0)), (1, vI u1), (2, vI u2)] [] s) {s : St} (hf : m_keys_42 N k8 v1 v2 t0 s = some o) : Rj X (mW G) 4 (qI X (mW G) o) 42 [(0, .ref ((mW G).h 0)), (1, vI v1), (2, vI v2)] [vI t0] s := by
  unfold m_keys_42 at hf
  refine r_istore_n C (q := 43) (lv' := [(3, vI t0), (0, .ref ((mW G).h 0)), (1, vI v1), (2, vI v2)]) d_M_keys_42 rfl (by decide) rfl rfl ?_
  refine r_iload_n C (q := 44) 0 d_M_keys_43 rfl rfl rfl ?_
  refine r_if_ne C (t := 59) (q := 47) d_M_keys_44 (by decide) rfl (fun c44 => ?_) (fun c44 => ?_)
  · replace hf := ite_t c44 hf
    refine r_iload_n C (q := 48) 2 d_M_keys_47 rfl rfl rfl ?_
    obtain ⟨r48, s48, hg48, hf⟩ := bd_s hf
    refine r_cSI C (q := 51) (As := [vI v1]) (c_m_ones C.i hg48) mt_M_ones ml_M_298 rfl rfl rfl ⟨Nat.le_of_ble_eq_true rfl, Nat.le_of_ble_eq_true rfl⟩ rfl (Nat.le_of_ble_eq_true rfl) d_M_keys_48 rfl ?_
    refine r_iload_n C (q := 52) 3 d_M_keys_51 rfl rfl rfl ?_
    obtain ⟨r52, s52, hg52, hf⟩ := bd_s hf
    refine r_cSI C (q := 55) (As := [vI v2]) (c_m_ones C.i hg52) mt_M_ones ml_M_298 rfl rfl rfl ⟨Nat.le_of_ble_eq_true rfl, Nat.le_of_ble_eq_true rfl⟩ rfl (Nat.le_of_ble_eq_true rfl) d_M_keys_52 rfl ?_
    refine r_isub C (q := 56) d_M_keys_55 rfl ?_
    refine r_goto C (q := 60) d_M_keys_56 (by decide) ?_
    exact r_sub [1, 2, 3] rfl (s_m_keys_60 C hk8 hf)
  · replace hf := ite_f c44 hf
    refine r_iload_n C (q := 60) 0 d_M_keys_59 rfl rfl rfl ?_
    exact r_sub [1, 2, 3] rfl (s_m_keys_60 C hk8 hf)
theorem s_m_keys_8 {X : CxT} {l : Launch} {G : GG} (C : Cx X l (mW G) 4 prog_14_method_72_code "OneSelfModel" (wo y_M_keys prog_14_method_72_code 4 (some .int)) (some .int) rm_m_keys) {o : Int × St} {N : Nat} {v1 v2 : Int} {k8 : Int → Int → St → MM} (hk8 : ∀ (u1 u2 : Int) (s : St), k8 u1 u2 s = some o → Rj X (mW G) 4 (qI X (mW G) o) 8 [(0, .ref ((mW G).h 0)), (1, vI u1), (2, vI u2)] [] s) {s : St} (hf : m_keys_8 N  k8 v1 v2 s = some o) : Rj X (mW G) 4 (qI X (mW G) o) 8 [(0, .ref ((mW G).h 0)), (1, vI v1), (2, vI v2)] [] s := by
  unfold m_keys_8 at hf
  refine r_iload_n C (q := 9) 2 d_M_keys_8 rfl rfl rfl ?_
  refine r_bipush C (q := 11) (x := 64) d_M_keys_9 rfl rfl ?_
  refine r_ic_ge C (t := 77) (q := 14) d_M_keys_11 (by decide) rfl (fun c11 => ?_) (fun c11 => ?_)
  · replace hf := ite_t c11 hf
    refine r_iload_n C (q := 78) 1 d_M_keys_77 rfl rfl rfl ?_
    exact r_ireturn C hf d_M_keys_78
  · replace hf := ite_f c11 hf
    refine r_aload_n C (q := 15) 0 d_M_keys_14 rfl rfl rfl ?_
    refine r_iload_n C (q := 16) 2 d_M_keys_15 rfl rfl rfl ?_
    obtain ⟨r16, s16, hg16, hf⟩ := bd_s hf
    refine r_cVI C (q := 19) (As := [vI v2]) (k0 := 0) (c_m_missesNone C.i hg16) mt_M_missesNone ml_M_295 (Nat.le_of_ble_eq_true rfl) rfl rfl rfl rfl rfl rfl ⟨Nat.le_of_ble_eq_true rfl, Nat.le_of_ble_eq_true rfl⟩ rfl (Nat.le_of_ble_eq_true rfl) d_M_keys_16 rfl ?_
    refine r_if_eq C (t := 71) (q := 22) d_M_keys_19 (by decide) rfl (fun c19 => ?_) (fun c19 => ?_)
    · replace hf := ite_t c19 hf
      exact r_sub [0, 1, 2] rfl (s_m_keys_71 C hk8 hf)
    · replace hf := ite_f c19 hf
      refine r_iload_n C (q := 23) 1 d_M_keys_22 rfl rfl rfl ?_
      refine r_iconst C (q := 24) d_M_keys_23 rfl ?_
      refine r_ic_ne C (t := 31) (q := 27) d_M_keys_24 (by decide) rfl (fun c24 => ?_) (fun c24 => ?_)
      · replace hf := ite_t c24 hf
        refine r_iconst C (q := 28) d_M_keys_27 rfl ?_
        refine r_goto C (q := 42) d_M_keys_28 (by decide) ?_
        exact r_sub [0, 1, 2] rfl (s_m_keys_42 C hk8 hf)
      · replace hf := ite_f c24 hf
        refine r_aload_n C (q := 32) 0 d_M_keys_31 rfl rfl rfl ?_
        refine r_iload_n C (q := 33) 1 d_M_keys_32 rfl rfl rfl ?_
        obtain ⟨r33, s33, hg33, hf⟩ := bd_s hf
        refine r_cVI C (q := 36) (As := [vI v1]) (k0 := 0) (c_m_pairsOf C.i hg33) mt_M_pairsOf ml_M_292 (Nat.le_of_ble_eq_true rfl) rfl rfl rfl rfl rfl rfl ⟨Nat.le_of_ble_eq_true rfl, Nat.le_of_ble_eq_true rfl⟩ rfl (Nat.le_of_ble_eq_true rfl) d_M_keys_33 rfl ?_
        refine r_aload_n C (q := 37) 0 d_M_keys_36 rfl rfl rfl ?_
        refine r_iload_n C (q := 38) 2 d_M_keys_37 rfl rfl rfl ?_
        obtain ⟨r38, s38, hg38, hf⟩ := bd_s hf
        refine r_cVI C (q := 41) (As := [vI v2]) (k0 := 0) (c_m_pairsOf C.i hg38) mt_M_pairsOf ml_M_292 (Nat.le_of_ble_eq_true rfl) rfl rfl rfl rfl rfl rfl ⟨Nat.le_of_ble_eq_true rfl, Nat.le_of_ble_eq_true rfl⟩ rfl (Nat.le_of_ble_eq_true rfl) d_M_keys_38 rfl ?_
        refine r_isub C (q := 42) d_M_keys_41 rfl ?_
        exact r_sub [0, 1, 2] rfl (s_m_keys_42 C hk8 hf)
theorem c_m_keys {l : Launch} {G : GG} (hi : wo_i (mW G)) {N : Nat} {s : St} {o : Int × St} (hf : m_keys N s = some o) : CtI l (mW G) y_M_keys (wo y_M_keys prog_14_method_72_code 4 (some .int)) rm_m_keys [.ref ((mW G).h 0)] s o := by
  refine ct_I (by decide +kernel) hi (Nat.le_of_ble_eq_true rfl) fun X C => ?_
  unfold m_keys at hf
  show Rj X (mW G) 4 (qI X (mW G) o) 0 [(0, .ref ((mW G).h 0))] [] s
  refine r_aload_n C (q := 1) 0 d_M_keys_0 rfl rfl rfl ?_
  obtain ⟨r1, s1, hg1, hf⟩ := bd_s hf
  refine r_cVV C (q := 4) (As := []) (k0 := 0) (c_m_counts C.i hg1) mt_M_counts ml_M_289 (Nat.le_of_ble_eq_true rfl) rfl rfl rfl rfl rfl rfl ⟨Nat.le_of_ble_eq_true rfl, Nat.le_of_ble_eq_true rfl⟩ rfl (Nat.le_of_ble_eq_true rfl) d_M_keys_1 rfl ?_
  refine r_iconst C (q := 5) d_M_keys_4 rfl ?_
  refine r_istore_n C (q := 6) (lv' := [(1, vI ((-1))), (0, .ref ((mW G).h 0))]) d_M_keys_5 rfl (by decide) rfl rfl ?_
  refine r_iconst C (q := 7) d_M_keys_6 rfl ?_
  refine r_istore_n C (q := 8) (lv' := [(2, vI 0), (1, vI ((-1))), (0, .ref ((mW G).h 0))]) d_M_keys_7 rfl (by decide) rfl rfl ?_
  have hL : ∀ (u1 u2 : Int) (z : St), itr (m_keys_8 N ) (fun _ _ _ => none) N u1 u2 z = some o → Rj X (mW G) 4 (qI X (mW G) o) 8 [(0, .ref ((mW G).h 0)), (1, vI u1), (2, vI u2)] [] z := itr_ind (m_keys_8 N ) (fun _ _ _ => none) (fun k => ∀ (u1 u2 : Int) (z : St), k u1 u2 z = some o → Rj X (mW G) 4 (qI X (mW G) o) 8 [(0, .ref ((mW G).h 0)), (1, vI u1), (2, vI u2)] [] z) (fun _ _ _  h => by cases h) (fun k hk u1 u2 z h => s_m_keys_8 C hk h) N
  exact r_sub [2, 1, 0] rfl (hL _ _ _  hf)
def m_sheet_59 (N : Nat) (v1 v3 : Int) (k59 : Int → St → MM) (v4 : Int) (s : St) : MM := if le32 40 v4 then (some (v3, s)) else (gd (inb ((40 * v1) + v4) 160) (k59 (v4 + 1) (su s 36 ((40 * v1) + v4) 0)))
def m_sheet (N : Nat) (v1 v2 v3 : Int) (s : St) : MM := bd (m_isSheet N v1 s) (fun r1 s1 => if eq32 r1 0 then (some ((-2), s1)) else (bd (m_in N v2 0 2 s1) (fun r10 s10 => if eq32 r10 0 then (some ((-2), s10)) else (if le32 v3 40 then (if le32 0 v3 then (gd (inb v1 4) (gd (inb v1 4) (gd (inb v1 4) (itr (m_sheet_59 N v1 v3) (fun _ _ => none) N 0 (su (su (su s10 33 v1 1) 34 v1 v2) 35 v1 v3))))) else (bd (m_meets N 5 s10) (fun r31 s31 => some (r31, s31)))) else (some ((-2), s10))))))
abbrev rm_m_sheet : Room := { frames := 2, cells := 0, slots := 0, locals := 42 }
theorem s_m_sheet_59 {X : CxT} {l : Launch} {G : GG} (C : Cx X l (mW G) 5 prog_14_method_75_code "OneSelfModel" (wo y_M_sheet prog_14_method_75_code 5 (some .int)) (some .int) rm_m_sheet) {o : Int × St} {N : Nat} {v1 v3 v4 : Int} {k59 : Int → St → MM} (hk59 : ∀ (u4 : Int) (s : St), k59 u4 s = some o → Rj X (mW G) 5 (qI X (mW G) o) 59 [(0, .ref ((mW G).h 0)), (1, vI v1), (3, vI v3), (4, vI u4)] [] s) {s : St} (hf : m_sheet_59 N v1 v3 k59 v4 s = some o) : Rj X (mW G) 5 (qI X (mW G) o) 59 [(0, .ref ((mW G).h 0)), (1, vI v1), (3, vI v3), (4, vI v4)] [] s := by
  unfold m_sheet_59 at hf
  refine r_iload C (q := 61) 3 d_M_sheet_59 rfl rfl ?_
  refine r_bipush C (q := 63) (x := 40) d_M_sheet_61 rfl rfl ?_
  refine r_ic_ge C (t := 85) (q := 66) d_M_sheet_63 (by decide) rfl (fun c63 => ?_) (fun c63 => ?_)
  · replace hf := ite_t c63 hf
    refine r_iload_n C (q := 86) 2 d_M_sheet_85 rfl rfl rfl ?_
    exact r_ireturn C hf d_M_sheet_86
  · replace hf := ite_f c63 hf
    refine r_aload_n C (q := 67) 0 d_M_sheet_66 rfl rfl rfl ?_
    refine gxm_M_items C (q := 70) fl_M_124 d_M_sheet_67 rfl ?_
    refine r_bipush C (q := 72) (x := 40) d_M_sheet_70 rfl rfl ?_
    refine r_iload_n C (q := 73) 1 d_M_sheet_72 rfl rfl rfl ?_
    refine r_imul C (q := 74) d_M_sheet_73 rfl ?_
    refine r_iload C (q := 76) 3 d_M_sheet_74 rfl rfl ?_
    refine r_iadd C (q := 77) d_M_sheet_76 rfl ?_
    refine r_iconst C (q := 78) d_M_sheet_77 rfl ?_
    obtain ⟨g78, hf⟩ := gd_s hf
    refine r_iast C (q := 79) 36 (Nat.le_of_ble_eq_true rfl) (fun _ => rfl) 0 rfl g78 (by decide) d_M_sheet_78 rfl ?_
    refine r_iinc C (q := 82) (lv' := [(4, vI (v4 + 1)), (0, .ref ((mW G).h 0)), (1, vI v1), (3, vI v3)]) 3 d_M_sheet_79 rfl (by decide) rfl rfl ?_
    refine r_goto C (q := 59) d_M_sheet_82 (by decide) ?_
    exact r_sub [1, 2, 3, 0] rfl (hk59 _ _  hf)
theorem c_m_sheet {l : Launch} {G : GG} (hi : wo_i (mW G)) {N : Nat} {v1 v2 v3 : Int} {s : St} {o : Int × St} (hf : m_sheet N v1 v2 v3 s = some o) : CtI l (mW G) y_M_sheet (wo y_M_sheet prog_14_method_75_code 5 (some .int)) rm_m_sheet [.ref ((mW G).h 0), vI v1, vI v2, vI v3] s o := by
  refine ct_I (by decide +kernel) hi (Nat.le_of_ble_eq_true rfl) fun X C => ?_
  unfold m_sheet at hf
  show Rj X (mW G) 5 (qI X (mW G) o) 0 [(0, .ref ((mW G).h 0)), (1, vI v1), (2, vI v2), (3, vI v3)] [] s
  refine r_iload_n C (q := 1) 1 d_M_sheet_0 rfl rfl rfl ?_
  obtain ⟨r1, s1, hg1, hf⟩ := bd_s hf
  refine r_cSI C (q := 4) (As := [vI v1]) (c_m_isSheet C.i hg1) mt_M_isSheet ml_M_140 rfl rfl rfl ⟨Nat.le_of_ble_eq_true rfl, Nat.le_of_ble_eq_true rfl⟩ rfl (Nat.le_of_ble_eq_true rfl) d_M_sheet_1 rfl ?_
  refine r_if_eq C (t := 22) (q := 7) d_M_sheet_4 (by decide) rfl (fun c4 => ?_) (fun c4 => ?_)
  · replace hf := ite_t c4 hf
    refine r_bipush C (q := 24) (x := (-2)) d_M_sheet_22 rfl rfl ?_
    exact r_ireturn C hf d_M_sheet_24
  · replace hf := ite_f c4 hf
    refine r_iload_n C (q := 8) 2 d_M_sheet_7 rfl rfl rfl ?_
    refine r_iconst C (q := 9) d_M_sheet_8 rfl ?_
    refine r_iconst C (q := 10) d_M_sheet_9 rfl ?_
    obtain ⟨r10, s10, hg10, hf⟩ := bd_s hf
    refine r_cSI C (q := 13) (As := [vI v2, vI 0, vI 2]) (c_m_in C.i hg10) mt_M_in ml_M_133 rfl rfl rfl ⟨Nat.le_of_ble_eq_true rfl, Nat.le_of_ble_eq_true rfl⟩ rfl (Nat.le_of_ble_eq_true rfl) d_M_sheet_10 rfl ?_
    refine r_if_eq C (t := 22) (q := 16) d_M_sheet_13 (by decide) rfl (fun c13 => ?_) (fun c13 => ?_)
    · replace hf := ite_t c13 hf
      refine r_bipush C (q := 24) (x := (-2)) d_M_sheet_22 rfl rfl ?_
      exact r_ireturn C hf d_M_sheet_24
    · replace hf := ite_f c13 hf
      refine r_iload_n C (q := 17) 3 d_M_sheet_16 rfl rfl rfl ?_
      refine r_bipush C (q := 19) (x := 40) d_M_sheet_17 rfl rfl ?_
      refine r_ic_le C (t := 25) (q := 22) d_M_sheet_19 (by decide) rfl (fun c19 => ?_) (fun c19 => ?_)
      · replace hf := ite_t c19 hf
        refine r_iload_n C (q := 26) 3 d_M_sheet_25 rfl rfl rfl ?_
        refine r_if_ge C (t := 35) (q := 29) d_M_sheet_26 (by decide) rfl (fun c26 => ?_) (fun c26 => ?_)
        · replace hf := ite_t c26 hf
          refine r_aload_n C (q := 36) 0 d_M_sheet_35 rfl rfl rfl ?_
          refine gxm_M_isThere C (q := 39) fl_M_115 d_M_sheet_36 rfl ?_
          refine r_iload_n C (q := 40) 1 d_M_sheet_39 rfl rfl rfl ?_
          refine r_iconst C (q := 41) d_M_sheet_40 rfl ?_
          obtain ⟨g41, hf⟩ := gd_s hf
          refine r_zast C (q := 42) 33 (Nat.le_of_ble_eq_true rfl) (fun _ => rfl) 2 rfl g41 (by decide) (by decide) d_M_sheet_41 rfl ?_
          refine r_aload_n C (q := 43) 0 d_M_sheet_42 rfl rfl rfl ?_
          refine gxm_M_types C (q := 46) fl_M_118 d_M_sheet_43 rfl ?_
          refine r_iload_n C (q := 47) 1 d_M_sheet_46 rfl rfl rfl ?_
          refine r_iload_n C (q := 48) 2 d_M_sheet_47 rfl rfl rfl ?_
          obtain ⟨g48, hf⟩ := gd_s hf
          refine r_iast C (q := 49) 34 (Nat.le_of_ble_eq_true rfl) (fun _ => rfl) 0 rfl g48 (by decide) d_M_sheet_48 rfl ?_
          refine r_aload_n C (q := 50) 0 d_M_sheet_49 rfl rfl rfl ?_
          refine gxm_M_sizes C (q := 53) fl_M_121 d_M_sheet_50 rfl ?_
          refine r_iload_n C (q := 54) 1 d_M_sheet_53 rfl rfl rfl ?_
          refine r_iload_n C (q := 55) 3 d_M_sheet_54 rfl rfl rfl ?_
          obtain ⟨g55, hf⟩ := gd_s hf
          refine r_iast C (q := 56) 35 (Nat.le_of_ble_eq_true rfl) (fun _ => rfl) 0 rfl g55 (by decide) d_M_sheet_55 rfl ?_
          refine r_iconst C (q := 57) d_M_sheet_56 rfl ?_
          refine r_istore C (q := 59) (lv' := [(4, vI 0), (0, .ref ((mW G).h 0)), (1, vI v1), (2, vI v2), (3, vI v3)]) d_M_sheet_57 (by decide) rfl rfl ?_
          have hL : ∀ (u4 : Int) (z : St), itr (m_sheet_59 N v1 v3) (fun _ _ => none) N u4 z = some o → Rj X (mW G) 5 (qI X (mW G) o) 59 [(0, .ref ((mW G).h 0)), (1, vI v1), (3, vI v3), (4, vI u4)] [] z := itr_ind (m_sheet_59 N v1 v3) (fun _ _ => none) (fun k => ∀ (u4 : Int) (z : St), k u4 z = some o → Rj X (mW G) 5 (qI X (mW G) o) 59 [(0, .ref ((mW G).h 0)), (1, vI v1), (3, vI v3), (4, vI u4)] [] z) (fun _ _  h => by cases h) (fun k hk u4 z h => s_m_sheet_59 C hk h) N
          exact r_sub [1, 2, 4, 0] rfl (hL _ _  hf)
        · replace hf := ite_f c26 hf
          refine r_aload_n C (q := 30) 0 d_M_sheet_29 rfl rfl rfl ?_
          refine r_iconst C (q := 31) d_M_sheet_30 rfl ?_
          obtain ⟨r31, s31, hg31, hf⟩ := bd_s hf
          refine r_cVI C (q := 34) (As := [vI 5]) (k0 := 0) (c_m_meets C.i hg31) mt_M_meets ml_M_144 (Nat.le_of_ble_eq_true rfl) rfl rfl rfl rfl rfl rfl ⟨Nat.le_of_ble_eq_true rfl, Nat.le_of_ble_eq_true rfl⟩ rfl (Nat.le_of_ble_eq_true rfl) d_M_sheet_31 rfl ?_
          exact r_ireturn C hf d_M_sheet_34
      · replace hf := ite_f c19 hf
        refine r_bipush C (q := 24) (x := (-2)) d_M_sheet_22 rfl rfl ?_
        exact r_ireturn C hf d_M_sheet_24
