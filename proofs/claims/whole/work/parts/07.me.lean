def m_lays_125 (N : Nat) (k38 : Int → St → MM) (v1 v2 v3 : Int) (s : St) : MM := k38 (v3 + 1) s
def m_lays_217 (N : Nat) (k133 : Int → St → MM) (k144 : Int → St → MM) (v3 v4 t0 t1 : Int) (s : St) : MM := gd (inb t1 100) (k144 (v4 + 1) (su s 20 t1 t0))
def m_lays_144 (N : Nat) (k133 : Int → St → MM) (v3 : Int) (k144 : Int → St → MM) (v4 : Int) (s : St) : MM := if le32 (s 0 28) v4 then (k133 (v3 + 1) s) else (gd (inb v3 10) (gd (inb v4 10) (gd (inb ((36 * (s 18 v3)) + (s 19 v4)) 1296) (if eq32 (s 17 ((36 * (s 18 v3)) + (s 19 v4))) 0 then (m_lays_217 N k133 k144 v3 v4 0 ((10 * v3) + v4) s) else (gd (inb v3 10) (gd (inb v4 10) (bd (m_scoreOf N (s 18 v3) (s 19 v4) s) (fun r203 s203 => m_lays_217 N k133 k144 v3 v4 ((r203 - (s203 0 24)) + 1) ((10 * v3) + v4) s203))))))))
def m_lays_380 (N : Nat) (k235 : Int → St → MM) (k242 : Int → St → MM) (k285 : Int → Int → St → MM) (v3 v4 v6 t0 : Int) (s : St) : MM := k285 t0 (v6 + 1) s
def m_lays_364 (N : Nat) (k235 : Int → St → MM) (k242 : Int → St → MM) (k285 : Int → Int → St → MM) (v3 v4 v5 v6 t0 : Int) (s : St) : MM := if le32 t0 v5 then (m_lays_380 N k235 k242 k285 v3 v4 v6 v5 s) else (m_lays_380 N k235 k242 k285 v3 v4 v6 t0 s)
def m_lays_363 (N : Nat) (k235 : Int → St → MM) (k242 : Int → St → MM) (k285 : Int → Int → St → MM) (v3 v4 v5 v6 : Int) (s : St) : MM := m_lays_364 N k235 k242 k285 v3 v4 v5 v6 0 s
def m_lays_388 (N : Nat) (k235 : Int → St → MM) (k242 : Int → St → MM) (v3 v4 v5 : Int) (s : St) : MM := gd (inb ((1024 * v3) + v4) 11264) (k242 (v4 + 1) (su s 21 ((1024 * v3) + v4) v5))
def m_lays_285 (N : Nat) (k235 : Int → St → MM) (k242 : Int → St → MM) (v3 v4 : Int) (k285 : Int → Int → St → MM) (v5 v6 : Int) (s : St) : MM := if le32 (s 0 28) v6 then (m_lays_388 N k235 k242 v3 v4 v5  s) else (if le32 (s 0 27) v3 then (m_lays_388 N k235 k242 v3 v4 v5  s) else (gd (inb ((10 * v3) + v6) 100) (if le32 (s 20 ((10 * v3) + v6)) 0 then (m_lays_363 N k235 k242 k285 v3 v4 v5 v6  s) else (if eq32 (an32 (sr32 v4 v6) 1) 0 then (gd (inb ((10 * v3) + v6) 100) (gd (inb ((1024 * (v3 + 1)) + (or32 v4 (sl32 1 v6))) 11264) (m_lays_364 N k235 k242 k285 v3 v4 v5 v6 ((s 20 ((10 * v3) + v6)) + (s 21 ((1024 * (v3 + 1)) + (or32 v4 (sl32 1 v6))))) s))) else (m_lays_363 N k235 k242 k285 v3 v4 v5 v6  s)))))
def m_lays_280 (N : Nat) (k235 : Int → St → MM) (k242 : Int → St → MM) (v3 v4 t0 : Int) (s : St) : MM := itr (m_lays_285 N k235 k242 v3 v4) (fun _ _ _ => none) N t0 0 s
def m_lays_242 (N : Nat) (k235 : Int → St → MM) (v3 : Int) (k242 : Int → St → MM) (v4 : Int) (s : St) : MM := if le32 (sl32 1 (s 0 28)) v4 then (k235 (v3 + (-1)) s) else (if eq32 v3 (s 0 27) then (m_lays_280 N k235 k242 v3 v4 0 s) else (gd (inb ((1024 * (v3 + 1)) + v4) 11264) (m_lays_280 N k235 k242 v3 v4 (s 21 ((1024 * (v3 + 1)) + v4)) s)))
def m_lays_235 (N : Nat) (k235 : Int → St → MM) (v3 : Int) (s : St) : MM := if lt32 v3 0 then (bd (m_follows N s) (fun r416 s416 => some (1, s416))) else (itr (m_lays_242 N k235 v3) (fun _ _ => none) N 0 s)
def m_lays_133 (N : Nat) (k133 : Int → St → MM) (v3 : Int) (s : St) : MM := if le32 (s 0 27) v3 then (itr (m_lays_235 N ) (fun _ _ => none) N (s 0 27) s) else (itr (m_lays_144 N k133 v3) (fun _ _ => none) N 0 s)
def m_lays_87 (N : Nat) (k38 : Int → St → MM) (v1 v2 v3 : Int) (s : St) : MM := bd (m_isKnown N v3 s) (fun r89 s89 => if eq32 r89 0 then (m_lays_125 N k38 v1 v2 v3  s89) else (gd (inb v3 36) (if eq32 (s89 1 v3) v2 then (gd (inb (s89 0 28) 10) (m_lays_125 N k38 v1 v2 v3  (su (su s89 19 (s89 0 28) v3) 0 28 (((su s89 19 (s89 0 28) v3) 0 28) + 1)))) else (m_lays_125 N k38 v1 v2 v3  s89))))
def m_lays_38 (N : Nat) (v1 v2 : Int) (k38 : Int → St → MM) (v3 : Int) (s : St) : MM := if le32 (s 0 1) v3 then (itr (m_lays_133 N ) (fun _ _ => none) N 0 s) else (bd (m_isKnown N v3 s) (fun r48 s48 => if eq32 r48 0 then (m_lays_87 N k38 v1 v2 v3  s48) else (gd (inb v3 36) (if eq32 (s48 1 v3) v1 then (gd (inb (s48 0 27) 10) (m_lays_125 N k38 v1 v2 v3  (su (su s48 18 (s48 0 27) v3) 0 27 (((su s48 18 (s48 0 27) v3) 0 27) + 1)))) else (m_lays_87 N k38 v1 v2 v3  s48)))))
def m_lays (N : Nat) (v1 v2 : Int) (s : St) : MM := bd (m_knownOf N v1 s) (fun r2 s2 => if lt32 10 r2 then (some (0, s2)) else (bd (m_knownOf N v2 s2) (fun r12 s12 => if le32 r12 10 then (bd (m_looks N s12) (fun r23 s23 => itr (m_lays_38 N v1 v2) (fun _ _ => none) N 0 (su (su s23 0 27 0) 0 28 0))) else (some (0, s12)))))
abbrev rm_m_lays : Room := { frames := 9, cells := 0, slots := 0, locals := 216 }
theorem s_m_lays_125 {X : CxT} {l : Launch} {G : GG} (C : Cx X l (mW G) 8 prog_14_method_42_code "OneSelfModel" (wo y_M_lays prog_14_method_42_code 8 (some .boolean)) (some .boolean) rm_m_lays) {o : Int × St} {N : Nat} {v1 v2 v3 : Int} {k38 : Int → St → MM} (hk38 : ∀ (u3 : Int) (s : St), k38 u3 s = some o → Rj X (mW G) 8 (qI X (mW G) o) 38 [(0, .ref ((mW G).h 0)), (1, vI v1), (2, vI v2), (3, vI u3)] [] s) {s : St} (hf : m_lays_125 N k38 v1 v2 v3 s = some o) : Rj X (mW G) 8 (qI X (mW G) o) 125 [(0, .ref ((mW G).h 0)), (1, vI v1), (2, vI v2), (3, vI v3)] [] s := by
  unfold m_lays_125 at hf
  refine r_iinc C (q := 128) (lv' := [(3, vI (v3 + 1)), (0, .ref ((mW G).h 0)), (1, vI v1), (2, vI v2)]) 3 d_M_lays_125 rfl (by decide) rfl rfl ?_
  refine r_goto C (q := 38) d_M_lays_128 (by decide) ?_
  exact r_sub [1, 2, 3, 0] rfl (hk38 _ _  hf)
theorem s_m_lays_217 {X : CxT} {l : Launch} {G : GG} (C : Cx X l (mW G) 8 prog_14_method_42_code "OneSelfModel" (wo y_M_lays prog_14_method_42_code 8 (some .boolean)) (some .boolean) rm_m_lays) {o : Int × St} {N : Nat} {v3 v4 t0 t1 : Int} {k133 : Int → St → MM} (hk133 : ∀ (u3 : Int) (s : St), k133 u3 s = some o → Rj X (mW G) 8 (qI X (mW G) o) 133 [(0, .ref ((mW G).h 0)), (3, vI u3)] [] s) {k144 : Int → St → MM} (hk144 : ∀ (u4 : Int) (s : St), k144 u4 s = some o → Rj X (mW G) 8 (qI X (mW G) o) 144 [(0, .ref ((mW G).h 0)), (3, vI v3), (4, vI u4)] [] s) {s : St} (hf : m_lays_217 N k133 k144 v3 v4 t0 t1 s = some o) : Rj X (mW G) 8 (qI X (mW G) o) 217 [(0, .ref ((mW G).h 0)), (3, vI v3), (4, vI v4)] [vI t0, vI t1, .ref ((mW G).h 20)] s := by
  unfold m_lays_217 at hf
  obtain ⟨g217, hf⟩ := gd_s hf
  refine r_iast C (q := 218) 20 (Nat.le_of_ble_eq_true rfl) (fun _ => rfl) 0 rfl g217 (by decide) d_M_lays_217 rfl ?_
  refine r_iinc C (q := 221) (lv' := [(4, vI (v4 + 1)), (0, .ref ((mW G).h 0)), (3, vI v3)]) 2 d_M_lays_218 rfl (by decide) rfl rfl ?_
  refine r_goto C (q := 144) d_M_lays_221 (by decide) ?_
  exact r_sub [1, 2, 0] rfl (hk144 _ _  hf)
theorem s_m_lays_144 {X : CxT} {l : Launch} {G : GG} (C : Cx X l (mW G) 8 prog_14_method_42_code "OneSelfModel" (wo y_M_lays prog_14_method_42_code 8 (some .boolean)) (some .boolean) rm_m_lays) {o : Int × St} {N : Nat} {v3 v4 : Int} {k133 : Int → St → MM} (hk133 : ∀ (u3 : Int) (s : St), k133 u3 s = some o → Rj X (mW G) 8 (qI X (mW G) o) 133 [(0, .ref ((mW G).h 0)), (3, vI u3)] [] s) {k144 : Int → St → MM} (hk144 : ∀ (u4 : Int) (s : St), k144 u4 s = some o → Rj X (mW G) 8 (qI X (mW G) o) 144 [(0, .ref ((mW G).h 0)), (3, vI v3), (4, vI u4)] [] s) {s : St} (hf : m_lays_144 N k133 v3 k144 v4 s = some o) : Rj X (mW G) 8 (qI X (mW G) o) 144 [(0, .ref ((mW G).h 0)), (3, vI v3), (4, vI v4)] [] s := by
  unfold m_lays_144 at hf
  refine r_iload C (q := 146) 2 d_M_lays_144 rfl rfl ?_
  refine r_aload_n C (q := 147) 0 d_M_lays_146 rfl rfl rfl ?_
  refine gxm_M_ofB C (q := 150) fl_M_235 d_M_lays_147 rfl ?_
  refine r_ic_ge C (t := 224) (q := 153) d_M_lays_150 (by decide) rfl (fun c150 => ?_) (fun c150 => ?_)
  · replace hf := ite_t c150 hf
    refine r_iinc C (q := 227) (lv' := [(3, vI (v3 + 1)), (0, .ref ((mW G).h 0)), (4, vI v4)]) 1 d_M_lays_224 rfl (by decide) rfl rfl ?_
    refine r_goto C (q := 133) d_M_lays_227 (by decide) ?_
    exact r_sub [1, 0] rfl (hk133 _ _  hf)
  · replace hf := ite_f c150 hf
    refine r_aload_n C (q := 154) 0 d_M_lays_153 rfl rfl rfl ?_
    refine gxm_M_worths C (q := 157) fl_M_75 d_M_lays_154 rfl ?_
    refine r_bipush C (q := 159) (x := 10) d_M_lays_157 rfl rfl ?_
    refine r_iload_n C (q := 160) 1 d_M_lays_159 rfl rfl rfl ?_
    refine r_imul C (q := 161) d_M_lays_160 rfl ?_
    refine r_iload C (q := 163) 2 d_M_lays_161 rfl rfl ?_
    refine r_iadd C (q := 164) d_M_lays_163 rfl ?_
    refine r_aload_n C (q := 165) 0 d_M_lays_164 rfl rfl rfl ?_
    refine gxm_M_isLink C (q := 168) fl_M_65 d_M_lays_165 rfl ?_
    refine r_bipush C (q := 170) (x := 36) d_M_lays_168 rfl rfl ?_
    refine r_aload_n C (q := 171) 0 d_M_lays_170 rfl rfl rfl ?_
    refine gxm_M_rowsA C (q := 174) fl_M_69 d_M_lays_171 rfl ?_
    refine r_iload_n C (q := 175) 1 d_M_lays_174 rfl rfl rfl ?_
    obtain ⟨g175, hf⟩ := gd_s hf
    refine r_iald C (q := 176) 18 (Nat.le_of_ble_eq_true rfl) (fun _ => rfl) 0 rfl g175 (by decide) d_M_lays_175 rfl ?_
    refine r_imul C (q := 177) d_M_lays_176 rfl ?_
    refine r_aload_n C (q := 178) 0 d_M_lays_177 rfl rfl rfl ?_
    refine gxm_M_rowsB C (q := 181) fl_M_72 d_M_lays_178 rfl ?_
    refine r_iload C (q := 183) 2 d_M_lays_181 rfl rfl ?_
    obtain ⟨g183, hf⟩ := gd_s hf
    refine r_iald C (q := 184) 19 (Nat.le_of_ble_eq_true rfl) (fun _ => rfl) 0 rfl g183 (by decide) d_M_lays_183 rfl ?_
    refine r_iadd C (q := 185) d_M_lays_184 rfl ?_
    obtain ⟨g185, hf⟩ := gd_s hf
    refine r_zald C (q := 186) 17 (Nat.le_of_ble_eq_true rfl) (fun _ => rfl) 2 rfl g185 (by decide) d_M_lays_185 rfl ?_
    refine r_if_eq C (t := 216) (q := 189) d_M_lays_186 (by decide) rfl (fun c186 => ?_) (fun c186 => ?_)
    · replace hf := ite_t c186 hf
      refine r_iconst C (q := 217) d_M_lays_216 rfl ?_
      exact r_sub [0, 1, 2] rfl (s_m_lays_217 C hk133 hk144 hf)
    · replace hf := ite_f c186 hf
      refine r_aload_n C (q := 190) 0 d_M_lays_189 rfl rfl rfl ?_
      refine r_aload_n C (q := 191) 0 d_M_lays_190 rfl rfl rfl ?_
      refine gxm_M_rowsA C (q := 194) fl_M_69 d_M_lays_191 rfl ?_
      refine r_iload_n C (q := 195) 1 d_M_lays_194 rfl rfl rfl ?_
      obtain ⟨g195, hf⟩ := gd_s hf
      refine r_iald C (q := 196) 18 (Nat.le_of_ble_eq_true rfl) (fun _ => rfl) 0 rfl g195 (by decide) d_M_lays_195 rfl ?_
      refine r_aload_n C (q := 197) 0 d_M_lays_196 rfl rfl rfl ?_
      refine gxm_M_rowsB C (q := 200) fl_M_72 d_M_lays_197 rfl ?_
      refine r_iload C (q := 202) 2 d_M_lays_200 rfl rfl ?_
      obtain ⟨g202, hf⟩ := gd_s hf
      refine r_iald C (q := 203) 19 (Nat.le_of_ble_eq_true rfl) (fun _ => rfl) 0 rfl g202 (by decide) d_M_lays_202 rfl ?_
      obtain ⟨r203, s203, hg203, hf⟩ := bd_s hf
      refine r_cVI C (q := 206) (As := [vI (s 18 v3), vI (s 19 v4)]) (k0 := 0) (c_m_scoreOf C.i hg203) mt_M_scoreOf ml_M_201 (Nat.le_of_ble_eq_true rfl) rfl rfl rfl rfl rfl rfl ⟨Nat.le_of_ble_eq_true rfl, Nat.le_of_ble_eq_true rfl⟩ rfl (Nat.le_of_ble_eq_true rfl) d_M_lays_203 rfl ?_
      refine r_aload_n C (q := 207) 0 d_M_lays_206 rfl rfl rfl ?_
      refine gxm_M_lineNow C (q := 210) fl_M_62 d_M_lays_207 rfl ?_
      refine r_isub C (q := 211) d_M_lays_210 rfl ?_
      refine r_iconst C (q := 212) d_M_lays_211 rfl ?_
      refine r_iadd C (q := 213) d_M_lays_212 rfl ?_
      refine r_goto C (q := 217) d_M_lays_213 (by decide) ?_
      exact r_sub [0, 1, 2] rfl (s_m_lays_217 C hk133 hk144 hf)
theorem s_m_lays_380 {X : CxT} {l : Launch} {G : GG} (C : Cx X l (mW G) 8 prog_14_method_42_code "OneSelfModel" (wo y_M_lays prog_14_method_42_code 8 (some .boolean)) (some .boolean) rm_m_lays) {o : Int × St} {N : Nat} {v3 v4 v6 t0 : Int} {k235 : Int → St → MM} (hk235 : ∀ (u3 : Int) (s : St), k235 u3 s = some o → Rj X (mW G) 8 (qI X (mW G) o) 235 [(0, .ref ((mW G).h 0)), (3, vI u3)] [] s) {k242 : Int → St → MM} (hk242 : ∀ (u4 : Int) (s : St), k242 u4 s = some o → Rj X (mW G) 8 (qI X (mW G) o) 242 [(0, .ref ((mW G).h 0)), (3, vI v3), (4, vI u4)] [] s) {k285 : Int → Int → St → MM} (hk285 : ∀ (u5 u6 : Int) (s : St), k285 u5 u6 s = some o → Rj X (mW G) 8 (qI X (mW G) o) 285 [(0, .ref ((mW G).h 0)), (3, vI v3), (4, vI v4), (5, vI u5), (6, vI u6)] [] s) {s : St} (hf : m_lays_380 N k235 k242 k285 v3 v4 v6 t0 s = some o) : Rj X (mW G) 8 (qI X (mW G) o) 380 [(0, .ref ((mW G).h 0)), (3, vI v3), (4, vI v4), (6, vI v6)] [vI t0] s := by
  unfold m_lays_380 at hf
  refine r_istore C (q := 382) (lv' := [(5, vI t0), (0, .ref ((mW G).h 0)), (3, vI v3), (4, vI v4), (6, vI v6)]) d_M_lays_380 (by decide) rfl rfl ?_
  refine r_iinc C (q := 385) (lv' := [(6, vI (v6 + 1)), (5, vI t0), (0, .ref ((mW G).h 0)), (3, vI v3), (4, vI v4)]) 4 d_M_lays_382 rfl (by decide) rfl rfl ?_
  refine r_goto C (q := 285) d_M_lays_385 (by decide) ?_
  exact r_sub [2, 3, 4, 1, 0] rfl (hk285 _ _ _  hf)
theorem s_m_lays_364 {X : CxT} {l : Launch} {G : GG} (C : Cx X l (mW G) 8 prog_14_method_42_code "OneSelfModel" (wo y_M_lays prog_14_method_42_code 8 (some .boolean)) (some .boolean) rm_m_lays) {o : Int × St} {N : Nat} {v3 v4 v5 v6 t0 : Int} {k235 : Int → St → MM} (hk235 : ∀ (u3 : Int) (s : St), k235 u3 s = some o → Rj X (mW G) 8 (qI X (mW G) o) 235 [(0, .ref ((mW G).h 0)), (3, vI u3)] [] s) {k242 : Int → St → MM} (hk242 : ∀ (u4 : Int) (s : St), k242 u4 s = some o → Rj X (mW G) 8 (qI X (mW G) o) 242 [(0, .ref ((mW G).h 0)), (3, vI v3), (4, vI u4)] [] s) {k285 : Int → Int → St → MM} (hk285 : ∀ (u5 u6 : Int) (s : St), k285 u5 u6 s = some o → Rj X (mW G) 8 (qI X (mW G) o) 285 [(0, .ref ((mW G).h 0)), (3, vI v3), (4, vI v4), (5, vI u5), (6, vI u6)] [] s) {s : St} (hf : m_lays_364 N k235 k242 k285 v3 v4 v5 v6 t0 s = some o) : Rj X (mW G) 8 (qI X (mW G) o) 364 [(0, .ref ((mW G).h 0)), (3, vI v3), (4, vI v4), (5, vI v5), (6, vI v6)] [vI t0] s := by
  unfold m_lays_364 at hf
  refine r_istore C (q := 366) (lv' := [(7, vI t0), (0, .ref ((mW G).h 0)), (3, vI v3), (4, vI v4), (5, vI v5), (6, vI v6)]) d_M_lays_364 (by decide) rfl rfl ?_
  refine r_iload C (q := 368) 0 d_M_lays_366 rfl rfl ?_
  refine r_iload C (q := 370) 4 d_M_lays_368 rfl rfl ?_
  refine r_ic_le C (t := 378) (q := 373) d_M_lays_370 (by decide) rfl (fun c370 => ?_) (fun c370 => ?_)
  · replace hf := ite_t c370 hf
    refine r_iload C (q := 380) 4 d_M_lays_378 rfl rfl ?_
    exact r_sub [1, 2, 3, 5] rfl (s_m_lays_380 C hk235 hk242 hk285 hf)
  · replace hf := ite_f c370 hf
    refine r_iload C (q := 375) 0 d_M_lays_373 rfl rfl ?_
    refine r_goto C (q := 380) d_M_lays_375 (by decide) ?_
    exact r_sub [1, 2, 3, 5] rfl (s_m_lays_380 C hk235 hk242 hk285 hf)
theorem s_m_lays_363 {X : CxT} {l : Launch} {G : GG} (C : Cx X l (mW G) 8 prog_14_method_42_code "OneSelfModel" (wo y_M_lays prog_14_method_42_code 8 (some .boolean)) (some .boolean) rm_m_lays) {o : Int × St} {N : Nat} {v3 v4 v5 v6 : Int} {k235 : Int → St → MM} (hk235 : ∀ (u3 : Int) (s : St), k235 u3 s = some o → Rj X (mW G) 8 (qI X (mW G) o) 235 [(0, .ref ((mW G).h 0)), (3, vI u3)] [] s) {k242 : Int → St → MM} (hk242 : ∀ (u4 : Int) (s : St), k242 u4 s = some o → Rj X (mW G) 8 (qI X (mW G) o) 242 [(0, .ref ((mW G).h 0)), (3, vI v3), (4, vI u4)] [] s) {k285 : Int → Int → St → MM} (hk285 : ∀ (u5 u6 : Int) (s : St), k285 u5 u6 s = some o → Rj X (mW G) 8 (qI X (mW G) o) 285 [(0, .ref ((mW G).h 0)), (3, vI v3), (4, vI v4), (5, vI u5), (6, vI u6)] [] s) {s : St} (hf : m_lays_363 N k235 k242 k285 v3 v4 v5 v6 s = some o) : Rj X (mW G) 8 (qI X (mW G) o) 363 [(0, .ref ((mW G).h 0)), (3, vI v3), (4, vI v4), (5, vI v5), (6, vI v6)] [] s := by
  unfold m_lays_363 at hf
  refine r_iconst C (q := 364) d_M_lays_363 rfl ?_
  exact r_sub [0, 1, 2, 3, 4] rfl (s_m_lays_364 C hk235 hk242 hk285 hf)
theorem s_m_lays_388 {X : CxT} {l : Launch} {G : GG} (C : Cx X l (mW G) 8 prog_14_method_42_code "OneSelfModel" (wo y_M_lays prog_14_method_42_code 8 (some .boolean)) (some .boolean) rm_m_lays) {o : Int × St} {N : Nat} {v3 v4 v5 : Int} {k235 : Int → St → MM} (hk235 : ∀ (u3 : Int) (s : St), k235 u3 s = some o → Rj X (mW G) 8 (qI X (mW G) o) 235 [(0, .ref ((mW G).h 0)), (3, vI u3)] [] s) {k242 : Int → St → MM} (hk242 : ∀ (u4 : Int) (s : St), k242 u4 s = some o → Rj X (mW G) 8 (qI X (mW G) o) 242 [(0, .ref ((mW G).h 0)), (3, vI v3), (4, vI u4)] [] s) {s : St} (hf : m_lays_388 N k235 k242 v3 v4 v5 s = some o) : Rj X (mW G) 8 (qI X (mW G) o) 388 [(0, .ref ((mW G).h 0)), (3, vI v3), (4, vI v4), (5, vI v5)] [] s := by
  unfold m_lays_388 at hf
  refine r_aload_n C (q := 389) 0 d_M_lays_388 rfl rfl rfl ?_
  refine gxm_M_bests C (q := 392) fl_M_78 d_M_lays_389 rfl ?_
  refine r_sipush C (q := 395) (x := 1024) d_M_lays_392 rfl rfl ?_
  refine r_iload_n C (q := 396) 1 d_M_lays_395 rfl rfl rfl ?_
  refine r_imul C (q := 397) d_M_lays_396 rfl ?_
  refine r_iload C (q := 399) 2 d_M_lays_397 rfl rfl ?_
  refine r_iadd C (q := 400) d_M_lays_399 rfl ?_
  refine r_iload C (q := 402) 3 d_M_lays_400 rfl rfl ?_
  obtain ⟨g402, hf⟩ := gd_s hf
  refine r_iast C (q := 403) 21 (Nat.le_of_ble_eq_true rfl) (fun _ => rfl) 0 rfl g402 (by decide) d_M_lays_402 rfl ?_
  refine r_iinc C (q := 406) (lv' := [(4, vI (v4 + 1)), (0, .ref ((mW G).h 0)), (3, vI v3), (5, vI v5)]) 2 d_M_lays_403 rfl (by decide) rfl rfl ?_
  refine r_goto C (q := 242) d_M_lays_406 (by decide) ?_
  exact r_sub [1, 2, 0] rfl (hk242 _ _  hf)
theorem s_m_lays_285 {X : CxT} {l : Launch} {G : GG} (C : Cx X l (mW G) 8 prog_14_method_42_code "OneSelfModel" (wo y_M_lays prog_14_method_42_code 8 (some .boolean)) (some .boolean) rm_m_lays) {o : Int × St} {N : Nat} {v3 v4 v5 v6 : Int} {k235 : Int → St → MM} (hk235 : ∀ (u3 : Int) (s : St), k235 u3 s = some o → Rj X (mW G) 8 (qI X (mW G) o) 235 [(0, .ref ((mW G).h 0)), (3, vI u3)] [] s) {k242 : Int → St → MM} (hk242 : ∀ (u4 : Int) (s : St), k242 u4 s = some o → Rj X (mW G) 8 (qI X (mW G) o) 242 [(0, .ref ((mW G).h 0)), (3, vI v3), (4, vI u4)] [] s) {k285 : Int → Int → St → MM} (hk285 : ∀ (u5 u6 : Int) (s : St), k285 u5 u6 s = some o → Rj X (mW G) 8 (qI X (mW G) o) 285 [(0, .ref ((mW G).h 0)), (3, vI v3), (4, vI v4), (5, vI u5), (6, vI u6)] [] s) {s : St} (hf : m_lays_285 N k235 k242 v3 v4 k285 v5 v6 s = some o) : Rj X (mW G) 8 (qI X (mW G) o) 285 [(0, .ref ((mW G).h 0)), (3, vI v3), (4, vI v4), (5, vI v5), (6, vI v6)] [] s := by
  unfold m_lays_285 at hf
  refine r_iload C (q := 287) 4 d_M_lays_285 rfl rfl ?_
  refine r_aload_n C (q := 288) 0 d_M_lays_287 rfl rfl rfl ?_
  refine gxm_M_ofB C (q := 291) fl_M_235 d_M_lays_288 rfl ?_
  refine r_ic_ge C (t := 388) (q := 294) d_M_lays_291 (by decide) rfl (fun c291 => ?_) (fun c291 => ?_)
  · replace hf := ite_t c291 hf
    exact r_sub [0, 1, 2, 3] rfl (s_m_lays_388 C hk235 hk242 hf)
  · replace hf := ite_f c291 hf
    refine r_iload_n C (q := 295) 1 d_M_lays_294 rfl rfl rfl ?_
    refine r_aload_n C (q := 296) 0 d_M_lays_295 rfl rfl rfl ?_
    refine gxm_M_ofA C (q := 299) fl_M_232 d_M_lays_296 rfl ?_
    refine r_ic_ge C (t := 388) (q := 302) d_M_lays_299 (by decide) rfl (fun c299 => ?_) (fun c299 => ?_)
    · replace hf := ite_t c299 hf
      exact r_sub [0, 1, 2, 3] rfl (s_m_lays_388 C hk235 hk242 hf)
    · replace hf := ite_f c299 hf
      refine r_aload_n C (q := 303) 0 d_M_lays_302 rfl rfl rfl ?_
      refine gxm_M_worths C (q := 306) fl_M_75 d_M_lays_303 rfl ?_
      refine r_bipush C (q := 308) (x := 10) d_M_lays_306 rfl rfl ?_
      refine r_iload_n C (q := 309) 1 d_M_lays_308 rfl rfl rfl ?_
      refine r_imul C (q := 310) d_M_lays_309 rfl ?_
      refine r_iload C (q := 312) 4 d_M_lays_310 rfl rfl ?_
      refine r_iadd C (q := 313) d_M_lays_312 rfl ?_
      obtain ⟨g313, hf⟩ := gd_s hf
      refine r_iald C (q := 314) 20 (Nat.le_of_ble_eq_true rfl) (fun _ => rfl) 0 rfl g313 (by decide) d_M_lays_313 rfl ?_
      refine r_if_le C (t := 363) (q := 317) d_M_lays_314 (by decide) rfl (fun c314 => ?_) (fun c314 => ?_)
      · replace hf := ite_t c314 hf
        exact r_sub [0, 1, 2, 3, 4] rfl (s_m_lays_363 C hk235 hk242 hk285 hf)
      · replace hf := ite_f c314 hf
        refine r_iload C (q := 319) 2 d_M_lays_317 rfl rfl ?_
        refine r_iload C (q := 321) 4 d_M_lays_319 rfl rfl ?_
        refine r_ishr C (q := 322) d_M_lays_321 rfl ?_
        refine r_iconst C (q := 323) d_M_lays_322 rfl ?_
        refine r_iand C (q := 324) d_M_lays_323 rfl ?_
        refine r_if_ne C (t := 363) (q := 327) d_M_lays_324 (by decide) rfl (fun c324 => ?_) (fun c324 => ?_)
        · replace hf := ite_t c324 hf
          refine r_aload_n C (q := 328) 0 d_M_lays_327 rfl rfl rfl ?_
          refine gxm_M_worths C (q := 331) fl_M_75 d_M_lays_328 rfl ?_
          refine r_bipush C (q := 333) (x := 10) d_M_lays_331 rfl rfl ?_
          refine r_iload_n C (q := 334) 1 d_M_lays_333 rfl rfl rfl ?_
          refine r_imul C (q := 335) d_M_lays_334 rfl ?_
          refine r_iload C (q := 337) 4 d_M_lays_335 rfl rfl ?_
          refine r_iadd C (q := 338) d_M_lays_337 rfl ?_
          obtain ⟨g338, hf⟩ := gd_s hf
          refine r_iald C (q := 339) 20 (Nat.le_of_ble_eq_true rfl) (fun _ => rfl) 0 rfl g338 (by decide) d_M_lays_338 rfl ?_
          refine r_aload_n C (q := 340) 0 d_M_lays_339 rfl rfl rfl ?_
          refine gxm_M_bests C (q := 343) fl_M_78 d_M_lays_340 rfl ?_
          refine r_sipush C (q := 346) (x := 1024) d_M_lays_343 rfl rfl ?_
          refine r_iload_n C (q := 347) 1 d_M_lays_346 rfl rfl rfl ?_
          refine r_iconst C (q := 348) d_M_lays_347 rfl ?_
          refine r_iadd C (q := 349) d_M_lays_348 rfl ?_
          refine r_imul C (q := 350) d_M_lays_349 rfl ?_
          refine r_iload C (q := 352) 2 d_M_lays_350 rfl rfl ?_
          refine r_iconst C (q := 353) d_M_lays_352 rfl ?_
          refine r_iload C (q := 355) 4 d_M_lays_353 rfl rfl ?_
          refine r_ishl C (q := 356) d_M_lays_355 rfl ?_
          refine r_ior C (q := 357) d_M_lays_356 rfl ?_
          refine r_iadd C (q := 358) d_M_lays_357 rfl ?_
          obtain ⟨g358, hf⟩ := gd_s hf
          refine r_iald C (q := 359) 21 (Nat.le_of_ble_eq_true rfl) (fun _ => rfl) 0 rfl g358 (by decide) d_M_lays_358 rfl ?_
          refine r_iadd C (q := 360) d_M_lays_359 rfl ?_
          refine r_goto C (q := 364) d_M_lays_360 (by decide) ?_
          exact r_sub [0, 1, 2, 3, 4] rfl (s_m_lays_364 C hk235 hk242 hk285 hf)
        · replace hf := ite_f c324 hf
          exact r_sub [0, 1, 2, 3, 4] rfl (s_m_lays_363 C hk235 hk242 hk285 hf)
theorem s_m_lays_280 {X : CxT} {l : Launch} {G : GG} (C : Cx X l (mW G) 8 prog_14_method_42_code "OneSelfModel" (wo y_M_lays prog_14_method_42_code 8 (some .boolean)) (some .boolean) rm_m_lays) {o : Int × St} {N : Nat} {v3 v4 t0 : Int} {k235 : Int → St → MM} (hk235 : ∀ (u3 : Int) (s : St), k235 u3 s = some o → Rj X (mW G) 8 (qI X (mW G) o) 235 [(0, .ref ((mW G).h 0)), (3, vI u3)] [] s) {k242 : Int → St → MM} (hk242 : ∀ (u4 : Int) (s : St), k242 u4 s = some o → Rj X (mW G) 8 (qI X (mW G) o) 242 [(0, .ref ((mW G).h 0)), (3, vI v3), (4, vI u4)] [] s) {s : St} (hf : m_lays_280 N k235 k242 v3 v4 t0 s = some o) : Rj X (mW G) 8 (qI X (mW G) o) 280 [(0, .ref ((mW G).h 0)), (3, vI v3), (4, vI v4)] [vI t0] s := by
  unfold m_lays_280 at hf
  refine r_istore C (q := 282) (lv' := [(5, vI t0), (0, .ref ((mW G).h 0)), (3, vI v3), (4, vI v4)]) d_M_lays_280 (by decide) rfl rfl ?_
  refine r_iconst C (q := 283) d_M_lays_282 rfl ?_
  refine r_istore C (q := 285) (lv' := [(6, vI 0), (5, vI t0), (0, .ref ((mW G).h 0)), (3, vI v3), (4, vI v4)]) d_M_lays_283 (by decide) rfl rfl ?_
  have hL : ∀ (u5 u6 : Int) (z : St), itr (m_lays_285 N k235 k242 v3 v4) (fun _ _ _ => none) N u5 u6 z = some o → Rj X (mW G) 8 (qI X (mW G) o) 285 [(0, .ref ((mW G).h 0)), (3, vI v3), (4, vI v4), (5, vI u5), (6, vI u6)] [] z := itr_ind (m_lays_285 N k235 k242 v3 v4) (fun _ _ _ => none) (fun k => ∀ (u5 u6 : Int) (z : St), k u5 u6 z = some o → Rj X (mW G) 8 (qI X (mW G) o) 285 [(0, .ref ((mW G).h 0)), (3, vI v3), (4, vI v4), (5, vI u5), (6, vI u6)] [] z) (fun _ _ _  h => by cases h) (fun k hk u5 u6 z h => s_m_lays_285 C hk235 hk242 hk h) N
  exact r_sub [2, 3, 4, 1, 0] rfl (hL _ _ _  hf)
theorem s_m_lays_242 {X : CxT} {l : Launch} {G : GG} (C : Cx X l (mW G) 8 prog_14_method_42_code "OneSelfModel" (wo y_M_lays prog_14_method_42_code 8 (some .boolean)) (some .boolean) rm_m_lays) {o : Int × St} {N : Nat} {v3 v4 : Int} {k235 : Int → St → MM} (hk235 : ∀ (u3 : Int) (s : St), k235 u3 s = some o → Rj X (mW G) 8 (qI X (mW G) o) 235 [(0, .ref ((mW G).h 0)), (3, vI u3)] [] s) {k242 : Int → St → MM} (hk242 : ∀ (u4 : Int) (s : St), k242 u4 s = some o → Rj X (mW G) 8 (qI X (mW G) o) 242 [(0, .ref ((mW G).h 0)), (3, vI v3), (4, vI u4)] [] s) {s : St} (hf : m_lays_242 N k235 v3 k242 v4 s = some o) : Rj X (mW G) 8 (qI X (mW G) o) 242 [(0, .ref ((mW G).h 0)), (3, vI v3), (4, vI v4)] [] s := by
  unfold m_lays_242 at hf
  refine r_iload C (q := 244) 2 d_M_lays_242 rfl rfl ?_
  refine r_iconst C (q := 245) d_M_lays_244 rfl ?_
  refine r_aload_n C (q := 246) 0 d_M_lays_245 rfl rfl rfl ?_
  refine gxm_M_ofB C (q := 249) fl_M_235 d_M_lays_246 rfl ?_
  refine r_ishl C (q := 250) d_M_lays_249 rfl ?_
  refine r_ic_ge C (t := 409) (q := 253) d_M_lays_250 (by decide) rfl (fun c250 => ?_) (fun c250 => ?_)
  · replace hf := ite_t c250 hf
    refine r_iinc C (q := 412) (lv' := [(3, vI (v3 + (-1))), (0, .ref ((mW G).h 0)), (4, vI v4)]) 1 d_M_lays_409 rfl (by decide) rfl rfl ?_
    refine r_goto C (q := 235) d_M_lays_412 (by decide) ?_
    exact r_sub [1, 0] rfl (hk235 _ _  hf)
  · replace hf := ite_f c250 hf
    refine r_iload_n C (q := 254) 1 d_M_lays_253 rfl rfl rfl ?_
    refine r_aload_n C (q := 255) 0 d_M_lays_254 rfl rfl rfl ?_
    refine gxm_M_ofA C (q := 258) fl_M_232 d_M_lays_255 rfl ?_
    refine r_ic_ne C (t := 265) (q := 261) d_M_lays_258 (by decide) rfl (fun c258 => ?_) (fun c258 => ?_)
    · replace hf := ite_t c258 hf
      refine r_iconst C (q := 262) d_M_lays_261 rfl ?_
      refine r_goto C (q := 280) d_M_lays_262 (by decide) ?_
      exact r_sub [0, 1, 2] rfl (s_m_lays_280 C hk235 hk242 hf)
    · replace hf := ite_f c258 hf
      refine r_aload_n C (q := 266) 0 d_M_lays_265 rfl rfl rfl ?_
      refine gxm_M_bests C (q := 269) fl_M_78 d_M_lays_266 rfl ?_
      refine r_sipush C (q := 272) (x := 1024) d_M_lays_269 rfl rfl ?_
      refine r_iload_n C (q := 273) 1 d_M_lays_272 rfl rfl rfl ?_
      refine r_iconst C (q := 274) d_M_lays_273 rfl ?_
      refine r_iadd C (q := 275) d_M_lays_274 rfl ?_
      refine r_imul C (q := 276) d_M_lays_275 rfl ?_
      refine r_iload C (q := 278) 2 d_M_lays_276 rfl rfl ?_
      refine r_iadd C (q := 279) d_M_lays_278 rfl ?_
      obtain ⟨g279, hf⟩ := gd_s hf
      refine r_iald C (q := 280) 21 (Nat.le_of_ble_eq_true rfl) (fun _ => rfl) 0 rfl g279 (by decide) d_M_lays_279 rfl ?_
      exact r_sub [0, 1, 2] rfl (s_m_lays_280 C hk235 hk242 hf)
theorem s_m_lays_235 {X : CxT} {l : Launch} {G : GG} (C : Cx X l (mW G) 8 prog_14_method_42_code "OneSelfModel" (wo y_M_lays prog_14_method_42_code 8 (some .boolean)) (some .boolean) rm_m_lays) {o : Int × St} {N : Nat} {v3 : Int} {k235 : Int → St → MM} (hk235 : ∀ (u3 : Int) (s : St), k235 u3 s = some o → Rj X (mW G) 8 (qI X (mW G) o) 235 [(0, .ref ((mW G).h 0)), (3, vI u3)] [] s) {s : St} (hf : m_lays_235 N  k235 v3 s = some o) : Rj X (mW G) 8 (qI X (mW G) o) 235 [(0, .ref ((mW G).h 0)), (3, vI v3)] [] s := by
  unfold m_lays_235 at hf
  refine r_iload_n C (q := 236) 1 d_M_lays_235 rfl rfl rfl ?_
  refine r_if_lt C (t := 415) (q := 239) d_M_lays_236 (by decide) rfl (fun c236 => ?_) (fun c236 => ?_)
  · replace hf := ite_t c236 hf
    refine r_aload_n C (q := 416) 0 d_M_lays_415 rfl rfl rfl ?_
    obtain ⟨r416, s416, hg416, hf⟩ := bd_s hf
    refine r_cVV C (q := 419) (As := []) (k0 := 0) (c_m_follows C.i hg416) mt_M_follows ml_M_238 (Nat.le_of_ble_eq_true rfl) rfl rfl rfl rfl rfl rfl ⟨Nat.le_of_ble_eq_true rfl, Nat.le_of_ble_eq_true rfl⟩ rfl (Nat.le_of_ble_eq_true rfl) d_M_lays_416 rfl ?_
    refine r_iconst C (q := 420) d_M_lays_419 rfl ?_
    exact r_zreturn C (by decide) hf d_M_lays_420
  · replace hf := ite_f c236 hf
    refine r_iconst C (q := 240) d_M_lays_239 rfl ?_
    refine r_istore C (q := 242) (lv' := [(4, vI 0), (0, .ref ((mW G).h 0)), (3, vI v3)]) d_M_lays_240 (by decide) rfl rfl ?_
    have hL : ∀ (u4 : Int) (z : St), itr (m_lays_242 N k235 v3) (fun _ _ => none) N u4 z = some o → Rj X (mW G) 8 (qI X (mW G) o) 242 [(0, .ref ((mW G).h 0)), (3, vI v3), (4, vI u4)] [] z := itr_ind (m_lays_242 N k235 v3) (fun _ _ => none) (fun k => ∀ (u4 : Int) (z : St), k u4 z = some o → Rj X (mW G) 8 (qI X (mW G) o) 242 [(0, .ref ((mW G).h 0)), (3, vI v3), (4, vI u4)] [] z) (fun _ _  h => by cases h) (fun k hk u4 z h => s_m_lays_242 C hk235 hk h) N
    exact r_sub [1, 2, 0] rfl (hL _ _  hf)
theorem s_m_lays_133 {X : CxT} {l : Launch} {G : GG} (C : Cx X l (mW G) 8 prog_14_method_42_code "OneSelfModel" (wo y_M_lays prog_14_method_42_code 8 (some .boolean)) (some .boolean) rm_m_lays) {o : Int × St} {N : Nat} {v3 : Int} {k133 : Int → St → MM} (hk133 : ∀ (u3 : Int) (s : St), k133 u3 s = some o → Rj X (mW G) 8 (qI X (mW G) o) 133 [(0, .ref ((mW G).h 0)), (3, vI u3)] [] s) {s : St} (hf : m_lays_133 N  k133 v3 s = some o) : Rj X (mW G) 8 (qI X (mW G) o) 133 [(0, .ref ((mW G).h 0)), (3, vI v3)] [] s := by
  unfold m_lays_133 at hf
  refine r_iload_n C (q := 134) 1 d_M_lays_133 rfl rfl rfl ?_
  refine r_aload_n C (q := 135) 0 d_M_lays_134 rfl rfl rfl ?_
  refine gxm_M_ofA C (q := 138) fl_M_232 d_M_lays_135 rfl ?_
  refine r_ic_ge C (t := 230) (q := 141) d_M_lays_138 (by decide) rfl (fun c138 => ?_) (fun c138 => ?_)
  · replace hf := ite_t c138 hf
    refine r_aload_n C (q := 231) 0 d_M_lays_230 rfl rfl rfl ?_
    refine gxm_M_ofA C (q := 234) fl_M_232 d_M_lays_231 rfl ?_
    refine r_istore_n C (q := 235) (lv' := [(3, vI (s 0 27)), (0, .ref ((mW G).h 0))]) d_M_lays_234 rfl (by decide) rfl rfl ?_
    have hL : ∀ (u3 : Int) (z : St), itr (m_lays_235 N ) (fun _ _ => none) N u3 z = some o → Rj X (mW G) 8 (qI X (mW G) o) 235 [(0, .ref ((mW G).h 0)), (3, vI u3)] [] z := itr_ind (m_lays_235 N ) (fun _ _ => none) (fun k => ∀ (u3 : Int) (z : St), k u3 z = some o → Rj X (mW G) 8 (qI X (mW G) o) 235 [(0, .ref ((mW G).h 0)), (3, vI u3)] [] z) (fun _ _  h => by cases h) (fun k hk u3 z h => s_m_lays_235 C hk h) N
    exact r_sub [1, 0] rfl (hL _ _  hf)
  · replace hf := ite_f c138 hf
    refine r_iconst C (q := 142) d_M_lays_141 rfl ?_
    refine r_istore C (q := 144) (lv' := [(4, vI 0), (0, .ref ((mW G).h 0)), (3, vI v3)]) d_M_lays_142 (by decide) rfl rfl ?_
    have hL : ∀ (u4 : Int) (z : St), itr (m_lays_144 N k133 v3) (fun _ _ => none) N u4 z = some o → Rj X (mW G) 8 (qI X (mW G) o) 144 [(0, .ref ((mW G).h 0)), (3, vI v3), (4, vI u4)] [] z := itr_ind (m_lays_144 N k133 v3) (fun _ _ => none) (fun k => ∀ (u4 : Int) (z : St), k u4 z = some o → Rj X (mW G) 8 (qI X (mW G) o) 144 [(0, .ref ((mW G).h 0)), (3, vI v3), (4, vI u4)] [] z) (fun _ _  h => by cases h) (fun k hk u4 z h => s_m_lays_144 C hk133 hk h) N
    exact r_sub [1, 2, 0] rfl (hL _ _  hf)
theorem s_m_lays_87 {X : CxT} {l : Launch} {G : GG} (C : Cx X l (mW G) 8 prog_14_method_42_code "OneSelfModel" (wo y_M_lays prog_14_method_42_code 8 (some .boolean)) (some .boolean) rm_m_lays) {o : Int × St} {N : Nat} {v1 v2 v3 : Int} {k38 : Int → St → MM} (hk38 : ∀ (u3 : Int) (s : St), k38 u3 s = some o → Rj X (mW G) 8 (qI X (mW G) o) 38 [(0, .ref ((mW G).h 0)), (1, vI v1), (2, vI v2), (3, vI u3)] [] s) {s : St} (hf : m_lays_87 N k38 v1 v2 v3 s = some o) : Rj X (mW G) 8 (qI X (mW G) o) 87 [(0, .ref ((mW G).h 0)), (1, vI v1), (2, vI v2), (3, vI v3)] [] s := by
  unfold m_lays_87 at hf
  refine r_aload_n C (q := 88) 0 d_M_lays_87 rfl rfl rfl ?_
  refine r_iload_n C (q := 89) 3 d_M_lays_88 rfl rfl rfl ?_
  obtain ⟨r89, s89, hg89, hf⟩ := bd_s hf
  refine r_cVI C (q := 92) (As := [vI v3]) (k0 := 0) (c_m_isKnown C.i hg89) mt_M_isKnown ml_M_151 (Nat.le_of_ble_eq_true rfl) rfl rfl rfl rfl rfl rfl ⟨Nat.le_of_ble_eq_true rfl, Nat.le_of_ble_eq_true rfl⟩ rfl (Nat.le_of_ble_eq_true rfl) d_M_lays_89 rfl ?_
  refine r_if_eq C (t := 125) (q := 95) d_M_lays_92 (by decide) rfl (fun c92 => ?_) (fun c92 => ?_)
  · replace hf := ite_t c92 hf
    exact r_sub [0, 1, 2, 3] rfl (s_m_lays_125 C hk38 hf)
  · replace hf := ite_f c92 hf
    refine r_aload_n C (q := 96) 0 d_M_lays_95 rfl rfl rfl ?_
    refine gxm_M_registerOf C (q := 99) fl_M_7 d_M_lays_96 rfl ?_
    refine r_iload_n C (q := 100) 3 d_M_lays_99 rfl rfl rfl ?_
    obtain ⟨g100, hf⟩ := gd_s hf
    refine r_iald C (q := 101) 1 (Nat.le_of_ble_eq_true rfl) (fun _ => rfl) 0 rfl g100 (by decide) d_M_lays_100 rfl ?_
    refine r_iload_n C (q := 102) 2 d_M_lays_101 rfl rfl rfl ?_
    refine r_ic_ne C (t := 125) (q := 105) d_M_lays_102 (by decide) rfl (fun c102 => ?_) (fun c102 => ?_)
    · replace hf := ite_t c102 hf
      refine r_aload_n C (q := 106) 0 d_M_lays_105 rfl rfl rfl ?_
      refine gxm_M_rowsB C (q := 109) fl_M_72 d_M_lays_106 rfl ?_
      refine r_aload_n C (q := 110) 0 d_M_lays_109 rfl rfl rfl ?_
      refine gxm_M_ofB C (q := 113) fl_M_235 d_M_lays_110 rfl ?_
      refine r_iload_n C (q := 114) 3 d_M_lays_113 rfl rfl rfl ?_
      obtain ⟨g114, hf⟩ := gd_s hf
      refine r_iast C (q := 115) 19 (Nat.le_of_ble_eq_true rfl) (fun _ => rfl) 0 rfl g114 (by decide) d_M_lays_114 rfl ?_
      refine r_aload_n C (q := 116) 0 d_M_lays_115 rfl rfl rfl ?_
      refine r_dup C (q := 117) d_M_lays_116 rfl rfl ?_
      refine gxm_M_ofB C (q := 120) fl_M_235 d_M_lays_117 rfl ?_
      refine r_iconst C (q := 121) d_M_lays_120 rfl ?_
      refine r_iadd C (q := 122) d_M_lays_121 rfl ?_
      refine pxm_M_ofB C (q := 125) fl_M_235 d_M_lays_122 rfl ?_
      exact r_sub [0, 1, 2, 3] rfl (s_m_lays_125 C hk38 hf)
    · replace hf := ite_f c102 hf
      exact r_sub [0, 1, 2, 3] rfl (s_m_lays_125 C hk38 hf)
theorem s_m_lays_38 {X : CxT} {l : Launch} {G : GG} (C : Cx X l (mW G) 8 prog_14_method_42_code "OneSelfModel" (wo y_M_lays prog_14_method_42_code 8 (some .boolean)) (some .boolean) rm_m_lays) {o : Int × St} {N : Nat} {v1 v2 v3 : Int} {k38 : Int → St → MM} (hk38 : ∀ (u3 : Int) (s : St), k38 u3 s = some o → Rj X (mW G) 8 (qI X (mW G) o) 38 [(0, .ref ((mW G).h 0)), (1, vI v1), (2, vI v2), (3, vI u3)] [] s) {s : St} (hf : m_lays_38 N v1 v2 k38 v3 s = some o) : Rj X (mW G) 8 (qI X (mW G) o) 38 [(0, .ref ((mW G).h 0)), (1, vI v1), (2, vI v2), (3, vI v3)] [] s := by
  unfold m_lays_38 at hf
  refine r_iload_n C (q := 39) 3 d_M_lays_38 rfl rfl rfl ?_
  refine r_aload_n C (q := 40) 0 d_M_lays_39 rfl rfl rfl ?_
  refine gxm_M_rows C (q := 43) fl_M_130 d_M_lays_40 rfl ?_
  refine r_ic_ge C (t := 131) (q := 46) d_M_lays_43 (by decide) rfl (fun c43 => ?_) (fun c43 => ?_)
  · replace hf := ite_t c43 hf
    refine r_iconst C (q := 132) d_M_lays_131 rfl ?_
    refine r_istore_n C (q := 133) (lv' := [(3, vI 0), (0, .ref ((mW G).h 0)), (1, vI v1), (2, vI v2)]) d_M_lays_132 rfl (by decide) rfl rfl ?_
    have hL : ∀ (u3 : Int) (z : St), itr (m_lays_133 N ) (fun _ _ => none) N u3 z = some o → Rj X (mW G) 8 (qI X (mW G) o) 133 [(0, .ref ((mW G).h 0)), (3, vI u3)] [] z := itr_ind (m_lays_133 N ) (fun _ _ => none) (fun k => ∀ (u3 : Int) (z : St), k u3 z = some o → Rj X (mW G) 8 (qI X (mW G) o) 133 [(0, .ref ((mW G).h 0)), (3, vI u3)] [] z) (fun _ _  h => by cases h) (fun k hk u3 z h => s_m_lays_133 C hk h) N
    exact r_sub [1, 0] rfl (hL _ _  hf)
  · replace hf := ite_f c43 hf
    refine r_aload_n C (q := 47) 0 d_M_lays_46 rfl rfl rfl ?_
    refine r_iload_n C (q := 48) 3 d_M_lays_47 rfl rfl rfl ?_
    obtain ⟨r48, s48, hg48, hf⟩ := bd_s hf
    refine r_cVI C (q := 51) (As := [vI v3]) (k0 := 0) (c_m_isKnown C.i hg48) mt_M_isKnown ml_M_151 (Nat.le_of_ble_eq_true rfl) rfl rfl rfl rfl rfl rfl ⟨Nat.le_of_ble_eq_true rfl, Nat.le_of_ble_eq_true rfl⟩ rfl (Nat.le_of_ble_eq_true rfl) d_M_lays_48 rfl ?_
    refine r_if_eq C (t := 87) (q := 54) d_M_lays_51 (by decide) rfl (fun c51 => ?_) (fun c51 => ?_)
    · replace hf := ite_t c51 hf
      exact r_sub [0, 1, 2, 3] rfl (s_m_lays_87 C hk38 hf)
    · replace hf := ite_f c51 hf
      refine r_aload_n C (q := 55) 0 d_M_lays_54 rfl rfl rfl ?_
      refine gxm_M_registerOf C (q := 58) fl_M_7 d_M_lays_55 rfl ?_
      refine r_iload_n C (q := 59) 3 d_M_lays_58 rfl rfl rfl ?_
      obtain ⟨g59, hf⟩ := gd_s hf
      refine r_iald C (q := 60) 1 (Nat.le_of_ble_eq_true rfl) (fun _ => rfl) 0 rfl g59 (by decide) d_M_lays_59 rfl ?_
      refine r_iload_n C (q := 61) 1 d_M_lays_60 rfl rfl rfl ?_
      refine r_ic_ne C (t := 87) (q := 64) d_M_lays_61 (by decide) rfl (fun c61 => ?_) (fun c61 => ?_)
      · replace hf := ite_t c61 hf
        refine r_aload_n C (q := 65) 0 d_M_lays_64 rfl rfl rfl ?_
        refine gxm_M_rowsA C (q := 68) fl_M_69 d_M_lays_65 rfl ?_
        refine r_aload_n C (q := 69) 0 d_M_lays_68 rfl rfl rfl ?_
        refine gxm_M_ofA C (q := 72) fl_M_232 d_M_lays_69 rfl ?_
        refine r_iload_n C (q := 73) 3 d_M_lays_72 rfl rfl rfl ?_
        obtain ⟨g73, hf⟩ := gd_s hf
        refine r_iast C (q := 74) 18 (Nat.le_of_ble_eq_true rfl) (fun _ => rfl) 0 rfl g73 (by decide) d_M_lays_73 rfl ?_
        refine r_aload_n C (q := 75) 0 d_M_lays_74 rfl rfl rfl ?_
        refine r_dup C (q := 76) d_M_lays_75 rfl rfl ?_
        refine gxm_M_ofA C (q := 79) fl_M_232 d_M_lays_76 rfl ?_
        refine r_iconst C (q := 80) d_M_lays_79 rfl ?_
        refine r_iadd C (q := 81) d_M_lays_80 rfl ?_
        refine pxm_M_ofA C (q := 84) fl_M_232 d_M_lays_81 rfl ?_
        refine r_goto C (q := 125) d_M_lays_84 (by decide) ?_
        exact r_sub [0, 1, 2, 3] rfl (s_m_lays_125 C hk38 hf)
      · replace hf := ite_f c61 hf
        exact r_sub [0, 1, 2, 3] rfl (s_m_lays_87 C hk38 hf)
theorem c_m_lays {l : Launch} {G : GG} (hi : wo_i (mW G)) {N : Nat} {v1 v2 : Int} {s : St} {o : Int × St} (hf : m_lays N v1 v2 s = some o) : CtI l (mW G) y_M_lays (wo y_M_lays prog_14_method_42_code 8 (some .boolean)) rm_m_lays [.ref ((mW G).h 0), vI v1, vI v2] s o := by
  refine ct_I (by decide +kernel) hi (Nat.le_of_ble_eq_true rfl) fun X C => ?_
  unfold m_lays at hf
  show Rj X (mW G) 8 (qI X (mW G) o) 0 [(0, .ref ((mW G).h 0)), (1, vI v1), (2, vI v2)] [] s
  refine r_aload_n C (q := 1) 0 d_M_lays_0 rfl rfl rfl ?_
  refine r_iload_n C (q := 2) 1 d_M_lays_1 rfl rfl rfl ?_
  obtain ⟨r2, s2, hg2, hf⟩ := bd_s hf
  refine r_cVI C (q := 5) (As := [vI v1]) (k0 := 0) (c_m_knownOf C.i hg2) mt_M_knownOf ml_M_229 (Nat.le_of_ble_eq_true rfl) rfl rfl rfl rfl rfl rfl ⟨Nat.le_of_ble_eq_true rfl, Nat.le_of_ble_eq_true rfl⟩ rfl (Nat.le_of_ble_eq_true rfl) d_M_lays_2 rfl ?_
  refine r_bipush C (q := 7) (x := 10) d_M_lays_5 rfl rfl ?_
  refine r_ic_gt C (t := 20) (q := 10) d_M_lays_7 (by decide) rfl (fun c7 => ?_) (fun c7 => ?_)
  · replace hf := ite_t c7 hf
    refine r_iconst C (q := 21) d_M_lays_20 rfl ?_
    exact r_zreturn C (by decide) hf d_M_lays_21
  · replace hf := ite_f c7 hf
    refine r_aload_n C (q := 11) 0 d_M_lays_10 rfl rfl rfl ?_
    refine r_iload_n C (q := 12) 2 d_M_lays_11 rfl rfl rfl ?_
    obtain ⟨r12, s12, hg12, hf⟩ := bd_s hf
    refine r_cVI C (q := 15) (As := [vI v2]) (k0 := 0) (c_m_knownOf C.i hg12) mt_M_knownOf ml_M_229 (Nat.le_of_ble_eq_true rfl) rfl rfl rfl rfl rfl rfl ⟨Nat.le_of_ble_eq_true rfl, Nat.le_of_ble_eq_true rfl⟩ rfl (Nat.le_of_ble_eq_true rfl) d_M_lays_12 rfl ?_
    refine r_bipush C (q := 17) (x := 10) d_M_lays_15 rfl rfl ?_
    refine r_ic_le C (t := 22) (q := 20) d_M_lays_17 (by decide) rfl (fun c17 => ?_) (fun c17 => ?_)
    · replace hf := ite_t c17 hf
      refine r_aload_n C (q := 23) 0 d_M_lays_22 rfl rfl rfl ?_
      obtain ⟨r23, s23, hg23, hf⟩ := bd_s hf
      refine r_cVV C (q := 26) (As := []) (k0 := 0) (c_m_looks C.i hg23) mt_M_looks ml_M_226 (Nat.le_of_ble_eq_true rfl) rfl rfl rfl rfl rfl rfl ⟨Nat.le_of_ble_eq_true rfl, Nat.le_of_ble_eq_true rfl⟩ rfl (Nat.le_of_ble_eq_true rfl) d_M_lays_23 rfl ?_
      refine r_aload_n C (q := 27) 0 d_M_lays_26 rfl rfl rfl ?_
      refine r_iconst C (q := 28) d_M_lays_27 rfl ?_
      refine pxm_M_ofA C (q := 31) fl_M_232 d_M_lays_28 rfl ?_
      refine r_aload_n C (q := 32) 0 d_M_lays_31 rfl rfl rfl ?_
      refine r_iconst C (q := 33) d_M_lays_32 rfl ?_
      refine pxm_M_ofB C (q := 36) fl_M_235 d_M_lays_33 rfl ?_
      refine r_iconst C (q := 37) d_M_lays_36 rfl ?_
      refine r_istore_n C (q := 38) (lv' := [(3, vI 0), (0, .ref ((mW G).h 0)), (1, vI v1), (2, vI v2)]) d_M_lays_37 rfl (by decide) rfl rfl ?_
      have hL : ∀ (u3 : Int) (z : St), itr (m_lays_38 N v1 v2) (fun _ _ => none) N u3 z = some o → Rj X (mW G) 8 (qI X (mW G) o) 38 [(0, .ref ((mW G).h 0)), (1, vI v1), (2, vI v2), (3, vI u3)] [] z := itr_ind (m_lays_38 N v1 v2) (fun _ _ => none) (fun k => ∀ (u3 : Int) (z : St), k u3 z = some o → Rj X (mW G) 8 (qI X (mW G) o) 38 [(0, .ref ((mW G).h 0)), (1, vI v1), (2, vI v2), (3, vI u3)] [] z) (fun _ _  h => by cases h) (fun k hk u3 z h => s_m_lays_38 C hk h) N
      exact r_sub [1, 2, 3, 0] rfl (hL _ _  hf)
    · replace hf := ite_f c17 hf
      refine r_iconst C (q := 21) d_M_lays_20 rfl ?_
      exact r_zreturn C (by decide) hf d_M_lays_21
def m_laid (N : Nat) (v1 v2 v3 : Int) (s : St) : MM := bd (m_areRegisters N v1 v2 s) (fun r2 s2 => if eq32 r2 0 then (some ((-2), s2)) else (bd (m_in N v3 0 1 s2) (fun r11 s11 => if eq32 r11 0 then (some ((-2), s11)) else (bd (m_lays N v1 v2 s11) (fun r23 s23 => if eq32 r23 0 then (some ((-3), s23)) else (if eq32 v3 0 then (some (s23 0 34, s23)) else (gd (inb 0 11264) (some (s23 21 0, s23)))))))))
abbrev rm_m_laid : Room := { frames := 10, cells := 0, slots := 0, locals := 243 }
theorem c_m_laid {l : Launch} {G : GG} (hi : wo_i (mW G)) {N : Nat} {v1 v2 v3 : Int} {s : St} {o : Int × St} (hf : m_laid N v1 v2 v3 s = some o) : CtI l (mW G) y_M_laid (wo y_M_laid prog_14_method_45_code 4 (some .int)) rm_m_laid [.ref ((mW G).h 0), vI v1, vI v2, vI v3] s o := by
  refine ct_I (by decide +kernel) hi (Nat.le_of_ble_eq_true rfl) fun X C => ?_
  unfold m_laid at hf
  show Rj X (mW G) 4 (qI X (mW G) o) 0 [(0, .ref ((mW G).h 0)), (1, vI v1), (2, vI v2), (3, vI v3)] [] s
  refine r_iload_n C (q := 1) 1 d_M_laid_0 rfl rfl rfl ?_
  refine r_iload_n C (q := 2) 2 d_M_laid_1 rfl rfl rfl ?_
  obtain ⟨r2, s2, hg2, hf⟩ := bd_s hf
  refine r_cSI C (q := 5) (As := [vI v1, vI v2]) (c_m_areRegisters C.i hg2) mt_M_areRegisters ml_M_244 rfl rfl rfl ⟨Nat.le_of_ble_eq_true rfl, Nat.le_of_ble_eq_true rfl⟩ rfl (Nat.le_of_ble_eq_true rfl) d_M_laid_2 rfl ?_
  refine r_if_eq C (t := 17) (q := 8) d_M_laid_5 (by decide) rfl (fun c5 => ?_) (fun c5 => ?_)
  · replace hf := ite_t c5 hf
    refine r_bipush C (q := 19) (x := (-2)) d_M_laid_17 rfl rfl ?_
    exact r_ireturn C hf d_M_laid_19
  · replace hf := ite_f c5 hf
    refine r_iload_n C (q := 9) 3 d_M_laid_8 rfl rfl rfl ?_
    refine r_iconst C (q := 10) d_M_laid_9 rfl ?_
    refine r_iconst C (q := 11) d_M_laid_10 rfl ?_
    obtain ⟨r11, s11, hg11, hf⟩ := bd_s hf
    refine r_cSI C (q := 14) (As := [vI v3, vI 0, vI 1]) (c_m_in C.i hg11) mt_M_in ml_M_133 rfl rfl rfl ⟨Nat.le_of_ble_eq_true rfl, Nat.le_of_ble_eq_true rfl⟩ rfl (Nat.le_of_ble_eq_true rfl) d_M_laid_11 rfl ?_
    refine r_if_ne C (t := 20) (q := 17) d_M_laid_14 (by decide) rfl (fun c14 => ?_) (fun c14 => ?_)
    · replace hf := ite_t c14 hf
      refine r_bipush C (q := 19) (x := (-2)) d_M_laid_17 rfl rfl ?_
      exact r_ireturn C hf d_M_laid_19
    · replace hf := ite_f c14 hf
      refine r_aload_n C (q := 21) 0 d_M_laid_20 rfl rfl rfl ?_
      refine r_iload_n C (q := 22) 1 d_M_laid_21 rfl rfl rfl ?_
      refine r_iload_n C (q := 23) 2 d_M_laid_22 rfl rfl rfl ?_
      obtain ⟨r23, s23, hg23, hf⟩ := bd_s hf
      refine r_cVI C (q := 26) (As := [vI v1, vI v2]) (k0 := 0) (c_m_lays C.i hg23) mt_M_lays ml_M_247 (Nat.le_of_ble_eq_true rfl) rfl rfl rfl rfl rfl rfl ⟨Nat.le_of_ble_eq_true rfl, Nat.le_of_ble_eq_true rfl⟩ rfl (Nat.le_of_ble_eq_true rfl) d_M_laid_23 rfl ?_
      refine r_if_ne C (t := 34) (q := 29) d_M_laid_26 (by decide) rfl (fun c26 => ?_) (fun c26 => ?_)
      · replace hf := ite_t c26 hf
        refine r_bipush C (q := 31) (x := (-3)) d_M_laid_29 rfl rfl ?_
        refine r_goto C (q := 51) d_M_laid_31 (by decide) ?_
        exact r_ireturn C hf d_M_laid_51
      · replace hf := ite_f c26 hf
        refine r_iload_n C (q := 35) 3 d_M_laid_34 rfl rfl rfl ?_
        refine r_if_ne C (t := 45) (q := 38) d_M_laid_35 (by decide) rfl (fun c35 => ?_) (fun c35 => ?_)
        · replace hf := ite_t c35 hf
          refine r_aload_n C (q := 39) 0 d_M_laid_38 rfl rfl rfl ?_
          refine gxm_M_laidMany C (q := 42) fl_M_241 d_M_laid_39 rfl ?_
          refine r_goto C (q := 51) d_M_laid_42 (by decide) ?_
          exact r_ireturn C hf d_M_laid_51
        · replace hf := ite_f c35 hf
          refine r_aload_n C (q := 46) 0 d_M_laid_45 rfl rfl rfl ?_
          refine gxm_M_bests C (q := 49) fl_M_78 d_M_laid_46 rfl ?_
          refine r_iconst C (q := 50) d_M_laid_49 rfl ?_
          obtain ⟨g50, hf⟩ := gd_s hf
          refine r_iald C (q := 51) 21 (Nat.le_of_ble_eq_true rfl) (fun _ => rfl) 0 rfl g50 (by decide) d_M_laid_50 rfl ?_
          exact r_ireturn C hf d_M_laid_51
def m_mate_51 (N : Nat) (v1 : Int) (k51 : Int → St → MM) (v3 : Int) (s : St) : MM := if le32 (s 0 27) v3 then (some ((-1), s)) else (gd (inb v3 10) (if eq32 (s 18 v3) v1 then (gd (inb v3 10) (if eq32 (s 22 v3) ((-1)) then (some ((-1), s)) else (gd (inb v3 10) (gd (inb (s 22 v3) 10) (some (s 19 (s 22 v3), s)))))) else (k51 (v3 + 1) s)))
def m_mate (N : Nat) (v1 v2 : Int) (s : St) : MM := bd (m_isRow N v1 s) (fun r2 s2 => if eq32 r2 0 then (some ((-2), s2)) else (bd (m_isKnown N v1 s2) (fun r10 s10 => if eq32 r10 0 then (some ((-2), s10)) else (gd (inb v1 36) (bd (m_areRegisters N (s10 1 v1) v2 s10) (fun r23 s23 => if eq32 r23 0 then (some ((-2), s23)) else (gd (inb v1 36) (bd (m_lays N (s23 1 v1) v2 s23) (fun r40 s40 => if eq32 r40 0 then (some ((-3), s40)) else (itr (m_mate_51 N v1) (fun _ _ => none) N 0 s40))))))))))
abbrev rm_m_mate : Room := { frames := 10, cells := 0, slots := 0, locals := 243 }
theorem s_m_mate_51 {X : CxT} {l : Launch} {G : GG} (C : Cx X l (mW G) 4 prog_14_method_46_code "OneSelfModel" (wo y_M_mate prog_14_method_46_code 4 (some .int)) (some .int) rm_m_mate) {o : Int × St} {N : Nat} {v1 v3 : Int} {k51 : Int → St → MM} (hk51 : ∀ (u3 : Int) (s : St), k51 u3 s = some o → Rj X (mW G) 4 (qI X (mW G) o) 51 [(0, .ref ((mW G).h 0)), (1, vI v1), (3, vI u3)] [] s) {s : St} (hf : m_mate_51 N v1 k51 v3 s = some o) : Rj X (mW G) 4 (qI X (mW G) o) 51 [(0, .ref ((mW G).h 0)), (1, vI v1), (3, vI v3)] [] s := by
  unfold m_mate_51 at hf
  refine r_iload_n C (q := 52) 2 d_M_mate_51 rfl rfl rfl ?_
  refine r_aload_n C (q := 53) 0 d_M_mate_52 rfl rfl rfl ?_
  refine gxm_M_ofA C (q := 56) fl_M_232 d_M_mate_53 rfl ?_
  refine r_ic_ge C (t := 101) (q := 59) d_M_mate_56 (by decide) rfl (fun c56 => ?_) (fun c56 => ?_)
  · replace hf := ite_t c56 hf
    refine r_iconst C (q := 102) d_M_mate_101 rfl ?_
    exact r_ireturn C hf d_M_mate_102
  · replace hf := ite_f c56 hf
    refine r_aload_n C (q := 60) 0 d_M_mate_59 rfl rfl rfl ?_
    refine gxm_M_rowsA C (q := 63) fl_M_69 d_M_mate_60 rfl ?_
    refine r_iload_n C (q := 64) 2 d_M_mate_63 rfl rfl rfl ?_
    obtain ⟨g64, hf⟩ := gd_s hf
    refine r_iald C (q := 65) 18 (Nat.le_of_ble_eq_true rfl) (fun _ => rfl) 0 rfl g64 (by decide) d_M_mate_64 rfl ?_
    refine r_iload_n C (q := 66) 1 d_M_mate_65 rfl rfl rfl ?_
    refine r_ic_ne C (t := 95) (q := 69) d_M_mate_66 (by decide) rfl (fun c66 => ?_) (fun c66 => ?_)
    · replace hf := ite_t c66 hf
      refine r_aload_n C (q := 70) 0 d_M_mate_69 rfl rfl rfl ?_
      refine gxm_M_mates C (q := 73) fl_M_81 d_M_mate_70 rfl ?_
      refine r_iload_n C (q := 74) 2 d_M_mate_73 rfl rfl rfl ?_
      obtain ⟨g74, hf⟩ := gd_s hf
      refine r_iald C (q := 75) 22 (Nat.le_of_ble_eq_true rfl) (fun _ => rfl) 0 rfl g74 (by decide) d_M_mate_74 rfl ?_
      refine r_iconst C (q := 76) d_M_mate_75 rfl ?_
      refine r_ic_ne C (t := 83) (q := 79) d_M_mate_76 (by decide) rfl (fun c76 => ?_) (fun c76 => ?_)
      · replace hf := ite_t c76 hf
        refine r_iconst C (q := 80) d_M_mate_79 rfl ?_
        refine r_goto C (q := 94) d_M_mate_80 (by decide) ?_
        exact r_ireturn C hf d_M_mate_94
      · replace hf := ite_f c76 hf
        refine r_aload_n C (q := 84) 0 d_M_mate_83 rfl rfl rfl ?_
        refine gxm_M_rowsB C (q := 87) fl_M_72 d_M_mate_84 rfl ?_
        refine r_aload_n C (q := 88) 0 d_M_mate_87 rfl rfl rfl ?_
        refine gxm_M_mates C (q := 91) fl_M_81 d_M_mate_88 rfl ?_
        refine r_iload_n C (q := 92) 2 d_M_mate_91 rfl rfl rfl ?_
        obtain ⟨g92, hf⟩ := gd_s hf
        refine r_iald C (q := 93) 22 (Nat.le_of_ble_eq_true rfl) (fun _ => rfl) 0 rfl g92 (by decide) d_M_mate_92 rfl ?_
        obtain ⟨g93, hf⟩ := gd_s hf
        refine r_iald C (q := 94) 19 (Nat.le_of_ble_eq_true rfl) (fun _ => rfl) 0 rfl g93 (by decide) d_M_mate_93 rfl ?_
        exact r_ireturn C hf d_M_mate_94
    · replace hf := ite_f c66 hf
      refine r_iinc C (q := 98) (lv' := [(3, vI (v3 + 1)), (0, .ref ((mW G).h 0)), (1, vI v1)]) 2 d_M_mate_95 rfl (by decide) rfl rfl ?_
      refine r_goto C (q := 51) d_M_mate_98 (by decide) ?_
      exact r_sub [1, 2, 0] rfl (hk51 _ _  hf)
theorem c_m_mate {l : Launch} {G : GG} (hi : wo_i (mW G)) {N : Nat} {v1 v2 : Int} {s : St} {o : Int × St} (hf : m_mate N v1 v2 s = some o) : CtI l (mW G) y_M_mate (wo y_M_mate prog_14_method_46_code 4 (some .int)) rm_m_mate [.ref ((mW G).h 0), vI v1, vI v2] s o := by
  refine ct_I (by decide +kernel) hi (Nat.le_of_ble_eq_true rfl) fun X C => ?_
  unfold m_mate at hf
  show Rj X (mW G) 4 (qI X (mW G) o) 0 [(0, .ref ((mW G).h 0)), (1, vI v1), (2, vI v2)] [] s
  refine r_aload_n C (q := 1) 0 d_M_mate_0 rfl rfl rfl ?_
  refine r_iload_n C (q := 2) 1 d_M_mate_1 rfl rfl rfl ?_
  obtain ⟨r2, s2, hg2, hf⟩ := bd_s hf
  refine r_cVI C (q := 5) (As := [vI v1]) (k0 := 0) (c_m_isRow C.i hg2) mt_M_isRow ml_M_148 (Nat.le_of_ble_eq_true rfl) rfl rfl rfl rfl rfl rfl ⟨Nat.le_of_ble_eq_true rfl, Nat.le_of_ble_eq_true rfl⟩ rfl (Nat.le_of_ble_eq_true rfl) d_M_mate_2 rfl ?_
  refine r_if_eq C (t := 29) (q := 8) d_M_mate_5 (by decide) rfl (fun c5 => ?_) (fun c5 => ?_)
  · replace hf := ite_t c5 hf
    refine r_bipush C (q := 31) (x := (-2)) d_M_mate_29 rfl rfl ?_
    exact r_ireturn C hf d_M_mate_31
  · replace hf := ite_f c5 hf
    refine r_aload_n C (q := 9) 0 d_M_mate_8 rfl rfl rfl ?_
    refine r_iload_n C (q := 10) 1 d_M_mate_9 rfl rfl rfl ?_
    obtain ⟨r10, s10, hg10, hf⟩ := bd_s hf
    refine r_cVI C (q := 13) (As := [vI v1]) (k0 := 0) (c_m_isKnown C.i hg10) mt_M_isKnown ml_M_151 (Nat.le_of_ble_eq_true rfl) rfl rfl rfl rfl rfl rfl ⟨Nat.le_of_ble_eq_true rfl, Nat.le_of_ble_eq_true rfl⟩ rfl (Nat.le_of_ble_eq_true rfl) d_M_mate_10 rfl ?_
    refine r_if_eq C (t := 29) (q := 16) d_M_mate_13 (by decide) rfl (fun c13 => ?_) (fun c13 => ?_)
    · replace hf := ite_t c13 hf
      refine r_bipush C (q := 31) (x := (-2)) d_M_mate_29 rfl rfl ?_
      exact r_ireturn C hf d_M_mate_31
    · replace hf := ite_f c13 hf
      refine r_aload_n C (q := 17) 0 d_M_mate_16 rfl rfl rfl ?_
      refine gxm_M_registerOf C (q := 20) fl_M_7 d_M_mate_17 rfl ?_
      refine r_iload_n C (q := 21) 1 d_M_mate_20 rfl rfl rfl ?_
      obtain ⟨g21, hf⟩ := gd_s hf
      refine r_iald C (q := 22) 1 (Nat.le_of_ble_eq_true rfl) (fun _ => rfl) 0 rfl g21 (by decide) d_M_mate_21 rfl ?_
      refine r_iload_n C (q := 23) 2 d_M_mate_22 rfl rfl rfl ?_
      obtain ⟨r23, s23, hg23, hf⟩ := bd_s hf
      refine r_cSI C (q := 26) (As := [vI (s10 1 v1), vI v2]) (c_m_areRegisters C.i hg23) mt_M_areRegisters ml_M_244 rfl rfl rfl ⟨Nat.le_of_ble_eq_true rfl, Nat.le_of_ble_eq_true rfl⟩ rfl (Nat.le_of_ble_eq_true rfl) d_M_mate_23 rfl ?_
      refine r_if_ne C (t := 32) (q := 29) d_M_mate_26 (by decide) rfl (fun c26 => ?_) (fun c26 => ?_)
      · replace hf := ite_t c26 hf
        refine r_bipush C (q := 31) (x := (-2)) d_M_mate_29 rfl rfl ?_
        exact r_ireturn C hf d_M_mate_31
      · replace hf := ite_f c26 hf
        refine r_aload_n C (q := 33) 0 d_M_mate_32 rfl rfl rfl ?_
        refine r_aload_n C (q := 34) 0 d_M_mate_33 rfl rfl rfl ?_
        refine gxm_M_registerOf C (q := 37) fl_M_7 d_M_mate_34 rfl ?_
        refine r_iload_n C (q := 38) 1 d_M_mate_37 rfl rfl rfl ?_
        obtain ⟨g38, hf⟩ := gd_s hf
        refine r_iald C (q := 39) 1 (Nat.le_of_ble_eq_true rfl) (fun _ => rfl) 0 rfl g38 (by decide) d_M_mate_38 rfl ?_
        refine r_iload_n C (q := 40) 2 d_M_mate_39 rfl rfl rfl ?_
        obtain ⟨r40, s40, hg40, hf⟩ := bd_s hf
        refine r_cVI C (q := 43) (As := [vI (s23 1 v1), vI v2]) (k0 := 0) (c_m_lays C.i hg40) mt_M_lays ml_M_247 (Nat.le_of_ble_eq_true rfl) rfl rfl rfl rfl rfl rfl ⟨Nat.le_of_ble_eq_true rfl, Nat.le_of_ble_eq_true rfl⟩ rfl (Nat.le_of_ble_eq_true rfl) d_M_mate_40 rfl ?_
        refine r_if_ne C (t := 49) (q := 46) d_M_mate_43 (by decide) rfl (fun c43 => ?_) (fun c43 => ?_)
        · replace hf := ite_t c43 hf
          refine r_bipush C (q := 48) (x := (-3)) d_M_mate_46 rfl rfl ?_
          exact r_ireturn C hf d_M_mate_48
        · replace hf := ite_f c43 hf
          refine r_iconst C (q := 50) d_M_mate_49 rfl ?_
          refine r_istore_n C (q := 51) (lv' := [(3, vI 0), (0, .ref ((mW G).h 0)), (1, vI v1), (2, vI v2)]) d_M_mate_50 rfl (by decide) rfl rfl ?_
          have hL : ∀ (u3 : Int) (z : St), itr (m_mate_51 N v1) (fun _ _ => none) N u3 z = some o → Rj X (mW G) 4 (qI X (mW G) o) 51 [(0, .ref ((mW G).h 0)), (1, vI v1), (3, vI u3)] [] z := itr_ind (m_mate_51 N v1) (fun _ _ => none) (fun k => ∀ (u3 : Int) (z : St), k u3 z = some o → Rj X (mW G) 4 (qI X (mW G) o) 51 [(0, .ref ((mW G).h 0)), (1, vI v1), (3, vI u3)] [] z) (fun _ _  h => by cases h) (fun k hk u3 z h => s_m_mate_51 C hk h) N
          exact r_sub [1, 2, 0] rfl (hL _ _  hf)
def m_binds_32 (N : Nat) (k6 : Int → St → MM) (v1 t0 t1 : Int) (s : St) : MM := gd (inb t1 36) (k6 (v1 + 1) (su s 23 t1 t0))
def m_binds_115 (N : Nat) (k41 : Int → St → MM) (k49 : Int → Int → St → MM) (k59 : Int → Int → St → MM) (v1 v2 v3 : Int) (s : St) : MM := k59 v1 (v3 + 1) s
def m_binds_59 (N : Nat) (k41 : Int → St → MM) (k49 : Int → Int → St → MM) (v2 : Int) (k59 : Int → Int → St → MM) (v1 v3 : Int) (s : St) : MM := if le32 (s 0 1) v3 then (k49 v1 (v2 + 1) s) else (if eq32 v2 v3 then (m_binds_115 N k41 k49 k59 v1 v2 v3  s) else (gd (inb ((36 * v2) + v3) 1296) (if eq32 (s 17 ((36 * v2) + v3)) 0 then (m_binds_115 N k41 k49 k59 v1 v2 v3  s) else (gd (inb v3 36) (gd (inb v2 36) (if le32 (s 23 v2) (s 23 v3) then (m_binds_115 N k41 k49 k59 v1 v2 v3  s) else (gd (inb v3 36) (gd (inb v2 36) (m_binds_115 N k41 k49 k59 1 v2 v3  (su s 23 v2 (s 23 v3)))))))))))
def m_binds_49 (N : Nat) (k41 : Int → St → MM) (k49 : Int → Int → St → MM) (v1 v2 : Int) (s : St) : MM := if le32 (s 0 1) v2 then (k41 v1 s) else (itr (m_binds_59 N k41 k49 v2) (fun _ _ _ => none) N v1 0 s)
def m_binds_41 (N : Nat) (k41 : Int → St → MM) (v1 : Int) (s : St) : MM := if eq32 v1 0 then (some (0, s)) else (itr (m_binds_49 N k41 ) (fun _ _ _ => none) N 0 0 s)
def m_binds_6 (N : Nat) (k6 : Int → St → MM) (v1 : Int) (s : St) : MM := if le32 (s 0 1) v1 then (itr (m_binds_41 N ) (fun _ _ => none) N 1 s) else (bd (m_isKnown N v1 s) (fun r21 s21 => if eq32 r21 0 then (m_binds_32 N k6 v1 ((-1)) v1 s21) else (m_binds_32 N k6 v1 v1 v1 s21)))
def m_binds (N : Nat) (s : St) : MM := bd (m_looks N s) (fun r1 s1 => itr (m_binds_6 N ) (fun _ _ => none) N 0 s1)
abbrev rm_m_binds : Room := { frames := 9, cells := 0, slots := 0, locals := 216 }
theorem s_m_binds_32 {X : CxT} {l : Launch} {G : GG} (C : Cx X l (mW G) 4 prog_14_method_47_code "OneSelfModel" (wo y_M_binds prog_14_method_47_code 4 none) none rm_m_binds) {o : Int × St} {N : Nat} {v1 t0 t1 : Int} {k6 : Int → St → MM} (hk6 : ∀ (u1 : Int) (s : St), k6 u1 s = some o → Rj X (mW G) 4 (qV X (mW G) o) 6 [(0, .ref ((mW G).h 0)), (1, vI u1)] [] s) {s : St} (hf : m_binds_32 N k6 v1 t0 t1 s = some o) : Rj X (mW G) 4 (qV X (mW G) o) 32 [(0, .ref ((mW G).h 0)), (1, vI v1)] [vI t0, vI t1, .ref ((mW G).h 23)] s := by
  unfold m_binds_32 at hf
  obtain ⟨g32, hf⟩ := gd_s hf
  refine r_iast C (q := 33) 23 (Nat.le_of_ble_eq_true rfl) (fun _ => rfl) 0 rfl g32 (by decide) d_M_binds_32 rfl ?_
  refine r_iinc C (q := 36) (lv' := [(1, vI (v1 + 1)), (0, .ref ((mW G).h 0))]) 1 d_M_binds_33 rfl (by decide) rfl rfl ?_
  refine r_goto C (q := 6) d_M_binds_36 (by decide) ?_
  exact r_sub [1, 0] rfl (hk6 _ _  hf)
theorem s_m_binds_115 {X : CxT} {l : Launch} {G : GG} (C : Cx X l (mW G) 4 prog_14_method_47_code "OneSelfModel" (wo y_M_binds prog_14_method_47_code 4 none) none rm_m_binds) {o : Int × St} {N : Nat} {v1 v2 v3 : Int} {k41 : Int → St → MM} (hk41 : ∀ (u1 : Int) (s : St), k41 u1 s = some o → Rj X (mW G) 4 (qV X (mW G) o) 41 [(0, .ref ((mW G).h 0)), (1, vI u1)] [] s) {k49 : Int → Int → St → MM} (hk49 : ∀ (u1 u2 : Int) (s : St), k49 u1 u2 s = some o → Rj X (mW G) 4 (qV X (mW G) o) 49 [(0, .ref ((mW G).h 0)), (1, vI u1), (2, vI u2)] [] s) {k59 : Int → Int → St → MM} (hk59 : ∀ (u1 u3 : Int) (s : St), k59 u1 u3 s = some o → Rj X (mW G) 4 (qV X (mW G) o) 59 [(0, .ref ((mW G).h 0)), (1, vI u1), (2, vI v2), (3, vI u3)] [] s) {s : St} (hf : m_binds_115 N k41 k49 k59 v1 v2 v3 s = some o) : Rj X (mW G) 4 (qV X (mW G) o) 115 [(0, .ref ((mW G).h 0)), (1, vI v1), (2, vI v2), (3, vI v3)] [] s := by
  unfold m_binds_115 at hf
  refine r_iinc C (q := 118) (lv' := [(3, vI (v3 + 1)), (0, .ref ((mW G).h 0)), (1, vI v1), (2, vI v2)]) 3 d_M_binds_115 rfl (by decide) rfl rfl ?_
  refine r_goto C (q := 59) d_M_binds_118 (by decide) ?_
  exact r_sub [1, 2, 3, 0] rfl (hk59 _ _ _  hf)
theorem s_m_binds_59 {X : CxT} {l : Launch} {G : GG} (C : Cx X l (mW G) 4 prog_14_method_47_code "OneSelfModel" (wo y_M_binds prog_14_method_47_code 4 none) none rm_m_binds) {o : Int × St} {N : Nat} {v1 v2 v3 : Int} {k41 : Int → St → MM} (hk41 : ∀ (u1 : Int) (s : St), k41 u1 s = some o → Rj X (mW G) 4 (qV X (mW G) o) 41 [(0, .ref ((mW G).h 0)), (1, vI u1)] [] s) {k49 : Int → Int → St → MM} (hk49 : ∀ (u1 u2 : Int) (s : St), k49 u1 u2 s = some o → Rj X (mW G) 4 (qV X (mW G) o) 49 [(0, .ref ((mW G).h 0)), (1, vI u1), (2, vI u2)] [] s) {k59 : Int → Int → St → MM} (hk59 : ∀ (u1 u3 : Int) (s : St), k59 u1 u3 s = some o → Rj X (mW G) 4 (qV X (mW G) o) 59 [(0, .ref ((mW G).h 0)), (1, vI u1), (2, vI v2), (3, vI u3)] [] s) {s : St} (hf : m_binds_59 N k41 k49 v2 k59 v1 v3 s = some o) : Rj X (mW G) 4 (qV X (mW G) o) 59 [(0, .ref ((mW G).h 0)), (1, vI v1), (2, vI v2), (3, vI v3)] [] s := by
  unfold m_binds_59 at hf
  refine r_iload_n C (q := 60) 3 d_M_binds_59 rfl rfl rfl ?_
  refine r_aload_n C (q := 61) 0 d_M_binds_60 rfl rfl rfl ?_
  refine gxm_M_rows C (q := 64) fl_M_130 d_M_binds_61 rfl ?_
  refine r_ic_ge C (t := 121) (q := 67) d_M_binds_64 (by decide) rfl (fun c64 => ?_) (fun c64 => ?_)
  · replace hf := ite_t c64 hf
    refine r_iinc C (q := 124) (lv' := [(2, vI (v2 + 1)), (0, .ref ((mW G).h 0)), (1, vI v1), (3, vI v3)]) 2 d_M_binds_121 rfl (by decide) rfl rfl ?_
    refine r_goto C (q := 49) d_M_binds_124 (by decide) ?_
    exact r_sub [1, 2, 0] rfl (hk49 _ _ _  hf)
  · replace hf := ite_f c64 hf
    refine r_iload_n C (q := 68) 2 d_M_binds_67 rfl rfl rfl ?_
    refine r_iload_n C (q := 69) 3 d_M_binds_68 rfl rfl rfl ?_
    refine r_ic_eq C (t := 115) (q := 72) d_M_binds_69 (by decide) rfl (fun c69 => ?_) (fun c69 => ?_)
    · replace hf := ite_t c69 hf
      exact r_sub [0, 1, 2, 3] rfl (s_m_binds_115 C hk41 hk49 hk59 hf)
    · replace hf := ite_f c69 hf
      refine r_aload_n C (q := 73) 0 d_M_binds_72 rfl rfl rfl ?_
      refine gxm_M_isLink C (q := 76) fl_M_65 d_M_binds_73 rfl ?_
      refine r_bipush C (q := 78) (x := 36) d_M_binds_76 rfl rfl ?_
      refine r_iload_n C (q := 79) 2 d_M_binds_78 rfl rfl rfl ?_
      refine r_imul C (q := 80) d_M_binds_79 rfl ?_
      refine r_iload_n C (q := 81) 3 d_M_binds_80 rfl rfl rfl ?_
      refine r_iadd C (q := 82) d_M_binds_81 rfl ?_
      obtain ⟨g82, hf⟩ := gd_s hf
      refine r_zald C (q := 83) 17 (Nat.le_of_ble_eq_true rfl) (fun _ => rfl) 2 rfl g82 (by decide) d_M_binds_82 rfl ?_
      refine r_if_eq C (t := 115) (q := 86) d_M_binds_83 (by decide) rfl (fun c83 => ?_) (fun c83 => ?_)
      · replace hf := ite_t c83 hf
        exact r_sub [0, 1, 2, 3] rfl (s_m_binds_115 C hk41 hk49 hk59 hf)
      · replace hf := ite_f c83 hf
        refine r_aload_n C (q := 87) 0 d_M_binds_86 rfl rfl rfl ?_
        refine gxm_M_bundleOf C (q := 90) fl_M_84 d_M_binds_87 rfl ?_
        refine r_iload_n C (q := 91) 3 d_M_binds_90 rfl rfl rfl ?_
        obtain ⟨g91, hf⟩ := gd_s hf
        refine r_iald C (q := 92) 23 (Nat.le_of_ble_eq_true rfl) (fun _ => rfl) 0 rfl g91 (by decide) d_M_binds_91 rfl ?_
        refine r_aload_n C (q := 93) 0 d_M_binds_92 rfl rfl rfl ?_
        refine gxm_M_bundleOf C (q := 96) fl_M_84 d_M_binds_93 rfl ?_
        refine r_iload_n C (q := 97) 2 d_M_binds_96 rfl rfl rfl ?_
        obtain ⟨g97, hf⟩ := gd_s hf
        refine r_iald C (q := 98) 23 (Nat.le_of_ble_eq_true rfl) (fun _ => rfl) 0 rfl g97 (by decide) d_M_binds_97 rfl ?_
        refine r_ic_ge C (t := 115) (q := 101) d_M_binds_98 (by decide) rfl (fun c98 => ?_) (fun c98 => ?_)
        · replace hf := ite_t c98 hf
          exact r_sub [0, 1, 2, 3] rfl (s_m_binds_115 C hk41 hk49 hk59 hf)
        · replace hf := ite_f c98 hf
          refine r_aload_n C (q := 102) 0 d_M_binds_101 rfl rfl rfl ?_
          refine gxm_M_bundleOf C (q := 105) fl_M_84 d_M_binds_102 rfl ?_
          refine r_iload_n C (q := 106) 2 d_M_binds_105 rfl rfl rfl ?_
          refine r_aload_n C (q := 107) 0 d_M_binds_106 rfl rfl rfl ?_
          refine gxm_M_bundleOf C (q := 110) fl_M_84 d_M_binds_107 rfl ?_
          refine r_iload_n C (q := 111) 3 d_M_binds_110 rfl rfl rfl ?_
          obtain ⟨g111, hf⟩ := gd_s hf
          refine r_iald C (q := 112) 23 (Nat.le_of_ble_eq_true rfl) (fun _ => rfl) 0 rfl g111 (by decide) d_M_binds_111 rfl ?_
          obtain ⟨g112, hf⟩ := gd_s hf
          refine r_iast C (q := 113) 23 (Nat.le_of_ble_eq_true rfl) (fun _ => rfl) 0 rfl g112 (by decide) d_M_binds_112 rfl ?_
          refine r_iconst C (q := 114) d_M_binds_113 rfl ?_
          refine r_istore_n C (q := 115) (lv' := [(1, vI 1), (0, .ref ((mW G).h 0)), (2, vI v2), (3, vI v3)]) d_M_binds_114 rfl (by decide) rfl rfl ?_
          exact r_sub [1, 0, 2, 3] rfl (s_m_binds_115 C hk41 hk49 hk59 hf)
theorem s_m_binds_49 {X : CxT} {l : Launch} {G : GG} (C : Cx X l (mW G) 4 prog_14_method_47_code "OneSelfModel" (wo y_M_binds prog_14_method_47_code 4 none) none rm_m_binds) {o : Int × St} {N : Nat} {v1 v2 : Int} {k41 : Int → St → MM} (hk41 : ∀ (u1 : Int) (s : St), k41 u1 s = some o → Rj X (mW G) 4 (qV X (mW G) o) 41 [(0, .ref ((mW G).h 0)), (1, vI u1)] [] s) {k49 : Int → Int → St → MM} (hk49 : ∀ (u1 u2 : Int) (s : St), k49 u1 u2 s = some o → Rj X (mW G) 4 (qV X (mW G) o) 49 [(0, .ref ((mW G).h 0)), (1, vI u1), (2, vI u2)] [] s) {s : St} (hf : m_binds_49 N k41  k49 v1 v2 s = some o) : Rj X (mW G) 4 (qV X (mW G) o) 49 [(0, .ref ((mW G).h 0)), (1, vI v1), (2, vI v2)] [] s := by
  unfold m_binds_49 at hf
  refine r_iload_n C (q := 50) 2 d_M_binds_49 rfl rfl rfl ?_
  refine r_aload_n C (q := 51) 0 d_M_binds_50 rfl rfl rfl ?_
  refine gxm_M_rows C (q := 54) fl_M_130 d_M_binds_51 rfl ?_
  refine r_ic_ge C (t := 127) (q := 57) d_M_binds_54 (by decide) rfl (fun c54 => ?_) (fun c54 => ?_)
  · replace hf := ite_t c54 hf
    refine r_goto C (q := 41) d_M_binds_127 (by decide) ?_
    exact r_sub [0, 1] rfl (hk41 _ _  hf)
  · replace hf := ite_f c54 hf
    refine r_iconst C (q := 58) d_M_binds_57 rfl ?_
    refine r_istore_n C (q := 59) (lv' := [(3, vI 0), (0, .ref ((mW G).h 0)), (1, vI v1), (2, vI v2)]) d_M_binds_58 rfl (by decide) rfl rfl ?_
    have hL : ∀ (u1 u3 : Int) (z : St), itr (m_binds_59 N k41 k49 v2) (fun _ _ _ => none) N u1 u3 z = some o → Rj X (mW G) 4 (qV X (mW G) o) 59 [(0, .ref ((mW G).h 0)), (1, vI u1), (2, vI v2), (3, vI u3)] [] z := itr_ind (m_binds_59 N k41 k49 v2) (fun _ _ _ => none) (fun k => ∀ (u1 u3 : Int) (z : St), k u1 u3 z = some o → Rj X (mW G) 4 (qV X (mW G) o) 59 [(0, .ref ((mW G).h 0)), (1, vI u1), (2, vI v2), (3, vI u3)] [] z) (fun _ _ _  h => by cases h) (fun k hk u1 u3 z h => s_m_binds_59 C hk41 hk49 hk h) N
    exact r_sub [1, 2, 3, 0] rfl (hL _ _ _  hf)
theorem s_m_binds_41 {X : CxT} {l : Launch} {G : GG} (C : Cx X l (mW G) 4 prog_14_method_47_code "OneSelfModel" (wo y_M_binds prog_14_method_47_code 4 none) none rm_m_binds) {o : Int × St} {N : Nat} {v1 : Int} {k41 : Int → St → MM} (hk41 : ∀ (u1 : Int) (s : St), k41 u1 s = some o → Rj X (mW G) 4 (qV X (mW G) o) 41 [(0, .ref ((mW G).h 0)), (1, vI u1)] [] s) {s : St} (hf : m_binds_41 N  k41 v1 s = some o) : Rj X (mW G) 4 (qV X (mW G) o) 41 [(0, .ref ((mW G).h 0)), (1, vI v1)] [] s := by
  unfold m_binds_41 at hf
  refine r_iload_n C (q := 42) 1 d_M_binds_41 rfl rfl rfl ?_
  refine r_if_eq C (t := 130) (q := 45) d_M_binds_42 (by decide) rfl (fun c42 => ?_) (fun c42 => ?_)
  · replace hf := ite_t c42 hf
    exact r_return C hf d_M_binds_130
  · replace hf := ite_f c42 hf
    refine r_iconst C (q := 46) d_M_binds_45 rfl ?_
    refine r_istore_n C (q := 47) (lv' := [(1, vI 0), (0, .ref ((mW G).h 0))]) d_M_binds_46 rfl (by decide) rfl rfl ?_
    refine r_iconst C (q := 48) d_M_binds_47 rfl ?_
    refine r_istore_n C (q := 49) (lv' := [(2, vI 0), (1, vI 0), (0, .ref ((mW G).h 0))]) d_M_binds_48 rfl (by decide) rfl rfl ?_
    have hL : ∀ (u1 u2 : Int) (z : St), itr (m_binds_49 N k41 ) (fun _ _ _ => none) N u1 u2 z = some o → Rj X (mW G) 4 (qV X (mW G) o) 49 [(0, .ref ((mW G).h 0)), (1, vI u1), (2, vI u2)] [] z := itr_ind (m_binds_49 N k41 ) (fun _ _ _ => none) (fun k => ∀ (u1 u2 : Int) (z : St), k u1 u2 z = some o → Rj X (mW G) 4 (qV X (mW G) o) 49 [(0, .ref ((mW G).h 0)), (1, vI u1), (2, vI u2)] [] z) (fun _ _ _  h => by cases h) (fun k hk u1 u2 z h => s_m_binds_49 C hk41 hk h) N
    exact r_sub [2, 1, 0] rfl (hL _ _ _  hf)
theorem s_m_binds_6 {X : CxT} {l : Launch} {G : GG} (C : Cx X l (mW G) 4 prog_14_method_47_code "OneSelfModel" (wo y_M_binds prog_14_method_47_code 4 none) none rm_m_binds) {o : Int × St} {N : Nat} {v1 : Int} {k6 : Int → St → MM} (hk6 : ∀ (u1 : Int) (s : St), k6 u1 s = some o → Rj X (mW G) 4 (qV X (mW G) o) 6 [(0, .ref ((mW G).h 0)), (1, vI u1)] [] s) {s : St} (hf : m_binds_6 N  k6 v1 s = some o) : Rj X (mW G) 4 (qV X (mW G) o) 6 [(0, .ref ((mW G).h 0)), (1, vI v1)] [] s := by
  unfold m_binds_6 at hf
  refine r_iload_n C (q := 7) 1 d_M_binds_6 rfl rfl rfl ?_
  refine r_aload_n C (q := 8) 0 d_M_binds_7 rfl rfl rfl ?_
  refine gxm_M_rows C (q := 11) fl_M_130 d_M_binds_8 rfl ?_
  refine r_ic_ge C (t := 39) (q := 14) d_M_binds_11 (by decide) rfl (fun c11 => ?_) (fun c11 => ?_)
  · replace hf := ite_t c11 hf
    refine r_iconst C (q := 40) d_M_binds_39 rfl ?_
    refine r_istore_n C (q := 41) (lv' := [(1, vI 1), (0, .ref ((mW G).h 0))]) d_M_binds_40 rfl (by decide) rfl rfl ?_
    have hL : ∀ (u1 : Int) (z : St), itr (m_binds_41 N ) (fun _ _ => none) N u1 z = some o → Rj X (mW G) 4 (qV X (mW G) o) 41 [(0, .ref ((mW G).h 0)), (1, vI u1)] [] z := itr_ind (m_binds_41 N ) (fun _ _ => none) (fun k => ∀ (u1 : Int) (z : St), k u1 z = some o → Rj X (mW G) 4 (qV X (mW G) o) 41 [(0, .ref ((mW G).h 0)), (1, vI u1)] [] z) (fun _ _  h => by cases h) (fun k hk u1 z h => s_m_binds_41 C hk h) N
    exact r_sub [1, 0] rfl (hL _ _  hf)
  · replace hf := ite_f c11 hf
    refine r_aload_n C (q := 15) 0 d_M_binds_14 rfl rfl rfl ?_
    refine gxm_M_bundleOf C (q := 18) fl_M_84 d_M_binds_15 rfl ?_
    refine r_iload_n C (q := 19) 1 d_M_binds_18 rfl rfl rfl ?_
    refine r_aload_n C (q := 20) 0 d_M_binds_19 rfl rfl rfl ?_
    refine r_iload_n C (q := 21) 1 d_M_binds_20 rfl rfl rfl ?_
    obtain ⟨r21, s21, hg21, hf⟩ := bd_s hf
    refine r_cVI C (q := 24) (As := [vI v1]) (k0 := 0) (c_m_isKnown C.i hg21) mt_M_isKnown ml_M_151 (Nat.le_of_ble_eq_true rfl) rfl rfl rfl rfl rfl rfl ⟨Nat.le_of_ble_eq_true rfl, Nat.le_of_ble_eq_true rfl⟩ rfl (Nat.le_of_ble_eq_true rfl) d_M_binds_21 rfl ?_
    refine r_if_eq C (t := 31) (q := 27) d_M_binds_24 (by decide) rfl (fun c24 => ?_) (fun c24 => ?_)
    · replace hf := ite_t c24 hf
      refine r_iconst C (q := 32) d_M_binds_31 rfl ?_
      exact r_sub [0, 1] rfl (s_m_binds_32 C hk6 hf)
    · replace hf := ite_f c24 hf
      refine r_iload_n C (q := 28) 1 d_M_binds_27 rfl rfl rfl ?_
      refine r_goto C (q := 32) d_M_binds_28 (by decide) ?_
      exact r_sub [0, 1] rfl (s_m_binds_32 C hk6 hf)
theorem c_m_binds {l : Launch} {G : GG} (hi : wo_i (mW G)) {N : Nat} {s : St} {o : Int × St} (hf : m_binds N s = some o) : CtV l (mW G) y_M_binds (wo y_M_binds prog_14_method_47_code 4 none) rm_m_binds [.ref ((mW G).h 0)] s o := by
  refine ct_V (by decide +kernel) hi (Nat.le_of_ble_eq_true rfl) fun X C => ?_
  unfold m_binds at hf
  show Rj X (mW G) 4 (qV X (mW G) o) 0 [(0, .ref ((mW G).h 0))] [] s
  refine r_aload_n C (q := 1) 0 d_M_binds_0 rfl rfl rfl ?_
  obtain ⟨r1, s1, hg1, hf⟩ := bd_s hf
  refine r_cVV C (q := 4) (As := []) (k0 := 0) (c_m_looks C.i hg1) mt_M_looks ml_M_226 (Nat.le_of_ble_eq_true rfl) rfl rfl rfl rfl rfl rfl ⟨Nat.le_of_ble_eq_true rfl, Nat.le_of_ble_eq_true rfl⟩ rfl (Nat.le_of_ble_eq_true rfl) d_M_binds_1 rfl ?_
  refine r_iconst C (q := 5) d_M_binds_4 rfl ?_
  refine r_istore_n C (q := 6) (lv' := [(1, vI 0), (0, .ref ((mW G).h 0))]) d_M_binds_5 rfl (by decide) rfl rfl ?_
  have hL : ∀ (u1 : Int) (z : St), itr (m_binds_6 N ) (fun _ _ => none) N u1 z = some o → Rj X (mW G) 4 (qV X (mW G) o) 6 [(0, .ref ((mW G).h 0)), (1, vI u1)] [] z := itr_ind (m_binds_6 N ) (fun _ _ => none) (fun k => ∀ (u1 : Int) (z : St), k u1 z = some o → Rj X (mW G) 4 (qV X (mW G) o) 6 [(0, .ref ((mW G).h 0)), (1, vI u1)] [] z) (fun _ _  h => by cases h) (fun k hk u1 z h => s_m_binds_6 C hk h) N
  exact r_sub [1, 0] rfl (hL _ _  hf)
def m_bundle (N : Nat) (v1 : Int) (s : St) : MM := bd (m_isRow N v1 s) (fun r2 s2 => if eq32 r2 0 then (some ((-2), s2)) else (bd (m_binds N s2) (fun r12 s12 => gd (inb v1 36) (if eq32 (s12 23 v1) ((-1)) then (some ((-3), s12)) else (gd (inb v1 36) (some (s12 23 v1, s12)))))))
abbrev rm_m_bundle : Room := { frames := 10, cells := 0, slots := 0, locals := 239 }
theorem c_m_bundle {l : Launch} {G : GG} (hi : wo_i (mW G)) {N : Nat} {v1 : Int} {s : St} {o : Int × St} (hf : m_bundle N v1 s = some o) : CtI l (mW G) y_M_bundle (wo y_M_bundle prog_14_method_48_code 2 (some .int)) rm_m_bundle [.ref ((mW G).h 0), vI v1] s o := by
  refine ct_I (by decide +kernel) hi (Nat.le_of_ble_eq_true rfl) fun X C => ?_
  unfold m_bundle at hf
  show Rj X (mW G) 2 (qI X (mW G) o) 0 [(0, .ref ((mW G).h 0)), (1, vI v1)] [] s
  refine r_aload_n C (q := 1) 0 d_M_bundle_0 rfl rfl rfl ?_
  refine r_iload_n C (q := 2) 1 d_M_bundle_1 rfl rfl rfl ?_
  obtain ⟨r2, s2, hg2, hf⟩ := bd_s hf
  refine r_cVI C (q := 5) (As := [vI v1]) (k0 := 0) (c_m_isRow C.i hg2) mt_M_isRow ml_M_148 (Nat.le_of_ble_eq_true rfl) rfl rfl rfl rfl rfl rfl ⟨Nat.le_of_ble_eq_true rfl, Nat.le_of_ble_eq_true rfl⟩ rfl (Nat.le_of_ble_eq_true rfl) d_M_bundle_2 rfl ?_
  refine r_if_ne C (t := 11) (q := 8) d_M_bundle_5 (by decide) rfl (fun c5 => ?_) (fun c5 => ?_)
  · replace hf := ite_t c5 hf
    refine r_bipush C (q := 10) (x := (-2)) d_M_bundle_8 rfl rfl ?_
    exact r_ireturn C hf d_M_bundle_10
  · replace hf := ite_f c5 hf
    refine r_aload_n C (q := 12) 0 d_M_bundle_11 rfl rfl rfl ?_
    obtain ⟨r12, s12, hg12, hf⟩ := bd_s hf
    refine r_cVV C (q := 15) (As := []) (k0 := 0) (c_m_binds C.i hg12) mt_M_binds ml_M_250 (Nat.le_of_ble_eq_true rfl) rfl rfl rfl rfl rfl rfl ⟨Nat.le_of_ble_eq_true rfl, Nat.le_of_ble_eq_true rfl⟩ rfl (Nat.le_of_ble_eq_true rfl) d_M_bundle_12 rfl ?_
    refine r_aload_n C (q := 16) 0 d_M_bundle_15 rfl rfl rfl ?_
    refine gxm_M_bundleOf C (q := 19) fl_M_84 d_M_bundle_16 rfl ?_
    refine r_iload_n C (q := 20) 1 d_M_bundle_19 rfl rfl rfl ?_
    obtain ⟨g20, hf⟩ := gd_s hf
    refine r_iald C (q := 21) 23 (Nat.le_of_ble_eq_true rfl) (fun _ => rfl) 0 rfl g20 (by decide) d_M_bundle_20 rfl ?_
    refine r_iconst C (q := 22) d_M_bundle_21 rfl ?_
    refine r_ic_ne C (t := 30) (q := 25) d_M_bundle_22 (by decide) rfl (fun c22 => ?_) (fun c22 => ?_)
    · replace hf := ite_t c22 hf
      refine r_bipush C (q := 27) (x := (-3)) d_M_bundle_25 rfl rfl ?_
      refine r_goto C (q := 36) d_M_bundle_27 (by decide) ?_
      exact r_ireturn C hf d_M_bundle_36
    · replace hf := ite_f c22 hf
      refine r_aload_n C (q := 31) 0 d_M_bundle_30 rfl rfl rfl ?_
      refine gxm_M_bundleOf C (q := 34) fl_M_84 d_M_bundle_31 rfl ?_
      refine r_iload_n C (q := 35) 1 d_M_bundle_34 rfl rfl rfl ?_
      obtain ⟨g35, hf⟩ := gd_s hf
      refine r_iald C (q := 36) 23 (Nat.le_of_ble_eq_true rfl) (fun _ => rfl) 0 rfl g35 (by decide) d_M_bundle_35 rfl ?_
      exact r_ireturn C hf d_M_bundle_36
def m_sizeOf_28 (N : Nat) (k4 : Int → Int → St → MM) (v1 v3 t0 t1 : Int) (s : St) : MM := k4 (t1 + t0) (v3 + 1) s
def m_sizeOf_4 (N : Nat) (v1 : Int) (k4 : Int → Int → St → MM) (v2 v3 : Int) (s : St) : MM := if le32 (s 0 1) v3 then (some (v2, s)) else (gd (inb v3 36) (if eq32 (s 23 v3) v1 then (m_sizeOf_28 N k4 v1 v3 1 v2 s) else (m_sizeOf_28 N k4 v1 v3 0 v2 s)))
def m_sizeOf (N : Nat) (v1 : Int) (s : St) : MM := itr (m_sizeOf_4 N v1) (fun _ _ _ => none) N 0 0 s
abbrev rm_m_sizeOf : Room := { frames := 0, cells := 0, slots := 0, locals := 0 }
theorem s_m_sizeOf_28 {X : CxT} {l : Launch} {G : GG} (C : Cx X l (mW G) 4 prog_14_method_50_code "OneSelfModel" (wo y_M_sizeOf prog_14_method_50_code 4 (some .int)) (some .int) rm_m_sizeOf) {o : Int × St} {N : Nat} {v1 v3 t0 t1 : Int} {k4 : Int → Int → St → MM} (hk4 : ∀ (u2 u3 : Int) (s : St), k4 u2 u3 s = some o → Rj X (mW G) 4 (qI X (mW G) o) 4 [(0, .ref ((mW G).h 0)), (1, vI v1), (2, vI u2), (3, vI u3)] [] s) {s : St} (hf : m_sizeOf_28 N k4 v1 v3 t0 t1 s = some o) : Rj X (mW G) 4 (qI X (mW G) o) 28 [(0, .ref ((mW G).h 0)), (1, vI v1), (3, vI v3)] [vI t0, vI t1] s := by
  unfold m_sizeOf_28 at hf
  refine r_iadd C (q := 29) d_M_sizeOf_28 rfl ?_
  refine r_istore_n C (q := 30) (lv' := [(2, vI (t1 + t0)), (0, .ref ((mW G).h 0)), (1, vI v1), (3, vI v3)]) d_M_sizeOf_29 rfl (by decide) rfl rfl ?_
  refine r_iinc C (q := 33) (lv' := [(3, vI (v3 + 1)), (2, vI (t1 + t0)), (0, .ref ((mW G).h 0)), (1, vI v1)]) 3 d_M_sizeOf_30 rfl (by decide) rfl rfl ?_
  refine r_goto C (q := 4) d_M_sizeOf_33 (by decide) ?_
  exact r_sub [2, 3, 1, 0] rfl (hk4 _ _ _  hf)
theorem s_m_sizeOf_4 {X : CxT} {l : Launch} {G : GG} (C : Cx X l (mW G) 4 prog_14_method_50_code "OneSelfModel" (wo y_M_sizeOf prog_14_method_50_code 4 (some .int)) (some .int) rm_m_sizeOf) {o : Int × St} {N : Nat} {v1 v2 v3 : Int} {k4 : Int → Int → St → MM} (hk4 : ∀ (u2 u3 : Int) (s : St), k4 u2 u3 s = some o → Rj X (mW G) 4 (qI X (mW G) o) 4 [(0, .ref ((mW G).h 0)), (1, vI v1), (2, vI u2), (3, vI u3)] [] s) {s : St} (hf : m_sizeOf_4 N v1 k4 v2 v3 s = some o) : Rj X (mW G) 4 (qI X (mW G) o) 4 [(0, .ref ((mW G).h 0)), (1, vI v1), (2, vI v2), (3, vI v3)] [] s := by
  unfold m_sizeOf_4 at hf
  refine r_iload_n C (q := 5) 3 d_M_sizeOf_4 rfl rfl rfl ?_
  refine r_aload_n C (q := 6) 0 d_M_sizeOf_5 rfl rfl rfl ?_
  refine gxm_M_rows C (q := 9) fl_M_130 d_M_sizeOf_6 rfl ?_
  refine r_ic_ge C (t := 36) (q := 12) d_M_sizeOf_9 (by decide) rfl (fun c9 => ?_) (fun c9 => ?_)
  · replace hf := ite_t c9 hf
    refine r_iload_n C (q := 37) 2 d_M_sizeOf_36 rfl rfl rfl ?_
    exact r_ireturn C hf d_M_sizeOf_37
  · replace hf := ite_f c9 hf
    refine r_iload_n C (q := 13) 2 d_M_sizeOf_12 rfl rfl rfl ?_
    refine r_aload_n C (q := 14) 0 d_M_sizeOf_13 rfl rfl rfl ?_
    refine gxm_M_bundleOf C (q := 17) fl_M_84 d_M_sizeOf_14 rfl ?_
    refine r_iload_n C (q := 18) 3 d_M_sizeOf_17 rfl rfl rfl ?_
    obtain ⟨g18, hf⟩ := gd_s hf
    refine r_iald C (q := 19) 23 (Nat.le_of_ble_eq_true rfl) (fun _ => rfl) 0 rfl g18 (by decide) d_M_sizeOf_18 rfl ?_
    refine r_iload_n C (q := 20) 1 d_M_sizeOf_19 rfl rfl rfl ?_
    refine r_ic_ne C (t := 27) (q := 23) d_M_sizeOf_20 (by decide) rfl (fun c20 => ?_) (fun c20 => ?_)
    · replace hf := ite_t c20 hf
      refine r_iconst C (q := 24) d_M_sizeOf_23 rfl ?_
      refine r_goto C (q := 28) d_M_sizeOf_24 (by decide) ?_
      exact r_sub [0, 1, 3] rfl (s_m_sizeOf_28 C hk4 hf)
    · replace hf := ite_f c20 hf
      refine r_iconst C (q := 28) d_M_sizeOf_27 rfl ?_
      exact r_sub [0, 1, 3] rfl (s_m_sizeOf_28 C hk4 hf)
theorem c_m_sizeOf {l : Launch} {G : GG} (hi : wo_i (mW G)) {N : Nat} {v1 : Int} {s : St} {o : Int × St} (hf : m_sizeOf N v1 s = some o) : CtI l (mW G) y_M_sizeOf (wo y_M_sizeOf prog_14_method_50_code 4 (some .int)) rm_m_sizeOf [.ref ((mW G).h 0), vI v1] s o := by
  refine ct_I (by decide +kernel) hi (Nat.le_of_ble_eq_true rfl) fun X C => ?_
  unfold m_sizeOf at hf
  show Rj X (mW G) 4 (qI X (mW G) o) 0 [(0, .ref ((mW G).h 0)), (1, vI v1)] [] s
  refine r_iconst C (q := 1) d_M_sizeOf_0 rfl ?_
  refine r_istore_n C (q := 2) (lv' := [(2, vI 0), (0, .ref ((mW G).h 0)), (1, vI v1)]) d_M_sizeOf_1 rfl (by decide) rfl rfl ?_
  refine r_iconst C (q := 3) d_M_sizeOf_2 rfl ?_
  refine r_istore_n C (q := 4) (lv' := [(3, vI 0), (2, vI 0), (0, .ref ((mW G).h 0)), (1, vI v1)]) d_M_sizeOf_3 rfl (by decide) rfl rfl ?_
  have hL : ∀ (u2 u3 : Int) (z : St), itr (m_sizeOf_4 N v1) (fun _ _ _ => none) N u2 u3 z = some o → Rj X (mW G) 4 (qI X (mW G) o) 4 [(0, .ref ((mW G).h 0)), (1, vI v1), (2, vI u2), (3, vI u3)] [] z := itr_ind (m_sizeOf_4 N v1) (fun _ _ _ => none) (fun k => ∀ (u2 u3 : Int) (z : St), k u2 u3 z = some o → Rj X (mW G) 4 (qI X (mW G) o) 4 [(0, .ref ((mW G).h 0)), (1, vI v1), (2, vI u2), (3, vI u3)] [] z) (fun _ _ _  h => by cases h) (fun k hk u2 u3 z h => s_m_sizeOf_4 C hk h) N
  exact r_sub [2, 3, 1, 0] rfl (hL _ _ _  hf)
def m_isTorn_113 (N : Nat) (k2 : Int → St → MM) (k12 : Int → St → MM) (v1 v2 v3 : Int) (s : St) : MM := k12 (v3 + 1) s
def m_isTorn_84 (N : Nat) (k2 : Int → St → MM) (k12 : Int → St → MM) (v1 v2 v3 v4 t0 : Int) (s : St) : MM := if eq32 v4 0 then (m_isTorn_113 N k2 k12 v1 v2 v3  s) else (gd (inb v2 36) (gd (inb v3 36) (if eq32 (s 1 v2) (s 1 v3) then (some (1, s)) else (if eq32 t0 0 then (m_isTorn_113 N k2 k12 v1 v2 v3  s) else (some (1, s))))))
def m_isTorn_83 (N : Nat) (k2 : Int → St → MM) (k12 : Int → St → MM) (v1 v2 v3 v4 : Int) (s : St) : MM := m_isTorn_84 N k2 k12 v1 v2 v3 v4 0 s
def m_isTorn_42 (N : Nat) (k2 : Int → St → MM) (k12 : Int → St → MM) (v1 v2 v3 t0 : Int) (s : St) : MM := gd (inb v2 36) (if eq32 (s 6 v2) ((-1)) then (m_isTorn_83 N k2 k12 v1 v2 v3 t0  s) else (gd (inb v3 36) (if eq32 (s 6 v3) ((-1)) then (m_isTorn_83 N k2 k12 v1 v2 v3 t0  s) else (gd (inb v2 36) (gd (inb v3 36) (if eq32 (s 6 v2) (s 6 v3) then (m_isTorn_83 N k2 k12 v1 v2 v3 t0  s) else (m_isTorn_84 N k2 k12 v1 v2 v3 t0 1 s)))))))
def m_isTorn_41 (N : Nat) (k2 : Int → St → MM) (k12 : Int → St → MM) (v1 v2 v3 : Int) (s : St) : MM := m_isTorn_42 N k2 k12 v1 v2 v3 0 s
def m_isTorn_12 (N : Nat) (k2 : Int → St → MM) (v1 v2 : Int) (k12 : Int → St → MM) (v3 : Int) (s : St) : MM := if le32 v2 v3 then (k2 (v2 + 1) s) else (gd (inb v2 36) (if eq32 (s 23 v2) v1 then (gd (inb v3 36) (if eq32 (s 23 v3) v1 then (m_isTorn_42 N k2 k12 v1 v2 v3 1 s) else (m_isTorn_41 N k2 k12 v1 v2 v3  s))) else (m_isTorn_41 N k2 k12 v1 v2 v3  s)))
def m_isTorn_2 (N : Nat) (v1 : Int) (k2 : Int → St → MM) (v2 : Int) (s : St) : MM := if le32 (s 0 1) v2 then (some (0, s)) else (itr (m_isTorn_12 N k2 v1 v2) (fun _ _ => none) N 0 s)
def m_isTorn (N : Nat) (v1 : Int) (s : St) : MM := itr (m_isTorn_2 N v1) (fun _ _ => none) N 0 s
abbrev rm_m_isTorn : Room := { frames := 0, cells := 0, slots := 0, locals := 0 }
theorem s_m_isTorn_113 {X : CxT} {l : Launch} {G : GG} (C : Cx X l (mW G) 6 prog_14_method_49_code "OneSelfModel" (wo y_M_isTorn prog_14_method_49_code 6 (some .boolean)) (some .boolean) rm_m_isTorn) {o : Int × St} {N : Nat} {v1 v2 v3 : Int} {k2 : Int → St → MM} (hk2 : ∀ (u2 : Int) (s : St), k2 u2 s = some o → Rj X (mW G) 6 (qI X (mW G) o) 2 [(0, .ref ((mW G).h 0)), (1, vI v1), (2, vI u2)] [] s) {k12 : Int → St → MM} (hk12 : ∀ (u3 : Int) (s : St), k12 u3 s = some o → Rj X (mW G) 6 (qI X (mW G) o) 12 [(0, .ref ((mW G).h 0)), (1, vI v1), (2, vI v2), (3, vI u3)] [] s) {s : St} (hf : m_isTorn_113 N k2 k12 v1 v2 v3 s = some o) : Rj X (mW G) 6 (qI X (mW G) o) 113 [(0, .ref ((mW G).h 0)), (1, vI v1), (2, vI v2), (3, vI v3)] [] s := by
  unfold m_isTorn_113 at hf
  refine r_iinc C (q := 116) (lv' := [(3, vI (v3 + 1)), (0, .ref ((mW G).h 0)), (1, vI v1), (2, vI v2)]) 3 d_M_isTorn_113 rfl (by decide) rfl rfl ?_
  refine r_goto C (q := 12) d_M_isTorn_116 (by decide) ?_
  exact r_sub [1, 2, 3, 0] rfl (hk12 _ _  hf)
theorem s_m_isTorn_84 {X : CxT} {l : Launch} {G : GG} (C : Cx X l (mW G) 6 prog_14_method_49_code "OneSelfModel" (wo y_M_isTorn prog_14_method_49_code 6 (some .boolean)) (some .boolean) rm_m_isTorn) {o : Int × St} {N : Nat} {v1 v2 v3 v4 t0 : Int} {k2 : Int → St → MM} (hk2 : ∀ (u2 : Int) (s : St), k2 u2 s = some o → Rj X (mW G) 6 (qI X (mW G) o) 2 [(0, .ref ((mW G).h 0)), (1, vI v1), (2, vI u2)] [] s) {k12 : Int → St → MM} (hk12 : ∀ (u3 : Int) (s : St), k12 u3 s = some o → Rj X (mW G) 6 (qI X (mW G) o) 12 [(0, .ref ((mW G).h 0)), (1, vI v1), (2, vI v2), (3, vI u3)] [] s) {s : St} (hf : m_isTorn_84 N k2 k12 v1 v2 v3 v4 t0 s = some o) : Rj X (mW G) 6 (qI X (mW G) o) 84 [(0, .ref ((mW G).h 0)), (1, vI v1), (2, vI v2), (3, vI v3), (4, vI v4)] [vI t0] s := by
  unfold m_isTorn_84 at hf
  refine r_istore C (q := 86) (lv' := [(5, vI t0), (0, .ref ((mW G).h 0)), (1, vI v1), (2, vI v2), (3, vI v3), (4, vI v4)]) d_M_isTorn_84 (by decide) rfl rfl ?_
  refine r_iload C (q := 88) 5 d_M_isTorn_86 rfl rfl ?_
  refine r_if_eq C (t := 113) (q := 91) d_M_isTorn_88 (by decide) rfl (fun c88 => ?_) (fun c88 => ?_)
  · replace hf := ite_t c88 hf
    exact r_sub [1, 2, 3, 4] rfl (s_m_isTorn_113 C hk2 hk12 hf)
  · replace hf := ite_f c88 hf
    refine r_aload_n C (q := 92) 1 d_M_isTorn_91 rfl rfl rfl ?_
    refine gxm_M_registerOf C (q := 95) fl_M_7 d_M_isTorn_92 rfl ?_
    refine r_iload_n C (q := 96) 3 d_M_isTorn_95 rfl rfl rfl ?_
    obtain ⟨g96, hf⟩ := gd_s hf
    refine r_iald C (q := 97) 1 (Nat.le_of_ble_eq_true rfl) (fun _ => rfl) 0 rfl g96 (by decide) d_M_isTorn_96 rfl ?_
    refine r_aload_n C (q := 98) 1 d_M_isTorn_97 rfl rfl rfl ?_
    refine gxm_M_registerOf C (q := 101) fl_M_7 d_M_isTorn_98 rfl ?_
    refine r_iload_n C (q := 102) 4 d_M_isTorn_101 rfl rfl rfl ?_
    obtain ⟨g102, hf⟩ := gd_s hf
    refine r_iald C (q := 103) 1 (Nat.le_of_ble_eq_true rfl) (fun _ => rfl) 0 rfl g102 (by decide) d_M_isTorn_102 rfl ?_
    refine r_ic_eq C (t := 111) (q := 106) d_M_isTorn_103 (by decide) rfl (fun c103 => ?_) (fun c103 => ?_)
    · replace hf := ite_t c103 hf
      refine r_iconst C (q := 112) d_M_isTorn_111 rfl ?_
      exact r_zreturn C (by decide) hf d_M_isTorn_112
    · replace hf := ite_f c103 hf
      refine r_iload C (q := 108) 0 d_M_isTorn_106 rfl rfl ?_
      refine r_if_eq C (t := 113) (q := 111) d_M_isTorn_108 (by decide) rfl (fun c108 => ?_) (fun c108 => ?_)
      · replace hf := ite_t c108 hf
        exact r_sub [1, 2, 3, 4] rfl (s_m_isTorn_113 C hk2 hk12 hf)
      · replace hf := ite_f c108 hf
        refine r_iconst C (q := 112) d_M_isTorn_111 rfl ?_
        exact r_zreturn C (by decide) hf d_M_isTorn_112
theorem s_m_isTorn_83 {X : CxT} {l : Launch} {G : GG} (C : Cx X l (mW G) 6 prog_14_method_49_code "OneSelfModel" (wo y_M_isTorn prog_14_method_49_code 6 (some .boolean)) (some .boolean) rm_m_isTorn) {o : Int × St} {N : Nat} {v1 v2 v3 v4 : Int} {k2 : Int → St → MM} (hk2 : ∀ (u2 : Int) (s : St), k2 u2 s = some o → Rj X (mW G) 6 (qI X (mW G) o) 2 [(0, .ref ((mW G).h 0)), (1, vI v1), (2, vI u2)] [] s) {k12 : Int → St → MM} (hk12 : ∀ (u3 : Int) (s : St), k12 u3 s = some o → Rj X (mW G) 6 (qI X (mW G) o) 12 [(0, .ref ((mW G).h 0)), (1, vI v1), (2, vI v2), (3, vI u3)] [] s) {s : St} (hf : m_isTorn_83 N k2 k12 v1 v2 v3 v4 s = some o) : Rj X (mW G) 6 (qI X (mW G) o) 83 [(0, .ref ((mW G).h 0)), (1, vI v1), (2, vI v2), (3, vI v3), (4, vI v4)] [] s := by
  unfold m_isTorn_83 at hf
  refine r_iconst C (q := 84) d_M_isTorn_83 rfl ?_
  exact r_sub [0, 1, 2, 3, 4] rfl (s_m_isTorn_84 C hk2 hk12 hf)
theorem s_m_isTorn_42 {X : CxT} {l : Launch} {G : GG} (C : Cx X l (mW G) 6 prog_14_method_49_code "OneSelfModel" (wo y_M_isTorn prog_14_method_49_code 6 (some .boolean)) (some .boolean) rm_m_isTorn) {o : Int × St} {N : Nat} {v1 v2 v3 t0 : Int} {k2 : Int → St → MM} (hk2 : ∀ (u2 : Int) (s : St), k2 u2 s = some o → Rj X (mW G) 6 (qI X (mW G) o) 2 [(0, .ref ((mW G).h 0)), (1, vI v1), (2, vI u2)] [] s) {k12 : Int → St → MM} (hk12 : ∀ (u3 : Int) (s : St), k12 u3 s = some o → Rj X (mW G) 6 (qI X (mW G) o) 12 [(0, .ref ((mW G).h 0)), (1, vI v1), (2, vI v2), (3, vI u3)] [] s) {s : St} (hf : m_isTorn_42 N k2 k12 v1 v2 v3 t0 s = some o) : Rj X (mW G) 6 (qI X (mW G) o) 42 [(0, .ref ((mW G).h 0)), (1, vI v1), (2, vI v2), (3, vI v3)] [vI t0] s := by
  unfold m_isTorn_42 at hf
  refine r_istore C (q := 44) (lv' := [(4, vI t0), (0, .ref ((mW G).h 0)), (1, vI v1), (2, vI v2), (3, vI v3)]) d_M_isTorn_42 (by decide) rfl rfl ?_
  refine r_aload_n C (q := 45) 1 d_M_isTorn_44 rfl rfl rfl ?_
  refine gxm_M_sortOf C (q := 48) fl_M_25 d_M_isTorn_45 rfl ?_
  refine r_iload_n C (q := 49) 3 d_M_isTorn_48 rfl rfl rfl ?_
  obtain ⟨g49, hf⟩ := gd_s hf
  refine r_iald C (q := 50) 6 (Nat.le_of_ble_eq_true rfl) (fun _ => rfl) 0 rfl g49 (by decide) d_M_isTorn_49 rfl ?_
  refine r_iconst C (q := 51) d_M_isTorn_50 rfl ?_
  refine r_ic_eq C (t := 83) (q := 54) d_M_isTorn_51 (by decide) rfl (fun c51 => ?_) (fun c51 => ?_)
  · replace hf := ite_t c51 hf
    exact r_sub [1, 2, 3, 4, 0] rfl (s_m_isTorn_83 C hk2 hk12 hf)
  · replace hf := ite_f c51 hf
    refine r_aload_n C (q := 55) 1 d_M_isTorn_54 rfl rfl rfl ?_
    refine gxm_M_sortOf C (q := 58) fl_M_25 d_M_isTorn_55 rfl ?_
    refine r_iload_n C (q := 59) 4 d_M_isTorn_58 rfl rfl rfl ?_
    obtain ⟨g59, hf⟩ := gd_s hf
    refine r_iald C (q := 60) 6 (Nat.le_of_ble_eq_true rfl) (fun _ => rfl) 0 rfl g59 (by decide) d_M_isTorn_59 rfl ?_
    refine r_iconst C (q := 61) d_M_isTorn_60 rfl ?_
    refine r_ic_eq C (t := 83) (q := 64) d_M_isTorn_61 (by decide) rfl (fun c61 => ?_) (fun c61 => ?_)
    · replace hf := ite_t c61 hf
      exact r_sub [1, 2, 3, 4, 0] rfl (s_m_isTorn_83 C hk2 hk12 hf)
    · replace hf := ite_f c61 hf
      refine r_aload_n C (q := 65) 1 d_M_isTorn_64 rfl rfl rfl ?_
      refine gxm_M_sortOf C (q := 68) fl_M_25 d_M_isTorn_65 rfl ?_
      refine r_iload_n C (q := 69) 3 d_M_isTorn_68 rfl rfl rfl ?_
      obtain ⟨g69, hf⟩ := gd_s hf
      refine r_iald C (q := 70) 6 (Nat.le_of_ble_eq_true rfl) (fun _ => rfl) 0 rfl g69 (by decide) d_M_isTorn_69 rfl ?_
      refine r_aload_n C (q := 71) 1 d_M_isTorn_70 rfl rfl rfl ?_
      refine gxm_M_sortOf C (q := 74) fl_M_25 d_M_isTorn_71 rfl ?_
      refine r_iload_n C (q := 75) 4 d_M_isTorn_74 rfl rfl rfl ?_
      obtain ⟨g75, hf⟩ := gd_s hf
      refine r_iald C (q := 76) 6 (Nat.le_of_ble_eq_true rfl) (fun _ => rfl) 0 rfl g75 (by decide) d_M_isTorn_75 rfl ?_
      refine r_ic_eq C (t := 83) (q := 79) d_M_isTorn_76 (by decide) rfl (fun c76 => ?_) (fun c76 => ?_)
      · replace hf := ite_t c76 hf
        exact r_sub [1, 2, 3, 4, 0] rfl (s_m_isTorn_83 C hk2 hk12 hf)
      · replace hf := ite_f c76 hf
        refine r_iconst C (q := 80) d_M_isTorn_79 rfl ?_
        refine r_goto C (q := 84) d_M_isTorn_80 (by decide) ?_
        exact r_sub [1, 2, 3, 4, 0] rfl (s_m_isTorn_84 C hk2 hk12 hf)
theorem s_m_isTorn_41 {X : CxT} {l : Launch} {G : GG} (C : Cx X l (mW G) 6 prog_14_method_49_code "OneSelfModel" (wo y_M_isTorn prog_14_method_49_code 6 (some .boolean)) (some .boolean) rm_m_isTorn) {o : Int × St} {N : Nat} {v1 v2 v3 : Int} {k2 : Int → St → MM} (hk2 : ∀ (u2 : Int) (s : St), k2 u2 s = some o → Rj X (mW G) 6 (qI X (mW G) o) 2 [(0, .ref ((mW G).h 0)), (1, vI v1), (2, vI u2)] [] s) {k12 : Int → St → MM} (hk12 : ∀ (u3 : Int) (s : St), k12 u3 s = some o → Rj X (mW G) 6 (qI X (mW G) o) 12 [(0, .ref ((mW G).h 0)), (1, vI v1), (2, vI v2), (3, vI u3)] [] s) {s : St} (hf : m_isTorn_41 N k2 k12 v1 v2 v3 s = some o) : Rj X (mW G) 6 (qI X (mW G) o) 41 [(0, .ref ((mW G).h 0)), (1, vI v1), (2, vI v2), (3, vI v3)] [] s := by
  unfold m_isTorn_41 at hf
  refine r_iconst C (q := 42) d_M_isTorn_41 rfl ?_
  exact r_sub [0, 1, 2, 3] rfl (s_m_isTorn_42 C hk2 hk12 hf)
theorem s_m_isTorn_12 {X : CxT} {l : Launch} {G : GG} (C : Cx X l (mW G) 6 prog_14_method_49_code "OneSelfModel" (wo y_M_isTorn prog_14_method_49_code 6 (some .boolean)) (some .boolean) rm_m_isTorn) {o : Int × St} {N : Nat} {v1 v2 v3 : Int} {k2 : Int → St → MM} (hk2 : ∀ (u2 : Int) (s : St), k2 u2 s = some o → Rj X (mW G) 6 (qI X (mW G) o) 2 [(0, .ref ((mW G).h 0)), (1, vI v1), (2, vI u2)] [] s) {k12 : Int → St → MM} (hk12 : ∀ (u3 : Int) (s : St), k12 u3 s = some o → Rj X (mW G) 6 (qI X (mW G) o) 12 [(0, .ref ((mW G).h 0)), (1, vI v1), (2, vI v2), (3, vI u3)] [] s) {s : St} (hf : m_isTorn_12 N k2 v1 v2 k12 v3 s = some o) : Rj X (mW G) 6 (qI X (mW G) o) 12 [(0, .ref ((mW G).h 0)), (1, vI v1), (2, vI v2), (3, vI v3)] [] s := by
  unfold m_isTorn_12 at hf
  refine r_iload_n C (q := 13) 3 d_M_isTorn_12 rfl rfl rfl ?_
  refine r_iload_n C (q := 14) 2 d_M_isTorn_13 rfl rfl rfl ?_
  refine r_ic_ge C (t := 119) (q := 17) d_M_isTorn_14 (by decide) rfl (fun c14 => ?_) (fun c14 => ?_)
  · replace hf := ite_t c14 hf
    refine r_iinc C (q := 122) (lv' := [(2, vI (v2 + 1)), (0, .ref ((mW G).h 0)), (1, vI v1), (3, vI v3)]) 2 d_M_isTorn_119 rfl (by decide) rfl rfl ?_
    refine r_goto C (q := 2) d_M_isTorn_122 (by decide) ?_
    exact r_sub [1, 2, 0] rfl (hk2 _ _  hf)
  · replace hf := ite_f c14 hf
    refine r_aload_n C (q := 18) 0 d_M_isTorn_17 rfl rfl rfl ?_
    refine gxm_M_bundleOf C (q := 21) fl_M_84 d_M_isTorn_18 rfl ?_
    refine r_iload_n C (q := 22) 2 d_M_isTorn_21 rfl rfl rfl ?_
    obtain ⟨g22, hf⟩ := gd_s hf
    refine r_iald C (q := 23) 23 (Nat.le_of_ble_eq_true rfl) (fun _ => rfl) 0 rfl g22 (by decide) d_M_isTorn_22 rfl ?_
    refine r_iload_n C (q := 24) 1 d_M_isTorn_23 rfl rfl rfl ?_
    refine r_ic_ne C (t := 41) (q := 27) d_M_isTorn_24 (by decide) rfl (fun c24 => ?_) (fun c24 => ?_)
    · replace hf := ite_t c24 hf
      refine r_aload_n C (q := 28) 0 d_M_isTorn_27 rfl rfl rfl ?_
      refine gxm_M_bundleOf C (q := 31) fl_M_84 d_M_isTorn_28 rfl ?_
      refine r_iload_n C (q := 32) 3 d_M_isTorn_31 rfl rfl rfl ?_
      obtain ⟨g32, hf⟩ := gd_s hf
      refine r_iald C (q := 33) 23 (Nat.le_of_ble_eq_true rfl) (fun _ => rfl) 0 rfl g32 (by decide) d_M_isTorn_32 rfl ?_
      refine r_iload_n C (q := 34) 1 d_M_isTorn_33 rfl rfl rfl ?_
      refine r_ic_ne C (t := 41) (q := 37) d_M_isTorn_34 (by decide) rfl (fun c34 => ?_) (fun c34 => ?_)
      · replace hf := ite_t c34 hf
        refine r_iconst C (q := 38) d_M_isTorn_37 rfl ?_
        refine r_goto C (q := 42) d_M_isTorn_38 (by decide) ?_
        exact r_sub [0, 1, 2, 3] rfl (s_m_isTorn_42 C hk2 hk12 hf)
      · replace hf := ite_f c34 hf
        exact r_sub [0, 1, 2, 3] rfl (s_m_isTorn_41 C hk2 hk12 hf)
    · replace hf := ite_f c24 hf
      exact r_sub [0, 1, 2, 3] rfl (s_m_isTorn_41 C hk2 hk12 hf)
theorem s_m_isTorn_2 {X : CxT} {l : Launch} {G : GG} (C : Cx X l (mW G) 6 prog_14_method_49_code "OneSelfModel" (wo y_M_isTorn prog_14_method_49_code 6 (some .boolean)) (some .boolean) rm_m_isTorn) {o : Int × St} {N : Nat} {v1 v2 : Int} {k2 : Int → St → MM} (hk2 : ∀ (u2 : Int) (s : St), k2 u2 s = some o → Rj X (mW G) 6 (qI X (mW G) o) 2 [(0, .ref ((mW G).h 0)), (1, vI v1), (2, vI u2)] [] s) {s : St} (hf : m_isTorn_2 N v1 k2 v2 s = some o) : Rj X (mW G) 6 (qI X (mW G) o) 2 [(0, .ref ((mW G).h 0)), (1, vI v1), (2, vI v2)] [] s := by
  unfold m_isTorn_2 at hf
  refine r_iload_n C (q := 3) 2 d_M_isTorn_2 rfl rfl rfl ?_
  refine r_aload_n C (q := 4) 0 d_M_isTorn_3 rfl rfl rfl ?_
  refine gxm_M_rows C (q := 7) fl_M_130 d_M_isTorn_4 rfl ?_
  refine r_ic_ge C (t := 125) (q := 10) d_M_isTorn_7 (by decide) rfl (fun c7 => ?_) (fun c7 => ?_)
  · replace hf := ite_t c7 hf
    refine r_iconst C (q := 126) d_M_isTorn_125 rfl ?_
    exact r_zreturn C (by decide) hf d_M_isTorn_126
  · replace hf := ite_f c7 hf
    refine r_iconst C (q := 11) d_M_isTorn_10 rfl ?_
    refine r_istore_n C (q := 12) (lv' := [(3, vI 0), (0, .ref ((mW G).h 0)), (1, vI v1), (2, vI v2)]) d_M_isTorn_11 rfl (by decide) rfl rfl ?_
    have hL : ∀ (u3 : Int) (z : St), itr (m_isTorn_12 N k2 v1 v2) (fun _ _ => none) N u3 z = some o → Rj X (mW G) 6 (qI X (mW G) o) 12 [(0, .ref ((mW G).h 0)), (1, vI v1), (2, vI v2), (3, vI u3)] [] z := itr_ind (m_isTorn_12 N k2 v1 v2) (fun _ _ => none) (fun k => ∀ (u3 : Int) (z : St), k u3 z = some o → Rj X (mW G) 6 (qI X (mW G) o) 12 [(0, .ref ((mW G).h 0)), (1, vI v1), (2, vI v2), (3, vI u3)] [] z) (fun _ _  h => by cases h) (fun k hk u3 z h => s_m_isTorn_12 C hk2 hk h) N
    exact r_sub [1, 2, 3, 0] rfl (hL _ _  hf)
theorem c_m_isTorn {l : Launch} {G : GG} (hi : wo_i (mW G)) {N : Nat} {v1 : Int} {s : St} {o : Int × St} (hf : m_isTorn N v1 s = some o) : CtI l (mW G) y_M_isTorn (wo y_M_isTorn prog_14_method_49_code 6 (some .boolean)) rm_m_isTorn [.ref ((mW G).h 0), vI v1] s o := by
  refine ct_I (by decide +kernel) hi (Nat.le_of_ble_eq_true rfl) fun X C => ?_
  unfold m_isTorn at hf
  show Rj X (mW G) 6 (qI X (mW G) o) 0 [(0, .ref ((mW G).h 0)), (1, vI v1)] [] s
  refine r_iconst C (q := 1) d_M_isTorn_0 rfl ?_
  refine r_istore_n C (q := 2) (lv' := [(2, vI 0), (0, .ref ((mW G).h 0)), (1, vI v1)]) d_M_isTorn_1 rfl (by decide) rfl rfl ?_
  have hL : ∀ (u2 : Int) (z : St), itr (m_isTorn_2 N v1) (fun _ _ => none) N u2 z = some o → Rj X (mW G) 6 (qI X (mW G) o) 2 [(0, .ref ((mW G).h 0)), (1, vI v1), (2, vI u2)] [] z := itr_ind (m_isTorn_2 N v1) (fun _ _ => none) (fun k => ∀ (u2 : Int) (z : St), k u2 z = some o → Rj X (mW G) 6 (qI X (mW G) o) 2 [(0, .ref ((mW G).h 0)), (1, vI v1), (2, vI u2)] [] z) (fun _ _  h => by cases h) (fun k hk u2 z h => s_m_isTorn_2 C hk h) N
  exact r_sub [1, 2, 0] rfl (hL _ _  hf)
def m_bundlesOf_75 (N : Nat) (k4 : Int → Int → St → MM) (v1 v2 v3 : Int) (s : St) : MM := k4 v2 (v3 + 1) s
def m_bundlesOf_74 (N : Nat) (k4 : Int → Int → St → MM) (v1 v3 t0 : Int) (s : St) : MM := m_bundlesOf_75 N k4 v1 t0 v3  s
def m_bundlesOf_58 (N : Nat) (k4 : Int → Int → St → MM) (v1 v3 t0 t1 : Int) (s : St) : MM := m_bundlesOf_74 N k4 v1 v3 (t1 + t0) s
def m_bundlesOf_4 (N : Nat) (v1 : Int) (k4 : Int → Int → St → MM) (v2 v3 : Int) (s : St) : MM := if le32 (s 0 1) v3 then (some (v2, s)) else (gd (inb v3 36) (if eq32 (s 23 v3) v3 then (bd (m_sizeOf N v3 s) (fun r24 s24 => if eq32 v1 0 then (m_bundlesOf_74 N k4 v1 v3 (v2 + 1) s24) else (if eq32 v1 1 then (bd (m_isTorn N v3 s24) (fun r47 s47 => if eq32 r47 0 then (m_bundlesOf_58 N k4 v1 v3 0 v2 s47) else (m_bundlesOf_58 N k4 v1 v3 1 v2 s47))) else (if le32 r24 v2 then (m_bundlesOf_74 N k4 v1 v3 v2 s24) else (m_bundlesOf_74 N k4 v1 v3 r24 s24))))) else (m_bundlesOf_75 N k4 v1 v2 v3  s)))
def m_bundlesOf (N : Nat) (v1 : Int) (s : St) : MM := itr (m_bundlesOf_4 N v1) (fun _ _ _ => none) N 0 0 s
abbrev rm_m_bundlesOf : Room := { frames := 1, cells := 0, slots := 0, locals := 25 }
theorem s_m_bundlesOf_75 {X : CxT} {l : Launch} {G : GG} (C : Cx X l (mW G) 5 prog_14_method_51_code "OneSelfModel" (wo y_M_bundlesOf prog_14_method_51_code 5 (some .int)) (some .int) rm_m_bundlesOf) {o : Int × St} {N : Nat} {v1 v2 v3 : Int} {k4 : Int → Int → St → MM} (hk4 : ∀ (u2 u3 : Int) (s : St), k4 u2 u3 s = some o → Rj X (mW G) 5 (qI X (mW G) o) 4 [(0, .ref ((mW G).h 0)), (1, vI v1), (2, vI u2), (3, vI u3)] [] s) {s : St} (hf : m_bundlesOf_75 N k4 v1 v2 v3 s = some o) : Rj X (mW G) 5 (qI X (mW G) o) 75 [(0, .ref ((mW G).h 0)), (1, vI v1), (2, vI v2), (3, vI v3)] [] s := by
  unfold m_bundlesOf_75 at hf
  refine r_iinc C (q := 78) (lv' := [(3, vI (v3 + 1)), (0, .ref ((mW G).h 0)), (1, vI v1), (2, vI v2)]) 3 d_M_bundlesOf_75 rfl (by decide) rfl rfl ?_
  refine r_goto C (q := 4) d_M_bundlesOf_78 (by decide) ?_
  exact r_sub [1, 2, 3, 0] rfl (hk4 _ _ _  hf)
theorem s_m_bundlesOf_74 {X : CxT} {l : Launch} {G : GG} (C : Cx X l (mW G) 5 prog_14_method_51_code "OneSelfModel" (wo y_M_bundlesOf prog_14_method_51_code 5 (some .int)) (some .int) rm_m_bundlesOf) {o : Int × St} {N : Nat} {v1 v3 t0 : Int} {k4 : Int → Int → St → MM} (hk4 : ∀ (u2 u3 : Int) (s : St), k4 u2 u3 s = some o → Rj X (mW G) 5 (qI X (mW G) o) 4 [(0, .ref ((mW G).h 0)), (1, vI v1), (2, vI u2), (3, vI u3)] [] s) {s : St} (hf : m_bundlesOf_74 N k4 v1 v3 t0 s = some o) : Rj X (mW G) 5 (qI X (mW G) o) 74 [(0, .ref ((mW G).h 0)), (1, vI v1), (3, vI v3)] [vI t0] s := by
  unfold m_bundlesOf_74 at hf
  refine r_istore_n C (q := 75) (lv' := [(2, vI t0), (0, .ref ((mW G).h 0)), (1, vI v1), (3, vI v3)]) d_M_bundlesOf_74 rfl (by decide) rfl rfl ?_
  exact r_sub [1, 2, 0, 3] rfl (s_m_bundlesOf_75 C hk4 hf)
theorem s_m_bundlesOf_58 {X : CxT} {l : Launch} {G : GG} (C : Cx X l (mW G) 5 prog_14_method_51_code "OneSelfModel" (wo y_M_bundlesOf prog_14_method_51_code 5 (some .int)) (some .int) rm_m_bundlesOf) {o : Int × St} {N : Nat} {v1 v3 t0 t1 : Int} {k4 : Int → Int → St → MM} (hk4 : ∀ (u2 u3 : Int) (s : St), k4 u2 u3 s = some o → Rj X (mW G) 5 (qI X (mW G) o) 4 [(0, .ref ((mW G).h 0)), (1, vI v1), (2, vI u2), (3, vI u3)] [] s) {s : St} (hf : m_bundlesOf_58 N k4 v1 v3 t0 t1 s = some o) : Rj X (mW G) 5 (qI X (mW G) o) 58 [(0, .ref ((mW G).h 0)), (1, vI v1), (3, vI v3)] [vI t0, vI t1] s := by
  unfold m_bundlesOf_58 at hf
  refine r_iadd C (q := 59) d_M_bundlesOf_58 rfl ?_
  refine r_goto C (q := 74) d_M_bundlesOf_59 (by decide) ?_
  exact r_sub [0, 1, 2] rfl (s_m_bundlesOf_74 C hk4 hf)
theorem s_m_bundlesOf_4 {X : CxT} {l : Launch} {G : GG} (C : Cx X l (mW G) 5 prog_14_method_51_code "OneSelfModel" (wo y_M_bundlesOf prog_14_method_51_code 5 (some .int)) (some .int) rm_m_bundlesOf) {o : Int × St} {N : Nat} {v1 v2 v3 : Int} {k4 : Int → Int → St → MM} (hk4 : ∀ (u2 u3 : Int) (s : St), k4 u2 u3 s = some o → Rj X (mW G) 5 (qI X (mW G) o) 4 [(0, .ref ((mW G).h 0)), (1, vI v1), (2, vI u2), (3, vI u3)] [] s) {s : St} (hf : m_bundlesOf_4 N v1 k4 v2 v3 s = some o) : Rj X (mW G) 5 (qI X (mW G) o) 4 [(0, .ref ((mW G).h 0)), (1, vI v1), (2, vI v2), (3, vI v3)] [] s := by
  unfold m_bundlesOf_4 at hf
  refine r_iload_n C (q := 5) 3 d_M_bundlesOf_4 rfl rfl rfl ?_
  refine r_aload_n C (q := 6) 0 d_M_bundlesOf_5 rfl rfl rfl ?_
  refine gxm_M_rows C (q := 9) fl_M_130 d_M_bundlesOf_6 rfl ?_
  refine r_ic_ge C (t := 81) (q := 12) d_M_bundlesOf_9 (by decide) rfl (fun c9 => ?_) (fun c9 => ?_)
  · replace hf := ite_t c9 hf
    refine r_iload_n C (q := 82) 2 d_M_bundlesOf_81 rfl rfl rfl ?_
    exact r_ireturn C hf d_M_bundlesOf_82
  · replace hf := ite_f c9 hf
    refine r_aload_n C (q := 13) 0 d_M_bundlesOf_12 rfl rfl rfl ?_
    refine gxm_M_bundleOf C (q := 16) fl_M_84 d_M_bundlesOf_13 rfl ?_
    refine r_iload_n C (q := 17) 3 d_M_bundlesOf_16 rfl rfl rfl ?_
    obtain ⟨g17, hf⟩ := gd_s hf
    refine r_iald C (q := 18) 23 (Nat.le_of_ble_eq_true rfl) (fun _ => rfl) 0 rfl g17 (by decide) d_M_bundlesOf_17 rfl ?_
    refine r_iload_n C (q := 19) 3 d_M_bundlesOf_18 rfl rfl rfl ?_
    refine r_ic_ne C (t := 75) (q := 22) d_M_bundlesOf_19 (by decide) rfl (fun c19 => ?_) (fun c19 => ?_)
    · replace hf := ite_t c19 hf
      refine r_aload_n C (q := 23) 0 d_M_bundlesOf_22 rfl rfl rfl ?_
      refine r_iload_n C (q := 24) 3 d_M_bundlesOf_23 rfl rfl rfl ?_
      obtain ⟨r24, s24, hg24, hf⟩ := bd_s hf
      refine r_cVI C (q := 27) (As := [vI v3]) (k0 := 0) (c_m_sizeOf C.i hg24) mt_M_sizeOf ml_M_253 (Nat.le_of_ble_eq_true rfl) rfl rfl rfl rfl rfl rfl ⟨Nat.le_of_ble_eq_true rfl, Nat.le_of_ble_eq_true rfl⟩ rfl (Nat.le_of_ble_eq_true rfl) d_M_bundlesOf_24 rfl ?_
      refine r_istore C (q := 29) (lv' := [(4, vI r24), (0, .ref ((mW G).h 0)), (1, vI v1), (2, vI v2), (3, vI v3)]) d_M_bundlesOf_27 (by decide) rfl rfl ?_
      refine r_iload_n C (q := 30) 2 d_M_bundlesOf_29 rfl rfl rfl ?_
      refine r_if_ne C (t := 39) (q := 33) d_M_bundlesOf_30 (by decide) rfl (fun c30 => ?_) (fun c30 => ?_)
      · replace hf := ite_t c30 hf
        refine r_iload_n C (q := 34) 3 d_M_bundlesOf_33 rfl rfl rfl ?_
        refine r_iconst C (q := 35) d_M_bundlesOf_34 rfl ?_
        refine r_iadd C (q := 36) d_M_bundlesOf_35 rfl ?_
        refine r_goto C (q := 74) d_M_bundlesOf_36 (by decide) ?_
        exact r_sub [1, 2, 4] rfl (s_m_bundlesOf_74 C hk4 hf)
      · replace hf := ite_f c30 hf
        refine r_iload_n C (q := 40) 2 d_M_bundlesOf_39 rfl rfl rfl ?_
        refine r_iconst C (q := 41) d_M_bundlesOf_40 rfl ?_
        refine r_ic_ne C (t := 62) (q := 44) d_M_bundlesOf_41 (by decide) rfl (fun c41 => ?_) (fun c41 => ?_)
        · replace hf := ite_t c41 hf
          refine r_iload_n C (q := 45) 3 d_M_bundlesOf_44 rfl rfl rfl ?_
          refine r_aload_n C (q := 46) 1 d_M_bundlesOf_45 rfl rfl rfl ?_
          refine r_iload_n C (q := 47) 4 d_M_bundlesOf_46 rfl rfl rfl ?_
          obtain ⟨r47, s47, hg47, hf⟩ := bd_s hf
          refine r_cVI C (q := 50) (As := [vI v3]) (k0 := 0) (c_m_isTorn C.i hg47) mt_M_isTorn ml_M_256 (Nat.le_of_ble_eq_true rfl) rfl rfl rfl rfl rfl rfl ⟨Nat.le_of_ble_eq_true rfl, Nat.le_of_ble_eq_true rfl⟩ rfl (Nat.le_of_ble_eq_true rfl) d_M_bundlesOf_47 rfl ?_
          refine r_if_eq C (t := 57) (q := 53) d_M_bundlesOf_50 (by decide) rfl (fun c50 => ?_) (fun c50 => ?_)
          · replace hf := ite_t c50 hf
            refine r_iconst C (q := 58) d_M_bundlesOf_57 rfl ?_
            exact r_sub [1, 2, 4] rfl (s_m_bundlesOf_58 C hk4 hf)
          · replace hf := ite_f c50 hf
            refine r_iconst C (q := 54) d_M_bundlesOf_53 rfl ?_
            refine r_goto C (q := 58) d_M_bundlesOf_54 (by decide) ?_
            exact r_sub [1, 2, 4] rfl (s_m_bundlesOf_58 C hk4 hf)
        · replace hf := ite_f c41 hf
          refine r_iload C (q := 64) 0 d_M_bundlesOf_62 rfl rfl ?_
          refine r_iload_n C (q := 65) 3 d_M_bundlesOf_64 rfl rfl rfl ?_
          refine r_ic_le C (t := 73) (q := 68) d_M_bundlesOf_65 (by decide) rfl (fun c65 => ?_) (fun c65 => ?_)
          · replace hf := ite_t c65 hf
            refine r_iload_n C (q := 74) 3 d_M_bundlesOf_73 rfl rfl rfl ?_
            exact r_sub [1, 2, 4] rfl (s_m_bundlesOf_74 C hk4 hf)
          · replace hf := ite_f c65 hf
            refine r_iload C (q := 70) 0 d_M_bundlesOf_68 rfl rfl ?_
            refine r_goto C (q := 74) d_M_bundlesOf_70 (by decide) ?_
            exact r_sub [1, 2, 4] rfl (s_m_bundlesOf_74 C hk4 hf)
    · replace hf := ite_f c19 hf
      exact r_sub [0, 1, 2, 3] rfl (s_m_bundlesOf_75 C hk4 hf)
theorem c_m_bundlesOf {l : Launch} {G : GG} (hi : wo_i (mW G)) {N : Nat} {v1 : Int} {s : St} {o : Int × St} (hf : m_bundlesOf N v1 s = some o) : CtI l (mW G) y_M_bundlesOf (wo y_M_bundlesOf prog_14_method_51_code 5 (some .int)) rm_m_bundlesOf [.ref ((mW G).h 0), vI v1] s o := by
  refine ct_I (by decide +kernel) hi (Nat.le_of_ble_eq_true rfl) fun X C => ?_
  unfold m_bundlesOf at hf
  show Rj X (mW G) 5 (qI X (mW G) o) 0 [(0, .ref ((mW G).h 0)), (1, vI v1)] [] s
  refine r_iconst C (q := 1) d_M_bundlesOf_0 rfl ?_
  refine r_istore_n C (q := 2) (lv' := [(2, vI 0), (0, .ref ((mW G).h 0)), (1, vI v1)]) d_M_bundlesOf_1 rfl (by decide) rfl rfl ?_
  refine r_iconst C (q := 3) d_M_bundlesOf_2 rfl ?_
  refine r_istore_n C (q := 4) (lv' := [(3, vI 0), (2, vI 0), (0, .ref ((mW G).h 0)), (1, vI v1)]) d_M_bundlesOf_3 rfl (by decide) rfl rfl ?_
  have hL : ∀ (u2 u3 : Int) (z : St), itr (m_bundlesOf_4 N v1) (fun _ _ _ => none) N u2 u3 z = some o → Rj X (mW G) 5 (qI X (mW G) o) 4 [(0, .ref ((mW G).h 0)), (1, vI v1), (2, vI u2), (3, vI u3)] [] z := itr_ind (m_bundlesOf_4 N v1) (fun _ _ _ => none) (fun k => ∀ (u2 u3 : Int) (z : St), k u2 u3 z = some o → Rj X (mW G) 5 (qI X (mW G) o) 4 [(0, .ref ((mW G).h 0)), (1, vI v1), (2, vI u2), (3, vI u3)] [] z) (fun _ _ _  h => by cases h) (fun k hk u2 u3 z h => s_m_bundlesOf_4 C hk h) N
  exact r_sub [2, 3, 1, 0] rfl (hL _ _ _  hf)
