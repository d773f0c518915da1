def x_links (N : Nat) (s : St) : MM := bd (x_Pairs_countLinks N s) (fun r4 s4 => some (r4, s4))
abbrev rm_x_links : Room := { frames := 5, cells := 0, slots := 0, locals := 119 }
theorem c_x_links {l : Launch} {G : GG} (hi : wo_i (xW G)) {N : Nat} {s : St} {o : Int × St} (hf : x_links N s = some o) : CtI l (xW G) y_O_links (wo y_O_links prog_1_method_21_code 1 (some .int)) rm_x_links [.ref ((xW G).h 0)] s o := by
  refine ct_I (by decide +kernel) hi (Nat.le_of_ble_eq_true rfl) fun X C => ?_
  unfold x_links at hf
  show Rj X (xW G) 1 (qI X (xW G) o) 0 [(0, .ref ((xW G).h 0))] [] s
  refine r_aload_n C (q := 1) 0 d_O_links_0 rfl rfl rfl ?_
  refine gxx_O_pairs C (q := 4) fl_O_19 d_O_links_1 rfl ?_
  obtain ⟨r4, s4, hg4, hf⟩ := bd_s hf
  refine r_cVI C (q := 7) (As := []) (k0 := 2) (c_x_Pairs_countLinks C.i hg4) mt_Pairs_countLinks ml_O_224 (Nat.le_of_ble_eq_true rfl) rfl rfl rfl rfl rfl rfl ⟨Nat.le_of_ble_eq_true rfl, Nat.le_of_ble_eq_true rfl⟩ rfl (Nat.le_of_ble_eq_true rfl) d_O_links_4 rfl ?_
  exact r_ireturn C hf d_O_links_7
def x_Laying_list_27_48 (N : Nat) (k5 : Int → Int → St → MM) (v1 v3 v4 : Int) (s : St) : MM := k5 v3 (v4 + 1) s
def x_Laying_list_27_45 (N : Nat) (k5 : Int → Int → St → MM) (v1 v3 v4 : Int) (s : St) : MM := x_Laying_list_27_48 N k5 v1 (v3 + 1) v4  s
def x_Laying_list_27_5 (N : Nat) (v1 : Int) (k5 : Int → Int → St → MM) (v3 v4 : Int) (s : St) : MM := if le32 (s 3 2) v4 then (some (v3, s)) else (bd (x_Rows_isKnown N v4 s) (fun r17 s17 => if eq32 r17 0 then (x_Laying_list_27_48 N k5 v1 v3 v4  s17) else (bd (x_Rows_fact N v4 0 s17) (fun r27 s27 => if eq32 r27 v1 then (if le32 10 v3 then (x_Laying_list_27_45 N k5 v1 v3 v4  s27) else (gd (inb v3 10) (x_Laying_list_27_45 N k5 v1 v3 v4  (su s27 27 v3 v4)))) else (x_Laying_list_27_48 N k5 v1 v3 v4  s27)))))
def x_Laying_list_27 (N : Nat) (v1 : Int) (s : St) : MM := itr (x_Laying_list_27_5 N v1) (fun _ _ _ => none) N 0 0 s
abbrev rm_x_Laying_list_27 : Room := { frames := 2, cells := 0, slots := 0, locals := 45 }
theorem s_x_Laying_list_27_48 {X : CxT} {l : Launch} {G : GG} (C : Cx X l (xW G) 5 prog_6_method_3_code "OneSelf$Laying" (wo y_Laying_list prog_6_method_3_code 5 (some .int)) (some .int) rm_x_Laying_list_27) {o : Int × St} {N : Nat} {v1 v3 v4 : Int} {k5 : Int → Int → St → MM} (hk5 : ∀ (u3 u4 : Int) (s : St), k5 u3 u4 s = some o → Rj X (xW G) 5 (qI X (xW G) o) 5 [(0, .ref ((xW G).h 3)), (1, vI v1), (2, .ref ((xW G).h 27)), (3, vI u3), (4, vI u4)] [] s) {s : St} (hf : x_Laying_list_27_48 N k5 v1 v3 v4 s = some o) : Rj X (xW G) 5 (qI X (xW G) o) 48 [(0, .ref ((xW G).h 3)), (1, vI v1), (2, .ref ((xW G).h 27)), (3, vI v3), (4, vI v4)] [] s := by
  unfold x_Laying_list_27_48 at hf
  refine r_iinc C (q := 51) (lv' := [(4, vI (v4 + 1)), (0, .ref ((xW G).h 3)), (1, vI v1), (2, .ref ((xW G).h 27)), (3, vI v3)]) 4 d_Laying_list_48 rfl (by decide) rfl rfl ?_
  refine r_goto C (q := 5) d_Laying_list_51 (by decide) ?_
  exact r_sub [1, 2, 3, 4, 0] rfl (hk5 _ _ _  hf)
theorem s_x_Laying_list_27_45 {X : CxT} {l : Launch} {G : GG} (C : Cx X l (xW G) 5 prog_6_method_3_code "OneSelf$Laying" (wo y_Laying_list prog_6_method_3_code 5 (some .int)) (some .int) rm_x_Laying_list_27) {o : Int × St} {N : Nat} {v1 v3 v4 : Int} {k5 : Int → Int → St → MM} (hk5 : ∀ (u3 u4 : Int) (s : St), k5 u3 u4 s = some o → Rj X (xW G) 5 (qI X (xW G) o) 5 [(0, .ref ((xW G).h 3)), (1, vI v1), (2, .ref ((xW G).h 27)), (3, vI u3), (4, vI u4)] [] s) {s : St} (hf : x_Laying_list_27_45 N k5 v1 v3 v4 s = some o) : Rj X (xW G) 5 (qI X (xW G) o) 45 [(0, .ref ((xW G).h 3)), (1, vI v1), (2, .ref ((xW G).h 27)), (3, vI v3), (4, vI v4)] [] s := by
  unfold x_Laying_list_27_45 at hf
  refine r_iinc C (q := 48) (lv' := [(3, vI (v3 + 1)), (0, .ref ((xW G).h 3)), (1, vI v1), (2, .ref ((xW G).h 27)), (4, vI v4)]) 3 d_Laying_list_45 rfl (by decide) rfl rfl ?_
  exact r_sub [1, 2, 3, 0, 4] rfl (s_x_Laying_list_27_48 C hk5 hf)
theorem s_x_Laying_list_27_5 {X : CxT} {l : Launch} {G : GG} (C : Cx X l (xW G) 5 prog_6_method_3_code "OneSelf$Laying" (wo y_Laying_list prog_6_method_3_code 5 (some .int)) (some .int) rm_x_Laying_list_27) {o : Int × St} {N : Nat} {v1 v3 v4 : Int} {k5 : Int → Int → St → MM} (hk5 : ∀ (u3 u4 : Int) (s : St), k5 u3 u4 s = some o → Rj X (xW G) 5 (qI X (xW G) o) 5 [(0, .ref ((xW G).h 3)), (1, vI v1), (2, .ref ((xW G).h 27)), (3, vI u3), (4, vI u4)] [] s) {s : St} (hf : x_Laying_list_27_5 N v1 k5 v3 v4 s = some o) : Rj X (xW G) 5 (qI X (xW G) o) 5 [(0, .ref ((xW G).h 3)), (1, vI v1), (2, .ref ((xW G).h 27)), (3, vI v3), (4, vI v4)] [] s := by
  unfold x_Laying_list_27_5 at hf
  refine r_iload C (q := 7) 4 d_Laying_list_5 rfl rfl ?_
  refine r_aload_n C (q := 8) 0 d_Laying_list_7 rfl rfl rfl ?_
  refine gnx_Rows_many C (q := 11) fn_Laying_63 d_Laying_list_8 rfl ?_
  refine r_ic_ge C (t := 54) (q := 14) d_Laying_list_11 (by decide) rfl (fun c11 => ?_) (fun c11 => ?_)
  · replace hf := ite_t c11 hf
    refine r_iload_n C (q := 55) 3 d_Laying_list_54 rfl rfl rfl ?_
    exact r_ireturn C hf d_Laying_list_55
  · replace hf := ite_f c11 hf
    refine r_aload_n C (q := 15) 0 d_Laying_list_14 rfl rfl rfl ?_
    refine r_iload C (q := 17) 4 d_Laying_list_15 rfl rfl ?_
    obtain ⟨r17, s17, hg17, hf⟩ := bd_s hf
    refine r_cVI C (q := 20) (As := [vI v4]) (k0 := 3) (c_x_Rows_isKnown C.i hg17) mt_Rows_isKnown ml_Laying_68 (Nat.le_of_ble_eq_true rfl) rfl rfl rfl rfl rfl rfl ⟨Nat.le_of_ble_eq_true rfl, Nat.le_of_ble_eq_true rfl⟩ rfl (Nat.le_of_ble_eq_true rfl) d_Laying_list_17 rfl ?_
    refine r_if_eq C (t := 48) (q := 23) d_Laying_list_20 (by decide) rfl (fun c20 => ?_) (fun c20 => ?_)
    · replace hf := ite_t c20 hf
      exact r_sub [0, 1, 2, 3, 4] rfl (s_x_Laying_list_27_48 C hk5 hf)
    · replace hf := ite_f c20 hf
      refine r_aload_n C (q := 24) 0 d_Laying_list_23 rfl rfl rfl ?_
      refine r_iload C (q := 26) 4 d_Laying_list_24 rfl rfl ?_
      refine r_iconst C (q := 27) d_Laying_list_26 rfl ?_
      obtain ⟨r27, s27, hg27, hf⟩ := bd_s hf
      refine r_cVI C (q := 30) (As := [vI v4, vI 0]) (k0 := 3) (c_x_Rows_fact C.i hg27) mt_Rows_fact ml_Laying_72 (Nat.le_of_ble_eq_true rfl) rfl rfl rfl rfl rfl rfl ⟨Nat.le_of_ble_eq_true rfl, Nat.le_of_ble_eq_true rfl⟩ rfl (Nat.le_of_ble_eq_true rfl) d_Laying_list_27 rfl ?_
      refine r_iload_n C (q := 31) 1 d_Laying_list_30 rfl rfl rfl ?_
      refine r_ic_ne C (t := 48) (q := 34) d_Laying_list_31 (by decide) rfl (fun c31 => ?_) (fun c31 => ?_)
      · replace hf := ite_t c31 hf
        refine r_iload_n C (q := 35) 3 d_Laying_list_34 rfl rfl rfl ?_
        refine r_aload_n C (q := 36) 2 d_Laying_list_35 rfl rfl rfl ?_
        refine r_alen C (q := 37) 27 (Nat.le_of_ble_eq_true rfl) rfl 0 rfl rfl d_Laying_list_36 rfl ?_
        refine r_ic_ge C (t := 45) (q := 40) d_Laying_list_37 (by decide) rfl (fun c37 => ?_) (fun c37 => ?_)
        · replace hf := ite_t c37 hf
          exact r_sub [0, 1, 2, 3, 4] rfl (s_x_Laying_list_27_45 C hk5 hf)
        · replace hf := ite_f c37 hf
          refine r_aload_n C (q := 41) 2 d_Laying_list_40 rfl rfl rfl ?_
          refine r_iload_n C (q := 42) 3 d_Laying_list_41 rfl rfl rfl ?_
          refine r_iload C (q := 44) 4 d_Laying_list_42 rfl rfl ?_
          obtain ⟨g44, hf⟩ := gd_s hf
          refine r_iast C (q := 45) 27 (Nat.le_of_ble_eq_true rfl) (fun _ => rfl) 0 rfl g44 (by decide) d_Laying_list_44 rfl ?_
          exact r_sub [0, 1, 2, 3, 4] rfl (s_x_Laying_list_27_45 C hk5 hf)
      · replace hf := ite_f c31 hf
        exact r_sub [0, 1, 2, 3, 4] rfl (s_x_Laying_list_27_48 C hk5 hf)
theorem c_x_Laying_list_27 {l : Launch} {G : GG} (hi : wo_i (xW G)) {N : Nat} {v1 : Int} {s : St} {o : Int × St} (hf : x_Laying_list_27 N v1 s = some o) : CtI l (xW G) y_Laying_list (wo y_Laying_list prog_6_method_3_code 5 (some .int)) rm_x_Laying_list_27 [.ref ((xW G).h 3), vI v1, .ref ((xW G).h 27)] s o := by
  refine ct_I (by decide +kernel) hi (Nat.le_of_ble_eq_true rfl) fun X C => ?_
  unfold x_Laying_list_27 at hf
  show Rj X (xW G) 5 (qI X (xW G) o) 0 [(0, .ref ((xW G).h 3)), (1, vI v1), (2, .ref ((xW G).h 27))] [] s
  refine r_iconst C (q := 1) d_Laying_list_0 rfl ?_
  refine r_istore_n C (q := 2) (lv' := [(3, vI 0), (0, .ref ((xW G).h 3)), (1, vI v1), (2, .ref ((xW G).h 27))]) d_Laying_list_1 rfl (by decide) rfl rfl ?_
  refine r_iconst C (q := 3) d_Laying_list_2 rfl ?_
  refine r_istore C (q := 5) (lv' := [(4, vI 0), (3, vI 0), (0, .ref ((xW G).h 3)), (1, vI v1), (2, .ref ((xW G).h 27))]) d_Laying_list_3 (by decide) rfl rfl ?_
  have hL : ∀ (u3 u4 : Int) (z : St), itr (x_Laying_list_27_5 N v1) (fun _ _ _ => none) N u3 u4 z = some o → Rj X (xW G) 5 (qI X (xW G) o) 5 [(0, .ref ((xW G).h 3)), (1, vI v1), (2, .ref ((xW G).h 27)), (3, vI u3), (4, vI u4)] [] z := itr_ind (x_Laying_list_27_5 N v1) (fun _ _ _ => none) (fun k => ∀ (u3 u4 : Int) (z : St), k u3 u4 z = some o → Rj X (xW G) 5 (qI X (xW G) o) 5 [(0, .ref ((xW G).h 3)), (1, vI v1), (2, .ref ((xW G).h 27)), (3, vI u3), (4, vI u4)] [] z) (fun _ _ _  h => by cases h) (fun k hk u3 u4 z h => s_x_Laying_list_27_5 C hk h) N
  exact r_sub [2, 3, 4, 1, 0] rfl (hL _ _ _  hf)
def x_Laying_list_28_48 (N : Nat) (k5 : Int → Int → St → MM) (v1 v3 v4 : Int) (s : St) : MM := k5 v3 (v4 + 1) s
def x_Laying_list_28_45 (N : Nat) (k5 : Int → Int → St → MM) (v1 v3 v4 : Int) (s : St) : MM := x_Laying_list_28_48 N k5 v1 (v3 + 1) v4  s
def x_Laying_list_28_5 (N : Nat) (v1 : Int) (k5 : Int → Int → St → MM) (v3 v4 : Int) (s : St) : MM := if le32 (s 3 2) v4 then (some (v3, s)) else (bd (x_Rows_isKnown N v4 s) (fun r17 s17 => if eq32 r17 0 then (x_Laying_list_28_48 N k5 v1 v3 v4  s17) else (bd (x_Rows_fact N v4 0 s17) (fun r27 s27 => if eq32 r27 v1 then (if le32 10 v3 then (x_Laying_list_28_45 N k5 v1 v3 v4  s27) else (gd (inb v3 10) (x_Laying_list_28_45 N k5 v1 v3 v4  (su s27 28 v3 v4)))) else (x_Laying_list_28_48 N k5 v1 v3 v4  s27)))))
def x_Laying_list_28 (N : Nat) (v1 : Int) (s : St) : MM := itr (x_Laying_list_28_5 N v1) (fun _ _ _ => none) N 0 0 s
abbrev rm_x_Laying_list_28 : Room := { frames := 2, cells := 0, slots := 0, locals := 45 }
theorem s_x_Laying_list_28_48 {X : CxT} {l : Launch} {G : GG} (C : Cx X l (xW G) 5 prog_6_method_3_code "OneSelf$Laying" (wo y_Laying_list prog_6_method_3_code 5 (some .int)) (some .int) rm_x_Laying_list_28) {o : Int × St} {N : Nat} {v1 v3 v4 : Int} {k5 : Int → Int → St → MM} (hk5 : ∀ (u3 u4 : Int) (s : St), k5 u3 u4 s = some o → Rj X (xW G) 5 (qI X (xW G) o) 5 [(0, .ref ((xW G).h 3)), (1, vI v1), (2, .ref ((xW G).h 28)), (3, vI u3), (4, vI u4)] [] s) {s : St} (hf : x_Laying_list_28_48 N k5 v1 v3 v4 s = some o) : Rj X (xW G) 5 (qI X (xW G) o) 48 [(0, .ref ((xW G).h 3)), (1, vI v1), (2, .ref ((xW G).h 28)), (3, vI v3), (4, vI v4)] [] s := by
  unfold x_Laying_list_28_48 at hf
  refine r_iinc C (q := 51) (lv' := [(4, vI (v4 + 1)), (0, .ref ((xW G).h 3)), (1, vI v1), (2, .ref ((xW G).h 28)), (3, vI v3)]) 4 d_Laying_list_48 rfl (by decide) rfl rfl ?_
  refine r_goto C (q := 5) d_Laying_list_51 (by decide) ?_
  exact r_sub [1, 2, 3, 4, 0] rfl (hk5 _ _ _  hf)
theorem s_x_Laying_list_28_45 {X : CxT} {l : Launch} {G : GG} (C : Cx X l (xW G) 5 prog_6_method_3_code "OneSelf$Laying" (wo y_Laying_list prog_6_method_3_code 5 (some .int)) (some .int) rm_x_Laying_list_28) {o : Int × St} {N : Nat} {v1 v3 v4 : Int} {k5 : Int → Int → St → MM} (hk5 : ∀ (u3 u4 : Int) (s : St), k5 u3 u4 s = some o → Rj X (xW G) 5 (qI X (xW G) o) 5 [(0, .ref ((xW G).h 3)), (1, vI v1), (2, .ref ((xW G).h 28)), (3, vI u3), (4, vI u4)] [] s) {s : St} (hf : x_Laying_list_28_45 N k5 v1 v3 v4 s = some o) : Rj X (xW G) 5 (qI X (xW G) o) 45 [(0, .ref ((xW G).h 3)), (1, vI v1), (2, .ref ((xW G).h 28)), (3, vI v3), (4, vI v4)] [] s := by
  unfold x_Laying_list_28_45 at hf
  refine r_iinc C (q := 48) (lv' := [(3, vI (v3 + 1)), (0, .ref ((xW G).h 3)), (1, vI v1), (2, .ref ((xW G).h 28)), (4, vI v4)]) 3 d_Laying_list_45 rfl (by decide) rfl rfl ?_
  exact r_sub [1, 2, 3, 0, 4] rfl (s_x_Laying_list_28_48 C hk5 hf)
theorem s_x_Laying_list_28_5 {X : CxT} {l : Launch} {G : GG} (C : Cx X l (xW G) 5 prog_6_method_3_code "OneSelf$Laying" (wo y_Laying_list prog_6_method_3_code 5 (some .int)) (some .int) rm_x_Laying_list_28) {o : Int × St} {N : Nat} {v1 v3 v4 : Int} {k5 : Int → Int → St → MM} (hk5 : ∀ (u3 u4 : Int) (s : St), k5 u3 u4 s = some o → Rj X (xW G) 5 (qI X (xW G) o) 5 [(0, .ref ((xW G).h 3)), (1, vI v1), (2, .ref ((xW G).h 28)), (3, vI u3), (4, vI u4)] [] s) {s : St} (hf : x_Laying_list_28_5 N v1 k5 v3 v4 s = some o) : Rj X (xW G) 5 (qI X (xW G) o) 5 [(0, .ref ((xW G).h 3)), (1, vI v1), (2, .ref ((xW G).h 28)), (3, vI v3), (4, vI v4)] [] s := by
  unfold x_Laying_list_28_5 at hf
  refine r_iload C (q := 7) 4 d_Laying_list_5 rfl rfl ?_
  refine r_aload_n C (q := 8) 0 d_Laying_list_7 rfl rfl rfl ?_
  refine gnx_Rows_many C (q := 11) fn_Laying_63 d_Laying_list_8 rfl ?_
  refine r_ic_ge C (t := 54) (q := 14) d_Laying_list_11 (by decide) rfl (fun c11 => ?_) (fun c11 => ?_)
  · replace hf := ite_t c11 hf
    refine r_iload_n C (q := 55) 3 d_Laying_list_54 rfl rfl rfl ?_
    exact r_ireturn C hf d_Laying_list_55
  · replace hf := ite_f c11 hf
    refine r_aload_n C (q := 15) 0 d_Laying_list_14 rfl rfl rfl ?_
    refine r_iload C (q := 17) 4 d_Laying_list_15 rfl rfl ?_
    obtain ⟨r17, s17, hg17, hf⟩ := bd_s hf
    refine r_cVI C (q := 20) (As := [vI v4]) (k0 := 3) (c_x_Rows_isKnown C.i hg17) mt_Rows_isKnown ml_Laying_68 (Nat.le_of_ble_eq_true rfl) rfl rfl rfl rfl rfl rfl ⟨Nat.le_of_ble_eq_true rfl, Nat.le_of_ble_eq_true rfl⟩ rfl (Nat.le_of_ble_eq_true rfl) d_Laying_list_17 rfl ?_
    refine r_if_eq C (t := 48) (q := 23) d_Laying_list_20 (by decide) rfl (fun c20 => ?_) (fun c20 => ?_)
    · replace hf := ite_t c20 hf
      exact r_sub [0, 1, 2, 3, 4] rfl (s_x_Laying_list_28_48 C hk5 hf)
    · replace hf := ite_f c20 hf
      refine r_aload_n C (q := 24) 0 d_Laying_list_23 rfl rfl rfl ?_
      refine r_iload C (q := 26) 4 d_Laying_list_24 rfl rfl ?_
      refine r_iconst C (q := 27) d_Laying_list_26 rfl ?_
      obtain ⟨r27, s27, hg27, hf⟩ := bd_s hf
      refine r_cVI C (q := 30) (As := [vI v4, vI 0]) (k0 := 3) (c_x_Rows_fact C.i hg27) mt_Rows_fact ml_Laying_72 (Nat.le_of_ble_eq_true rfl) rfl rfl rfl rfl rfl rfl ⟨Nat.le_of_ble_eq_true rfl, Nat.le_of_ble_eq_true rfl⟩ rfl (Nat.le_of_ble_eq_true rfl) d_Laying_list_27 rfl ?_
      refine r_iload_n C (q := 31) 1 d_Laying_list_30 rfl rfl rfl ?_
      refine r_ic_ne C (t := 48) (q := 34) d_Laying_list_31 (by decide) rfl (fun c31 => ?_) (fun c31 => ?_)
      · replace hf := ite_t c31 hf
        refine r_iload_n C (q := 35) 3 d_Laying_list_34 rfl rfl rfl ?_
        refine r_aload_n C (q := 36) 2 d_Laying_list_35 rfl rfl rfl ?_
        refine r_alen C (q := 37) 28 (Nat.le_of_ble_eq_true rfl) rfl 0 rfl rfl d_Laying_list_36 rfl ?_
        refine r_ic_ge C (t := 45) (q := 40) d_Laying_list_37 (by decide) rfl (fun c37 => ?_) (fun c37 => ?_)
        · replace hf := ite_t c37 hf
          exact r_sub [0, 1, 2, 3, 4] rfl (s_x_Laying_list_28_45 C hk5 hf)
        · replace hf := ite_f c37 hf
          refine r_aload_n C (q := 41) 2 d_Laying_list_40 rfl rfl rfl ?_
          refine r_iload_n C (q := 42) 3 d_Laying_list_41 rfl rfl rfl ?_
          refine r_iload C (q := 44) 4 d_Laying_list_42 rfl rfl ?_
          obtain ⟨g44, hf⟩ := gd_s hf
          refine r_iast C (q := 45) 28 (Nat.le_of_ble_eq_true rfl) (fun _ => rfl) 0 rfl g44 (by decide) d_Laying_list_44 rfl ?_
          exact r_sub [0, 1, 2, 3, 4] rfl (s_x_Laying_list_28_45 C hk5 hf)
      · replace hf := ite_f c31 hf
        exact r_sub [0, 1, 2, 3, 4] rfl (s_x_Laying_list_28_48 C hk5 hf)
theorem c_x_Laying_list_28 {l : Launch} {G : GG} (hi : wo_i (xW G)) {N : Nat} {v1 : Int} {s : St} {o : Int × St} (hf : x_Laying_list_28 N v1 s = some o) : CtI l (xW G) y_Laying_list (wo y_Laying_list prog_6_method_3_code 5 (some .int)) rm_x_Laying_list_28 [.ref ((xW G).h 3), vI v1, .ref ((xW G).h 28)] s o := by
  refine ct_I (by decide +kernel) hi (Nat.le_of_ble_eq_true rfl) fun X C => ?_
  unfold x_Laying_list_28 at hf
  show Rj X (xW G) 5 (qI X (xW G) o) 0 [(0, .ref ((xW G).h 3)), (1, vI v1), (2, .ref ((xW G).h 28))] [] s
  refine r_iconst C (q := 1) d_Laying_list_0 rfl ?_
  refine r_istore_n C (q := 2) (lv' := [(3, vI 0), (0, .ref ((xW G).h 3)), (1, vI v1), (2, .ref ((xW G).h 28))]) d_Laying_list_1 rfl (by decide) rfl rfl ?_
  refine r_iconst C (q := 3) d_Laying_list_2 rfl ?_
  refine r_istore C (q := 5) (lv' := [(4, vI 0), (3, vI 0), (0, .ref ((xW G).h 3)), (1, vI v1), (2, .ref ((xW G).h 28))]) d_Laying_list_3 (by decide) rfl rfl ?_
  have hL : ∀ (u3 u4 : Int) (z : St), itr (x_Laying_list_28_5 N v1) (fun _ _ _ => none) N u3 u4 z = some o → Rj X (xW G) 5 (qI X (xW G) o) 5 [(0, .ref ((xW G).h 3)), (1, vI v1), (2, .ref ((xW G).h 28)), (3, vI u3), (4, vI u4)] [] z := itr_ind (x_Laying_list_28_5 N v1) (fun _ _ _ => none) (fun k => ∀ (u3 u4 : Int) (z : St), k u3 u4 z = some o → Rj X (xW G) 5 (qI X (xW G) o) 5 [(0, .ref ((xW G).h 3)), (1, vI v1), (2, .ref ((xW G).h 28)), (3, vI u3), (4, vI u4)] [] z) (fun _ _ _  h => by cases h) (fun k hk u3 u4 z h => s_x_Laying_list_28_5 C hk h) N
  exact r_sub [2, 3, 4, 1, 0] rfl (hL _ _ _  hf)
def j_Arrays_fill_JJV_6 (N : Nat) (k0 : Nat) (n0 : Nat) (v1 v4 : Int) (k6 : Int → St → MM) (v3 : Int) (s : St) : MM := if le32 v4 v3 then (some (0, s)) else (gd (inb v3 (n0 : Int)) (k6 (v3 + 1) (su s k0 v3 v1)))
def j_Arrays_fill_JJV (N : Nat) (k0 : Nat) (n0 : Nat) (v1 : Int) (s : St) : MM := itr (j_Arrays_fill_JJV_6 N k0 n0 v1 ((n0 : Int))) (fun _ _ => none) N 0 s
abbrev rm_j_Arrays_fill_JJV : Room := { frames := 0, cells := 0, slots := 0, locals := 0 }
theorem s_j_Arrays_fill_JJV_6 {X : CxT} {l : Launch} {w : WoT} {k0 n0 : Nat} (hk0 : k0 < w.n) {cA : ClassId} (hc0 : ∀ f, w.c k0 f = .inl (cA, n0, .inr (.inl (fun j : Nat => Int64.ofInt (f j))))) (t0 : Nat) (ht0 : w.tys[t0]? = some (cA, .long)) (hn0 : n0 < 2147483648) (C : Cx X l w 5 prog_18_method_101_code "java/util/Arrays" (wo y_Arrays_fill_JJV prog_18_method_101_code 5 none) none rm_j_Arrays_fill_JJV) {o : Int × St} {N : Nat} {v1 v3 v4 : Int} {k6 : Int → St → MM} (hk6 : ∀ (u3 : Int) (s : St), k6 u3 s = some o → Rj X w 5 (qV X w o) 6 [(0, .ref (w.h k0)), (1, vJ v1), (3, vI u3), (4, vI v4)] [] s) {s : St} (hf : j_Arrays_fill_JJV_6 N k0 n0 v1 v4 k6 v3 s = some o) : Rj X w 5 (qV X w o) 6 [(0, .ref (w.h k0)), (1, vJ v1), (3, vI v3), (4, vI v4)] [] s := by
  unfold j_Arrays_fill_JJV_6 at hf
  refine r_iload_n C (q := 7) 2 d_Arrays_fill_JJV_6 rfl rfl rfl ?_
  refine r_iload C (q := 9) 3 d_Arrays_fill_JJV_7 rfl rfl ?_
  refine r_ic_ge C (t := 22) (q := 12) d_Arrays_fill_JJV_9 (by decide) rfl (fun c9 => ?_) (fun c9 => ?_)
  · replace hf := ite_t c9 hf
    exact r_return C hf d_Arrays_fill_JJV_22
  · replace hf := ite_f c9 hf
    refine r_aload_n C (q := 13) 0 d_Arrays_fill_JJV_12 rfl rfl rfl ?_
    refine r_iload_n C (q := 14) 2 d_Arrays_fill_JJV_13 rfl rfl rfl ?_
    refine r_lload_n C (q := 15) 1 d_Arrays_fill_JJV_14 rfl rfl rfl ?_
    obtain ⟨g15, hf⟩ := gd_s hf
    refine r_last C (q := 16) k0 hk0 hc0 t0 ht0 g15 hn0 d_Arrays_fill_JJV_15 rfl ?_
    refine r_iinc C (q := 19) (lv' := [(3, vI (v3 + 1)), (0, .ref (w.h k0)), (1, vJ v1), (4, vI v4)]) 2 d_Arrays_fill_JJV_16 rfl (by decide) rfl rfl ?_
    refine r_goto C (q := 6) d_Arrays_fill_JJV_19 (by decide) ?_
    exact r_sub [1, 2, 0, 3] rfl (hk6 _ _  hf)
theorem c_j_Arrays_fill_JJV {l : Launch} {w : WoT} {k0 n0 : Nat} (hk0 : k0 < w.n) {cA : ClassId} (hc0 : ∀ f, w.c k0 f = .inl (cA, n0, .inr (.inl (fun j : Nat => Int64.ofInt (f j))))) (t0 : Nat) (ht0 : w.tys[t0]? = some (cA, .long)) (hn0 : n0 < 2147483648) (hi : wo_i w) {N : Nat} {v1 : Int} {s : St} {o : Int × St} (hf : j_Arrays_fill_JJV N k0 n0 v1 s = some o) : CtV l w y_Arrays_fill_JJV (wo y_Arrays_fill_JJV prog_18_method_101_code 5 none) rm_j_Arrays_fill_JJV [.ref (w.h k0), vJ v1] s o := by
  refine ct_V (by decide +kernel) hi (Nat.le_of_ble_eq_true rfl) fun X C => ?_
  unfold j_Arrays_fill_JJV at hf
  show Rj X w 5 (qV X w o) 0 [(0, .ref (w.h k0)), (1, vJ v1)] [] s
  refine r_iconst C (q := 1) d_Arrays_fill_JJV_0 rfl ?_
  refine r_istore_n C (q := 2) (lv' := [(3, vI 0), (0, .ref (w.h k0)), (1, vJ v1)]) d_Arrays_fill_JJV_1 rfl (by decide) rfl rfl ?_
  refine r_aload_n C (q := 3) 1 d_Arrays_fill_JJV_2 rfl rfl rfl ?_
  refine r_alen C (q := 4) k0 hk0 (hc0 _) t0 ht0 rfl d_Arrays_fill_JJV_3 rfl ?_
  refine r_istore C (q := 6) (lv' := [(4, vI ((n0 : Int))), (3, vI 0), (0, .ref (w.h k0)), (1, vJ v1)]) d_Arrays_fill_JJV_4 (by decide) rfl rfl ?_
  have hL : ∀ (u3 : Int) (z : St), itr (j_Arrays_fill_JJV_6 N k0 n0 v1 ((n0 : Int))) (fun _ _ => none) N u3 z = some o → Rj X w 5 (qV X w o) 6 [(0, .ref (w.h k0)), (1, vJ v1), (3, vI u3), (4, vI ((n0 : Int)))] [] z := itr_ind (j_Arrays_fill_JJV_6 N k0 n0 v1 ((n0 : Int))) (fun _ _ => none) (fun k => ∀ (u3 : Int) (z : St), k u3 z = some o → Rj X w 5 (qV X w o) 6 [(0, .ref (w.h k0)), (1, vJ v1), (3, vI u3), (4, vI ((n0 : Int)))] [] z) (fun _ _  h => by cases h) (fun k hk u3 z h => s_j_Arrays_fill_JJV_6 hk0 hc0 t0 ht0 hn0 C hk h) N
  exact r_sub [2, 3, 1, 0] rfl (hL _ _  hf)
def x_Laying_weigh_86 (N : Nat) (k6 : Int → Int → St → MM) (v2 v3 v5 v6 v9 t0 t1 : Int) (s : St) : MM := gd (inb t1 10) (k6 (or32 v5 v9) (v6 + 1) (su s 29 t1 t0))
def x_Laying_weigh_52 (N : Nat) (k6 : Int → Int → St → MM) (v2 v3 v5 v6 v7 t0 : Int) (s : St) : MM := if eq32 t0 0 then (x_Laying_weigh_86 N k6 v2 v3 v5 v6 t0 0 v6 s) else (x_Laying_weigh_86 N k6 v2 v3 v5 v6 t0 ((v7 * 25937424601) + ((s32 ((s 7 5) - v6)) * v3)) v6 s)
def x_Laying_weigh_6 (N : Nat) (v2 v3 : Int) (k6 : Int → Int → St → MM) (v5 v6 : Int) (s : St) : MM := if le32 (s 7 5) v6 then (gd (bit1 v5) (some (v5, s))) else (gd (inb v6 10) (bd (x_Pairs_scoreOf N v2 (s 28 v6) s) (fun r24 s24 => if lt64 (s32 ((r24 - (s24 6 4)) + 1)) 1 then (x_Laying_weigh_52 N k6 v2 v3 v5 v6 (s32 ((r24 - (s24 6 4)) + 1)) 0 s24) else (x_Laying_weigh_52 N k6 v2 v3 v5 v6 (s32 ((r24 - (s24 6 4)) + 1)) 1 s24))))
def x_Laying_weigh (N : Nat) (v2 v3 : Int) (s : St) : MM := itr (x_Laying_weigh_6 N v2 v3) (fun _ _ _ => none) N 0 0 s
abbrev rm_x_Laying_weigh : Room := { frames := 3, cells := 0, slots := 0, locals := 74 }
theorem s_x_Laying_weigh_86 {X : CxT} {l : Launch} {G : GG} (C : Cx X l (xW G) 10 prog_6_method_4_code "OneSelf$Laying" (wo y_Laying_weigh prog_6_method_4_code 10 (some .boolean)) (some .boolean) rm_x_Laying_weigh) {o : Int × St} {N : Nat} {v2 v3 v5 v6 v9 t0 t1 : Int} {k6 : Int → Int → St → MM} (hk6 : ∀ (u5 u6 : Int) (s : St), k6 u5 u6 s = some o → Rj X (xW G) 10 (qI X (xW G) o) 6 [(0, .ref ((xW G).h 7)), (1, .ref ((xW G).h 2)), (2, vI v2), (3, vJ v3), (5, vI u5), (6, vI u6)] [] s) {s : St} (hf : x_Laying_weigh_86 N k6 v2 v3 v5 v6 v9 t0 t1 s = some o) : Rj X (xW G) 10 (qI X (xW G) o) 86 [(0, .ref ((xW G).h 7)), (1, .ref ((xW G).h 2)), (2, vI v2), (3, vJ v3), (5, vI v5), (6, vI v6), (9, vI v9)] [vJ t0, vI t1, .ref ((xW G).h 29)] s := by
  unfold x_Laying_weigh_86 at hf
  obtain ⟨g86, hf⟩ := gd_s hf
  refine r_last C (q := 87) 29 (Nat.le_of_ble_eq_true rfl) (fun _ => rfl) 1 rfl g86 (by decide) d_Laying_weigh_86 rfl ?_
  refine r_iload C (q := 89) 4 d_Laying_weigh_87 rfl rfl ?_
  refine r_iload C (q := 91) 6 d_Laying_weigh_89 rfl rfl ?_
  refine r_ior C (q := 92) d_Laying_weigh_91 rfl ?_
  refine r_istore C (q := 94) (lv' := [(5, vI (or32 v5 v9)), (0, .ref ((xW G).h 7)), (1, .ref ((xW G).h 2)), (2, vI v2), (3, vJ v3), (6, vI v6), (9, vI v9)]) d_Laying_weigh_92 (by decide) rfl rfl ?_
  refine r_iinc C (q := 97) (lv' := [(6, vI (v6 + 1)), (5, vI (or32 v5 v9)), (0, .ref ((xW G).h 7)), (1, .ref ((xW G).h 2)), (2, vI v2), (3, vJ v3), (9, vI v9)]) 5 d_Laying_weigh_94 rfl (by decide) rfl rfl ?_
  refine r_goto C (q := 6) d_Laying_weigh_97 (by decide) ?_
  exact r_sub [2, 3, 4, 5, 1, 0] rfl (hk6 _ _ _  hf)
theorem s_x_Laying_weigh_52 {X : CxT} {l : Launch} {G : GG} (C : Cx X l (xW G) 10 prog_6_method_4_code "OneSelf$Laying" (wo y_Laying_weigh prog_6_method_4_code 10 (some .boolean)) (some .boolean) rm_x_Laying_weigh) {o : Int × St} {N : Nat} {v2 v3 v5 v6 v7 t0 : Int} {k6 : Int → Int → St → MM} (hk6 : ∀ (u5 u6 : Int) (s : St), k6 u5 u6 s = some o → Rj X (xW G) 10 (qI X (xW G) o) 6 [(0, .ref ((xW G).h 7)), (1, .ref ((xW G).h 2)), (2, vI v2), (3, vJ v3), (5, vI u5), (6, vI u6)] [] s) {s : St} (hf : x_Laying_weigh_52 N k6 v2 v3 v5 v6 v7 t0 s = some o) : Rj X (xW G) 10 (qI X (xW G) o) 52 [(0, .ref ((xW G).h 7)), (1, .ref ((xW G).h 2)), (2, vI v2), (3, vJ v3), (5, vI v5), (6, vI v6), (7, vJ v7)] [vI t0] s := by
  unfold x_Laying_weigh_52 at hf
  refine r_istore C (q := 54) (lv' := [(9, vI t0), (0, .ref ((xW G).h 7)), (1, .ref ((xW G).h 2)), (2, vI v2), (3, vJ v3), (5, vI v5), (6, vI v6), (7, vJ v7)]) d_Laying_weigh_52 (by decide) rfl rfl ?_
  refine r_aload_n C (q := 55) 1 d_Laying_weigh_54 rfl rfl rfl ?_
  refine gxx_Laying_gains C (q := 58) fl_Laying_18 d_Laying_weigh_55 rfl ?_
  refine r_iload C (q := 60) 6 d_Laying_weigh_58 rfl rfl ?_
  refine r_iload C (q := 62) 0 d_Laying_weigh_60 rfl rfl ?_
  refine r_if_eq C (t := 85) (q := 65) d_Laying_weigh_62 (by decide) rfl (fun c62 => ?_) (fun c62 => ?_)
  · replace hf := ite_t c62 hf
    refine r_lconst C (q := 86) (x := 0) d_Laying_weigh_85 rfl rfl ?_
    exact r_sub [1, 2, 3, 4, 5, 6, 0] rfl (s_x_Laying_weigh_86 C hk6 hf)
  · replace hf := ite_f c62 hf
    refine r_lload C (q := 67) 7 d_Laying_weigh_65 rfl rfl ?_
    refine r_ldc2 C (q := 70) (x := 25937424601) kc_Laying_88 rfl d_Laying_weigh_67 rfl ?_
    refine r_lmul C (q := 71) d_Laying_weigh_70 rfl ?_
    refine r_aload_n C (q := 72) 1 d_Laying_weigh_71 rfl rfl rfl ?_
    refine gxx_Laying_rights C (q := 75) fl_Laying_39 d_Laying_weigh_72 rfl ?_
    refine r_iload C (q := 77) 6 d_Laying_weigh_75 rfl rfl ?_
    refine r_isub C (q := 78) d_Laying_weigh_77 rfl ?_
    refine r_i2l C (q := 79) d_Laying_weigh_78 rfl ?_
    refine r_lload_n C (q := 80) 4 d_Laying_weigh_79 rfl rfl rfl ?_
    refine r_lmul C (q := 81) d_Laying_weigh_80 rfl ?_
    refine r_ladd C (q := 82) d_Laying_weigh_81 rfl ?_
    refine r_goto C (q := 86) d_Laying_weigh_82 (by decide) ?_
    exact r_sub [1, 2, 3, 4, 5, 6, 0] rfl (s_x_Laying_weigh_86 C hk6 hf)
theorem s_x_Laying_weigh_6 {X : CxT} {l : Launch} {G : GG} (C : Cx X l (xW G) 10 prog_6_method_4_code "OneSelf$Laying" (wo y_Laying_weigh prog_6_method_4_code 10 (some .boolean)) (some .boolean) rm_x_Laying_weigh) {o : Int × St} {N : Nat} {v2 v3 v5 v6 : Int} {k6 : Int → Int → St → MM} (hk6 : ∀ (u5 u6 : Int) (s : St), k6 u5 u6 s = some o → Rj X (xW G) 10 (qI X (xW G) o) 6 [(0, .ref ((xW G).h 7)), (1, .ref ((xW G).h 2)), (2, vI v2), (3, vJ v3), (5, vI u5), (6, vI u6)] [] s) {s : St} (hf : x_Laying_weigh_6 N v2 v3 k6 v5 v6 s = some o) : Rj X (xW G) 10 (qI X (xW G) o) 6 [(0, .ref ((xW G).h 7)), (1, .ref ((xW G).h 2)), (2, vI v2), (3, vJ v3), (5, vI v5), (6, vI v6)] [] s := by
  unfold x_Laying_weigh_6 at hf
  refine r_iload C (q := 8) 5 d_Laying_weigh_6 rfl rfl ?_
  refine r_aload_n C (q := 9) 0 d_Laying_weigh_8 rfl rfl rfl ?_
  refine gxx_Laying_rights C (q := 12) fl_Laying_39 d_Laying_weigh_9 rfl ?_
  refine r_ic_ge C (t := 100) (q := 15) d_Laying_weigh_12 (by decide) rfl (fun c12 => ?_) (fun c12 => ?_)
  · replace hf := ite_t c12 hf
    refine r_iload C (q := 102) 4 d_Laying_weigh_100 rfl rfl ?_
    obtain ⟨g102, hf⟩ := gd_s hf
    exact r_zreturn C g102 hf d_Laying_weigh_102
  · replace hf := ite_f c12 hf
    refine r_aload_n C (q := 16) 1 d_Laying_weigh_15 rfl rfl rfl ?_
    refine r_iload_n C (q := 17) 2 d_Laying_weigh_16 rfl rfl rfl ?_
    refine r_aload_n C (q := 18) 0 d_Laying_weigh_17 rfl rfl rfl ?_
    refine gxx_Laying_right C (q := 21) fl_Laying_15 d_Laying_weigh_18 rfl ?_
    refine r_iload C (q := 23) 5 d_Laying_weigh_21 rfl rfl ?_
    obtain ⟨g23, hf⟩ := gd_s hf
    refine r_iald C (q := 24) 28 (Nat.le_of_ble_eq_true rfl) (fun _ => rfl) 0 rfl g23 (by decide) d_Laying_weigh_23 rfl ?_
    obtain ⟨r24, s24, hg24, hf⟩ := bd_s hf
    refine r_cVI C (q := 27) (As := [vI v2, vI (s 28 v6)]) (k0 := 2) (c_x_Pairs_scoreOf C.i hg24) mt_Pairs_scoreOf ml_Laying_76 (Nat.le_of_ble_eq_true rfl) rfl rfl rfl rfl rfl rfl ⟨Nat.le_of_ble_eq_true rfl, Nat.le_of_ble_eq_true rfl⟩ rfl (Nat.le_of_ble_eq_true rfl) d_Laying_weigh_24 rfl ?_
    refine r_aload_n C (q := 28) 1 d_Laying_weigh_27 rfl rfl rfl ?_
    refine gnx_Pairs_weights C (q := 31) fn_Laying_79 d_Laying_weigh_28 rfl ?_
    refine gnx_Weights_line C (q := 34) fn_Laying_83 d_Laying_weigh_31 rfl ?_
    refine r_isub C (q := 35) d_Laying_weigh_34 rfl ?_
    refine r_iconst C (q := 36) d_Laying_weigh_35 rfl ?_
    refine r_iadd C (q := 37) d_Laying_weigh_36 rfl ?_
    refine r_i2l C (q := 38) d_Laying_weigh_37 rfl ?_
    refine r_lstore C (q := 40) (lv' := [(7, vJ (s32 ((r24 - (s24 6 4)) + 1))), (0, .ref ((xW G).h 7)), (1, .ref ((xW G).h 2)), (2, vI v2), (3, vJ v3), (5, vI v5), (6, vI v6)]) d_Laying_weigh_38 (by decide) rfl rfl ?_
    refine r_lload C (q := 42) 0 d_Laying_weigh_40 rfl rfl ?_
    refine r_lconst C (q := 43) (x := 1) d_Laying_weigh_42 rfl rfl ?_
    refine r_lc_lt C (t := 51) (q := 44) (q2 := 47) d_Laying_weigh_43 rfl d_Laying_weigh_44 (by decide) rfl (fun c43 => ?_) (fun c43 => ?_)
    · replace hf := ite_t c43 hf
      refine r_iconst C (q := 52) d_Laying_weigh_51 rfl ?_
      exact r_sub [1, 2, 3, 4, 5, 6, 0] rfl (s_x_Laying_weigh_52 C hk6 hf)
    · replace hf := ite_f c43 hf
      refine r_iconst C (q := 48) d_Laying_weigh_47 rfl ?_
      refine r_goto C (q := 52) d_Laying_weigh_48 (by decide) ?_
      exact r_sub [1, 2, 3, 4, 5, 6, 0] rfl (s_x_Laying_weigh_52 C hk6 hf)
theorem c_x_Laying_weigh {l : Launch} {G : GG} (hi : wo_i (xW G)) {N : Nat} {v2 v3 : Int} {s : St} {o : Int × St} (hf : x_Laying_weigh N v2 v3 s = some o) : CtI l (xW G) y_Laying_weigh (wo y_Laying_weigh prog_6_method_4_code 10 (some .boolean)) rm_x_Laying_weigh [.ref ((xW G).h 7), .ref ((xW G).h 2), vI v2, vJ v3] s o := by
  refine ct_I (by decide +kernel) hi (Nat.le_of_ble_eq_true rfl) fun X C => ?_
  unfold x_Laying_weigh at hf
  show Rj X (xW G) 10 (qI X (xW G) o) 0 [(0, .ref ((xW G).h 7)), (1, .ref ((xW G).h 2)), (2, vI v2), (3, vJ v3)] [] s
  refine r_iconst C (q := 1) d_Laying_weigh_0 rfl ?_
  refine r_istore C (q := 3) (lv' := [(5, vI 0), (0, .ref ((xW G).h 7)), (1, .ref ((xW G).h 2)), (2, vI v2), (3, vJ v3)]) d_Laying_weigh_1 (by decide) rfl rfl ?_
  refine r_iconst C (q := 4) d_Laying_weigh_3 rfl ?_
  refine r_istore C (q := 6) (lv' := [(6, vI 0), (5, vI 0), (0, .ref ((xW G).h 7)), (1, .ref ((xW G).h 2)), (2, vI v2), (3, vJ v3)]) d_Laying_weigh_4 (by decide) rfl rfl ?_
  have hL : ∀ (u5 u6 : Int) (z : St), itr (x_Laying_weigh_6 N v2 v3) (fun _ _ _ => none) N u5 u6 z = some o → Rj X (xW G) 10 (qI X (xW G) o) 6 [(0, .ref ((xW G).h 7)), (1, .ref ((xW G).h 2)), (2, vI v2), (3, vJ v3), (5, vI u5), (6, vI u6)] [] z := itr_ind (x_Laying_weigh_6 N v2 v3) (fun _ _ _ => none) (fun k => ∀ (u5 u6 : Int) (z : St), k u5 u6 z = some o → Rj X (xW G) 10 (qI X (xW G) o) 6 [(0, .ref ((xW G).h 7)), (1, .ref ((xW G).h 2)), (2, vI v2), (3, vJ v3), (5, vI u5), (6, vI u6)] [] z) (fun _ _ _  h => by cases h) (fun k hk u5 u6 z h => s_x_Laying_weigh_6 C hk h) N
  exact r_sub [2, 3, 4, 5, 1, 0] rfl (hL _ _ _  hf)
def x_Laying_improve_74 (N : Nat) (k9 : Int → St → MM) (k15 : Int → St → MM) (v1 v2 : Int) (s : St) : MM := k15 (v2 + 1) s
def x_Laying_improve_15 (N : Nat) (k9 : Int → St → MM) (v1 : Int) (k15 : Int → St → MM) (v2 : Int) (s : St) : MM := if le32 (s 7 5) v2 then (k9 (v1 + (-1)) s) else (if eq32 (an32 v1 (sl32 1 v2)) 0 then (x_Laying_improve_74 N k9 k15 v1 v2  s) else (gd (inb v2 10) (if eq64 (s 29 v2) 0 then (x_Laying_improve_74 N k9 k15 v1 v2  s) else (gd (inb v1 1024) (gd (inb (xo32 v1 (sl32 1 v2)) 1024) (gd (inb v2 10) (gd (inb v1 1024) (x_Laying_improve_74 N k9 k15 v1 v2  (su s 30 v1 (mx64 (s 30 v1) ((s 30 (xo32 v1 (sl32 1 v2))) + (s 29 v2))))))))))))
def x_Laying_improve_9 (N : Nat) (k9 : Int → St → MM) (v1 : Int) (s : St) : MM := if le32 v1 0 then (some (0, s)) else (itr (x_Laying_improve_15 N k9 v1) (fun _ _ => none) N 0 s)
def x_Laying_improve (N : Nat) (s : St) : MM := itr (x_Laying_improve_9 N ) (fun _ _ => none) N ((sl32 1 (s 7 5)) - 1) s
abbrev rm_x_Laying_improve : Room := { frames := 1, cells := 0, slots := 0, locals := 23 }
theorem s_x_Laying_improve_74 {X : CxT} {l : Launch} {G : GG} (C : Cx X l (xW G) 4 prog_6_method_5_code "OneSelf$Laying" (wo y_Laying_improve prog_6_method_5_code 4 none) none rm_x_Laying_improve) {o : Int × St} {N : Nat} {v1 v2 : Int} {k9 : Int → St → MM} (hk9 : ∀ (u1 : Int) (s : St), k9 u1 s = some o → Rj X (xW G) 4 (qV X (xW G) o) 9 [(0, .ref ((xW G).h 7)), (1, vI u1)] [] s) {k15 : Int → St → MM} (hk15 : ∀ (u2 : Int) (s : St), k15 u2 s = some o → Rj X (xW G) 4 (qV X (xW G) o) 15 [(0, .ref ((xW G).h 7)), (1, vI v1), (2, vI u2)] [] s) {s : St} (hf : x_Laying_improve_74 N k9 k15 v1 v2 s = some o) : Rj X (xW G) 4 (qV X (xW G) o) 74 [(0, .ref ((xW G).h 7)), (1, vI v1), (2, vI v2)] [] s := by
  unfold x_Laying_improve_74 at hf
  refine r_iinc C (q := 77) (lv' := [(2, vI (v2 + 1)), (0, .ref ((xW G).h 7)), (1, vI v1)]) 2 d_Laying_improve_74 rfl (by decide) rfl rfl ?_
  refine r_goto C (q := 15) d_Laying_improve_77 (by decide) ?_
  exact r_sub [1, 2, 0] rfl (hk15 _ _  hf)
theorem s_x_Laying_improve_15 {X : CxT} {l : Launch} {G : GG} (C : Cx X l (xW G) 4 prog_6_method_5_code "OneSelf$Laying" (wo y_Laying_improve prog_6_method_5_code 4 none) none rm_x_Laying_improve) {o : Int × St} {N : Nat} {v1 v2 : Int} {k9 : Int → St → MM} (hk9 : ∀ (u1 : Int) (s : St), k9 u1 s = some o → Rj X (xW G) 4 (qV X (xW G) o) 9 [(0, .ref ((xW G).h 7)), (1, vI u1)] [] s) {k15 : Int → St → MM} (hk15 : ∀ (u2 : Int) (s : St), k15 u2 s = some o → Rj X (xW G) 4 (qV X (xW G) o) 15 [(0, .ref ((xW G).h 7)), (1, vI v1), (2, vI u2)] [] s) {s : St} (hf : x_Laying_improve_15 N k9 v1 k15 v2 s = some o) : Rj X (xW G) 4 (qV X (xW G) o) 15 [(0, .ref ((xW G).h 7)), (1, vI v1), (2, vI v2)] [] s := by
  unfold x_Laying_improve_15 at hf
  refine r_iload_n C (q := 16) 2 d_Laying_improve_15 rfl rfl rfl ?_
  refine r_aload_n C (q := 17) 0 d_Laying_improve_16 rfl rfl rfl ?_
  refine gxx_Laying_rights C (q := 20) fl_Laying_39 d_Laying_improve_17 rfl ?_
  refine r_ic_ge C (t := 80) (q := 23) d_Laying_improve_20 (by decide) rfl (fun c20 => ?_) (fun c20 => ?_)
  · replace hf := ite_t c20 hf
    refine r_iinc C (q := 83) (lv' := [(1, vI (v1 + (-1))), (0, .ref ((xW G).h 7)), (2, vI v2)]) 1 d_Laying_improve_80 rfl (by decide) rfl rfl ?_
    refine r_goto C (q := 9) d_Laying_improve_83 (by decide) ?_
    exact r_sub [1, 0] rfl (hk9 _ _  hf)
  · replace hf := ite_f c20 hf
    refine r_iconst C (q := 24) d_Laying_improve_23 rfl ?_
    refine r_iload_n C (q := 25) 2 d_Laying_improve_24 rfl rfl rfl ?_
    refine r_ishl C (q := 26) d_Laying_improve_25 rfl ?_
    refine r_istore_n C (q := 27) (lv' := [(3, vI (sl32 1 v2)), (0, .ref ((xW G).h 7)), (1, vI v1), (2, vI v2)]) d_Laying_improve_26 rfl (by decide) rfl rfl ?_
    refine r_iload_n C (q := 28) 2 d_Laying_improve_27 rfl rfl rfl ?_
    refine r_iload_n C (q := 29) 0 d_Laying_improve_28 rfl rfl rfl ?_
    refine r_iand C (q := 30) d_Laying_improve_29 rfl ?_
    refine r_if_eq C (t := 74) (q := 33) d_Laying_improve_30 (by decide) rfl (fun c30 => ?_) (fun c30 => ?_)
    · replace hf := ite_t c30 hf
      exact r_sub [1, 2, 3] rfl (s_x_Laying_improve_74 C hk9 hk15 hf)
    · replace hf := ite_f c30 hf
      refine r_aload_n C (q := 34) 1 d_Laying_improve_33 rfl rfl rfl ?_
      refine gxx_Laying_gains C (q := 37) fl_Laying_18 d_Laying_improve_34 rfl ?_
      refine r_iload_n C (q := 38) 3 d_Laying_improve_37 rfl rfl rfl ?_
      obtain ⟨g38, hf⟩ := gd_s hf
      refine r_lald C (q := 39) 29 (Nat.le_of_ble_eq_true rfl) (fun _ => rfl) 1 rfl g38 (by decide) d_Laying_improve_38 rfl ?_
      refine r_lconst C (q := 40) (x := 0) d_Laying_improve_39 rfl rfl ?_
      refine r_lc_eq C (t := 74) (q := 41) (q2 := 44) d_Laying_improve_40 rfl d_Laying_improve_41 (by decide) rfl (fun c40 => ?_) (fun c40 => ?_)
      · replace hf := ite_t c40 hf
        exact r_sub [1, 2, 3] rfl (s_x_Laying_improve_74 C hk9 hk15 hf)
      · replace hf := ite_f c40 hf
        refine r_aload_n C (q := 45) 1 d_Laying_improve_44 rfl rfl rfl ?_
        refine gxx_Laying_best C (q := 48) fl_Laying_22 d_Laying_improve_45 rfl ?_
        refine r_iload_n C (q := 49) 2 d_Laying_improve_48 rfl rfl rfl ?_
        refine r_aload_n C (q := 50) 1 d_Laying_improve_49 rfl rfl rfl ?_
        refine gxx_Laying_best C (q := 53) fl_Laying_22 d_Laying_improve_50 rfl ?_
        refine r_iload_n C (q := 54) 2 d_Laying_improve_53 rfl rfl rfl ?_
        obtain ⟨g54, hf⟩ := gd_s hf
        refine r_lald C (q := 55) 30 (Nat.le_of_ble_eq_true rfl) (fun _ => rfl) 1 rfl g54 (by decide) d_Laying_improve_54 rfl ?_
        refine r_aload_n C (q := 56) 1 d_Laying_improve_55 rfl rfl rfl ?_
        refine gxx_Laying_best C (q := 59) fl_Laying_22 d_Laying_improve_56 rfl ?_
        refine r_iload_n C (q := 60) 2 d_Laying_improve_59 rfl rfl rfl ?_
        refine r_iload_n C (q := 61) 0 d_Laying_improve_60 rfl rfl rfl ?_
        refine r_ixor C (q := 62) d_Laying_improve_61 rfl ?_
        obtain ⟨g62, hf⟩ := gd_s hf
        refine r_lald C (q := 63) 30 (Nat.le_of_ble_eq_true rfl) (fun _ => rfl) 1 rfl g62 (by decide) d_Laying_improve_62 rfl ?_
        refine r_aload_n C (q := 64) 1 d_Laying_improve_63 rfl rfl rfl ?_
        refine gxx_Laying_gains C (q := 67) fl_Laying_18 d_Laying_improve_64 rfl ?_
        refine r_iload_n C (q := 68) 3 d_Laying_improve_67 rfl rfl rfl ?_
        obtain ⟨g68, hf⟩ := gd_s hf
        refine r_lald C (q := 69) 29 (Nat.le_of_ble_eq_true rfl) (fun _ => rfl) 1 rfl g68 (by decide) d_Laying_improve_68 rfl ?_
        refine r_ladd C (q := 70) d_Laying_improve_69 rfl ?_
        refine r_mmax_long C (q := 73) ml_Laying_90 mM_max_long (Nat.le_of_ble_eq_true rfl) (Nat.le_of_ble_eq_true rfl) (Nat.le_of_ble_eq_true rfl) d_Laying_improve_70 rfl ?_
        obtain ⟨g73, hf⟩ := gd_s hf
        refine r_last C (q := 74) 30 (Nat.le_of_ble_eq_true rfl) (fun _ => rfl) 1 rfl g73 (by decide) d_Laying_improve_73 rfl ?_
        exact r_sub [1, 2, 3] rfl (s_x_Laying_improve_74 C hk9 hk15 hf)
theorem s_x_Laying_improve_9 {X : CxT} {l : Launch} {G : GG} (C : Cx X l (xW G) 4 prog_6_method_5_code "OneSelf$Laying" (wo y_Laying_improve prog_6_method_5_code 4 none) none rm_x_Laying_improve) {o : Int × St} {N : Nat} {v1 : Int} {k9 : Int → St → MM} (hk9 : ∀ (u1 : Int) (s : St), k9 u1 s = some o → Rj X (xW G) 4 (qV X (xW G) o) 9 [(0, .ref ((xW G).h 7)), (1, vI u1)] [] s) {s : St} (hf : x_Laying_improve_9 N  k9 v1 s = some o) : Rj X (xW G) 4 (qV X (xW G) o) 9 [(0, .ref ((xW G).h 7)), (1, vI v1)] [] s := by
  unfold x_Laying_improve_9 at hf
  refine r_iload_n C (q := 10) 1 d_Laying_improve_9 rfl rfl rfl ?_
  refine r_if_le C (t := 86) (q := 13) d_Laying_improve_10 (by decide) rfl (fun c10 => ?_) (fun c10 => ?_)
  · replace hf := ite_t c10 hf
    exact r_return C hf d_Laying_improve_86
  · replace hf := ite_f c10 hf
    refine r_iconst C (q := 14) d_Laying_improve_13 rfl ?_
    refine r_istore_n C (q := 15) (lv' := [(2, vI 0), (0, .ref ((xW G).h 7)), (1, vI v1)]) d_Laying_improve_14 rfl (by decide) rfl rfl ?_
    have hL : ∀ (u2 : Int) (z : St), itr (x_Laying_improve_15 N k9 v1) (fun _ _ => none) N u2 z = some o → Rj X (xW G) 4 (qV X (xW G) o) 15 [(0, .ref ((xW G).h 7)), (1, vI v1), (2, vI u2)] [] z := itr_ind (x_Laying_improve_15 N k9 v1) (fun _ _ => none) (fun k => ∀ (u2 : Int) (z : St), k u2 z = some o → Rj X (xW G) 4 (qV X (xW G) o) 15 [(0, .ref ((xW G).h 7)), (1, vI v1), (2, vI u2)] [] z) (fun _ _  h => by cases h) (fun k hk u2 z h => s_x_Laying_improve_15 C hk9 hk h) N
    exact r_sub [1, 2, 0] rfl (hL _ _  hf)
theorem c_x_Laying_improve {l : Launch} {G : GG} (hi : wo_i (xW G)) {N : Nat} {s : St} {o : Int × St} (hf : x_Laying_improve N s = some o) : CtV l (xW G) y_Laying_improve (wo y_Laying_improve prog_6_method_5_code 4 none) rm_x_Laying_improve [.ref ((xW G).h 7)] s o := by
  refine ct_V (by decide +kernel) hi (Nat.le_of_ble_eq_true rfl) fun X C => ?_
  unfold x_Laying_improve at hf
  show Rj X (xW G) 4 (qV X (xW G) o) 0 [(0, .ref ((xW G).h 7))] [] s
  refine r_iconst C (q := 1) d_Laying_improve_0 rfl ?_
  refine r_aload_n C (q := 2) 0 d_Laying_improve_1 rfl rfl rfl ?_
  refine gxx_Laying_rights C (q := 5) fl_Laying_39 d_Laying_improve_2 rfl ?_
  refine r_ishl C (q := 6) d_Laying_improve_5 rfl ?_
  refine r_iconst C (q := 7) d_Laying_improve_6 rfl ?_
  refine r_isub C (q := 8) d_Laying_improve_7 rfl ?_
  refine r_istore_n C (q := 9) (lv' := [(1, vI ((sl32 1 (s 7 5)) - 1)), (0, .ref ((xW G).h 7))]) d_Laying_improve_8 rfl (by decide) rfl rfl ?_
  have hL : ∀ (u1 : Int) (z : St), itr (x_Laying_improve_9 N ) (fun _ _ => none) N u1 z = some o → Rj X (xW G) 4 (qV X (xW G) o) 9 [(0, .ref ((xW G).h 7)), (1, vI u1)] [] z := itr_ind (x_Laying_improve_9 N ) (fun _ _ => none) (fun k => ∀ (u1 : Int) (z : St), k u1 z = some o → Rj X (xW G) 4 (qV X (xW G) o) 9 [(0, .ref ((xW G).h 7)), (1, vI u1)] [] z) (fun _ _  h => by cases h) (fun k hk u1 z h => s_x_Laying_improve_9 C hk h) N
  exact r_sub [1, 0] rfl (hL _ _  hf)
def x_Laying_lay_98 (N : Nat) (k68 : Int → Int → St → MM) (v4 v6 : Int) (s : St) : MM := k68 (dv64 v4 11) (v6 + 1) s
def x_Laying_lay_68 (N : Nat) (k68 : Int → Int → St → MM) (v4 v6 : Int) (s : St) : MM := if le32 (s 7 4) v6 then (gd (inb ((sl32 1 (s 7 5)) - 1) 1024) (some (1, su s 7 6 (s 30 ((sl32 1 (s 7 5)) - 1))))) else (gd (inb v6 10) (bd (x_Laying_weigh N (s 27 v6) v4 s) (fun r88 s88 => if eq32 r88 0 then (x_Laying_lay_98 N k68 v4 v6  s88) else (bd (x_Laying_improve N s88) (fun r95 s95 => x_Laying_lay_98 N k68 v4 v6  s95)))))
def x_Laying_lay (N : Nat) (v2 v3 : Int) (s : St) : MM := bd (x_Laying_list_27 N v2 s) (fun r10 s10 => bd (x_Laying_list_28 N v3 (su s10 7 4 r10)) (fun r26 s26 => if lt32 10 ((su s26 7 5 r26) 7 4) then (some (0, su s26 7 5 r26)) else (if le32 ((su s26 7 5 r26) 7 5) 10 then (bd (j_Arrays_fill_JJV N 30 1024 0 (su s26 7 5 r26)) (fun r57 s57 => itr (x_Laying_lay_68 N ) (fun _ _ _ => none) N 2357947691 0 s57)) else (some (0, su s26 7 5 r26)))))
abbrev rm_x_Laying_lay : Room := { frames := 4, cells := 0, slots := 0, locals := 103 }
theorem s_x_Laying_lay_98 {X : CxT} {l : Launch} {G : GG} (C : Cx X l (xW G) 7 prog_6_method_2_code "OneSelf$Laying" (wo y_Laying_lay prog_6_method_2_code 7 (some .boolean)) (some .boolean) rm_x_Laying_lay) {o : Int × St} {N : Nat} {v4 v6 : Int} {k68 : Int → Int → St → MM} (hk68 : ∀ (u4 u6 : Int) (s : St), k68 u4 u6 s = some o → Rj X (xW G) 7 (qI X (xW G) o) 68 [(0, .ref ((xW G).h 7)), (1, .ref ((xW G).h 2)), (4, vJ u4), (6, vI u6)] [] s) {s : St} (hf : x_Laying_lay_98 N k68 v4 v6 s = some o) : Rj X (xW G) 7 (qI X (xW G) o) 98 [(0, .ref ((xW G).h 7)), (1, .ref ((xW G).h 2)), (4, vJ v4), (6, vI v6)] [] s := by
  unfold x_Laying_lay_98 at hf
  refine r_lload C (q := 100) 2 d_Laying_lay_98 rfl rfl ?_
  refine r_ldc2 C (q := 103) (x := 11) kc_Laying_57 rfl d_Laying_lay_100 rfl ?_
  refine r_ldiv C (q := 104) (by decide) d_Laying_lay_103 rfl ?_
  refine r_lstore C (q := 106) (lv' := [(4, vJ (dv64 v4 11)), (0, .ref ((xW G).h 7)), (1, .ref ((xW G).h 2)), (6, vI v6)]) d_Laying_lay_104 (by decide) rfl rfl ?_
  refine r_iinc C (q := 109) (lv' := [(6, vI (v6 + 1)), (4, vJ (dv64 v4 11)), (0, .ref ((xW G).h 7)), (1, .ref ((xW G).h 2))]) 3 d_Laying_lay_106 rfl (by decide) rfl rfl ?_
  refine r_goto C (q := 68) d_Laying_lay_109 (by decide) ?_
  exact r_sub [2, 3, 1, 0] rfl (hk68 _ _ _  hf)
theorem s_x_Laying_lay_68 {X : CxT} {l : Launch} {G : GG} (C : Cx X l (xW G) 7 prog_6_method_2_code "OneSelf$Laying" (wo y_Laying_lay prog_6_method_2_code 7 (some .boolean)) (some .boolean) rm_x_Laying_lay) {o : Int × St} {N : Nat} {v4 v6 : Int} {k68 : Int → Int → St → MM} (hk68 : ∀ (u4 u6 : Int) (s : St), k68 u4 u6 s = some o → Rj X (xW G) 7 (qI X (xW G) o) 68 [(0, .ref ((xW G).h 7)), (1, .ref ((xW G).h 2)), (4, vJ u4), (6, vI u6)] [] s) {s : St} (hf : x_Laying_lay_68 N  k68 v4 v6 s = some o) : Rj X (xW G) 7 (qI X (xW G) o) 68 [(0, .ref ((xW G).h 7)), (1, .ref ((xW G).h 2)), (4, vJ v4), (6, vI v6)] [] s := by
  unfold x_Laying_lay_68 at hf
  refine r_iload C (q := 70) 3 d_Laying_lay_68 rfl rfl ?_
  refine r_aload_n C (q := 71) 0 d_Laying_lay_70 rfl rfl rfl ?_
  refine gxx_Laying_lefts C (q := 74) fl_Laying_35 d_Laying_lay_71 rfl ?_
  refine r_ic_ge C (t := 112) (q := 77) d_Laying_lay_74 (by decide) rfl (fun c74 => ?_) (fun c74 => ?_)
  · replace hf := ite_t c74 hf
    refine r_aload_n C (q := 113) 0 d_Laying_lay_112 rfl rfl rfl ?_
    refine r_aload_n C (q := 114) 0 d_Laying_lay_113 rfl rfl rfl ?_
    refine gxx_Laying_best C (q := 117) fl_Laying_22 d_Laying_lay_114 rfl ?_
    refine r_iconst C (q := 118) d_Laying_lay_117 rfl ?_
    refine r_aload_n C (q := 119) 0 d_Laying_lay_118 rfl rfl rfl ?_
    refine gxx_Laying_rights C (q := 122) fl_Laying_39 d_Laying_lay_119 rfl ?_
    refine r_ishl C (q := 123) d_Laying_lay_122 rfl ?_
    refine r_iconst C (q := 124) d_Laying_lay_123 rfl ?_
    refine r_isub C (q := 125) d_Laying_lay_124 rfl ?_
    obtain ⟨g125, hf⟩ := gd_s hf
    refine r_lald C (q := 126) 30 (Nat.le_of_ble_eq_true rfl) (fun _ => rfl) 1 rfl g125 (by decide) d_Laying_lay_125 rfl ?_
    refine pxx_Laying_whole C (q := 129) fl_Laying_59 d_Laying_lay_126 rfl ?_
    refine r_iconst C (q := 130) d_Laying_lay_129 rfl ?_
    exact r_zreturn C (by decide) hf d_Laying_lay_130
  · replace hf := ite_f c74 hf
    refine r_aload_n C (q := 78) 0 d_Laying_lay_77 rfl rfl rfl ?_
    refine r_aload_n C (q := 79) 1 d_Laying_lay_78 rfl rfl rfl ?_
    refine r_aload_n C (q := 80) 0 d_Laying_lay_79 rfl rfl rfl ?_
    refine gxx_Laying_left C (q := 83) fl_Laying_11 d_Laying_lay_80 rfl ?_
    refine r_iload C (q := 85) 3 d_Laying_lay_83 rfl rfl ?_
    obtain ⟨g85, hf⟩ := gd_s hf
    refine r_iald C (q := 86) 27 (Nat.le_of_ble_eq_true rfl) (fun _ => rfl) 0 rfl g85 (by decide) d_Laying_lay_85 rfl ?_
    refine r_lload C (q := 88) 2 d_Laying_lay_86 rfl rfl ?_
    obtain ⟨r88, s88, hg88, hf⟩ := bd_s hf
    refine r_cVI C (q := 91) (As := [.ref ((xW G).h 2), vI (s 27 v6), vJ v4]) (k0 := 7) (c_x_Laying_weigh C.i hg88) mt_Laying_weigh ml_Laying_50 (Nat.le_of_ble_eq_true rfl) rfl rfl rfl rfl rfl rfl ⟨Nat.le_of_ble_eq_true rfl, Nat.le_of_ble_eq_true rfl⟩ rfl (Nat.le_of_ble_eq_true rfl) d_Laying_lay_88 rfl ?_
    refine r_if_eq C (t := 98) (q := 94) d_Laying_lay_91 (by decide) rfl (fun c91 => ?_) (fun c91 => ?_)
    · replace hf := ite_t c91 hf
      exact r_sub [0, 1, 2, 3] rfl (s_x_Laying_lay_98 C hk68 hf)
    · replace hf := ite_f c91 hf
      refine r_aload_n C (q := 95) 0 d_Laying_lay_94 rfl rfl rfl ?_
      obtain ⟨r95, s95, hg95, hf⟩ := bd_s hf
      refine r_cVV C (q := 98) (As := []) (k0 := 7) (c_x_Laying_improve C.i hg95) mt_Laying_improve ml_Laying_54 (Nat.le_of_ble_eq_true rfl) rfl rfl rfl rfl rfl rfl ⟨Nat.le_of_ble_eq_true rfl, Nat.le_of_ble_eq_true rfl⟩ rfl (Nat.le_of_ble_eq_true rfl) d_Laying_lay_95 rfl ?_
      exact r_sub [0, 1, 2, 3] rfl (s_x_Laying_lay_98 C hk68 hf)
theorem c_x_Laying_lay {l : Launch} {G : GG} (hi : wo_i (xW G)) {N : Nat} {v2 v3 : Int} {s : St} {o : Int × St} (hf : x_Laying_lay N v2 v3 s = some o) : CtI l (xW G) y_Laying_lay (wo y_Laying_lay prog_6_method_2_code 7 (some .boolean)) rm_x_Laying_lay [.ref ((xW G).h 7), .ref ((xW G).h 2), vI v2, vI v3] s o := by
  refine ct_I (by decide +kernel) hi (Nat.le_of_ble_eq_true rfl) fun X C => ?_
  unfold x_Laying_lay at hf
  show Rj X (xW G) 7 (qI X (xW G) o) 0 [(0, .ref ((xW G).h 7)), (1, .ref ((xW G).h 2)), (2, vI v2), (3, vI v3)] [] s
  refine r_aload_n C (q := 1) 0 d_Laying_lay_0 rfl rfl rfl ?_
  refine r_aload_n C (q := 2) 1 d_Laying_lay_1 rfl rfl rfl ?_
  refine gnx_Pairs_rows C (q := 5) fn_Laying_25 d_Laying_lay_2 rfl ?_
  refine r_iload_n C (q := 6) 2 d_Laying_lay_5 rfl rfl rfl ?_
  refine r_aload_n C (q := 7) 0 d_Laying_lay_6 rfl rfl rfl ?_
  refine gxx_Laying_left C (q := 10) fl_Laying_11 d_Laying_lay_7 rfl ?_
  obtain ⟨r10, s10, hg10, hf⟩ := bd_s hf
  refine r_cSI C (q := 13) (As := [.ref ((xW G).h 3), vI v2, .ref ((xW G).h 27)]) (c_x_Laying_list_27 C.i hg10) mt_Laying_list ml_Laying_31 rfl rfl rfl ⟨Nat.le_of_ble_eq_true rfl, Nat.le_of_ble_eq_true rfl⟩ rfl (Nat.le_of_ble_eq_true rfl) d_Laying_lay_10 rfl ?_
  refine pxx_Laying_lefts C (q := 16) fl_Laying_35 d_Laying_lay_13 rfl ?_
  refine r_aload_n C (q := 17) 0 d_Laying_lay_16 rfl rfl rfl ?_
  refine r_aload_n C (q := 18) 1 d_Laying_lay_17 rfl rfl rfl ?_
  refine gnx_Pairs_rows C (q := 21) fn_Laying_25 d_Laying_lay_18 rfl ?_
  refine r_iload_n C (q := 22) 3 d_Laying_lay_21 rfl rfl rfl ?_
  refine r_aload_n C (q := 23) 0 d_Laying_lay_22 rfl rfl rfl ?_
  refine gxx_Laying_right C (q := 26) fl_Laying_15 d_Laying_lay_23 rfl ?_
  obtain ⟨r26, s26, hg26, hf⟩ := bd_s hf
  refine r_cSI C (q := 29) (As := [.ref ((xW G).h 3), vI v3, .ref ((xW G).h 28)]) (c_x_Laying_list_28 C.i hg26) mt_Laying_list ml_Laying_31 rfl rfl rfl ⟨Nat.le_of_ble_eq_true rfl, Nat.le_of_ble_eq_true rfl⟩ rfl (Nat.le_of_ble_eq_true rfl) d_Laying_lay_26 rfl ?_
  refine pxx_Laying_rights C (q := 32) fl_Laying_39 d_Laying_lay_29 rfl ?_
  refine r_aload_n C (q := 33) 0 d_Laying_lay_32 rfl rfl rfl ?_
  refine gxx_Laying_lefts C (q := 36) fl_Laying_35 d_Laying_lay_33 rfl ?_
  refine r_bipush C (q := 38) (x := 10) d_Laying_lay_36 rfl rfl ?_
  refine r_ic_gt C (t := 50) (q := 41) d_Laying_lay_38 (by decide) rfl (fun c38 => ?_) (fun c38 => ?_)
  · replace hf := ite_t c38 hf
    refine r_iconst C (q := 51) d_Laying_lay_50 rfl ?_
    exact r_zreturn C (by decide) hf d_Laying_lay_51
  · replace hf := ite_f c38 hf
    refine r_aload_n C (q := 42) 0 d_Laying_lay_41 rfl rfl rfl ?_
    refine gxx_Laying_rights C (q := 45) fl_Laying_39 d_Laying_lay_42 rfl ?_
    refine r_bipush C (q := 47) (x := 10) d_Laying_lay_45 rfl rfl ?_
    refine r_ic_le C (t := 52) (q := 50) d_Laying_lay_47 (by decide) rfl (fun c47 => ?_) (fun c47 => ?_)
    · replace hf := ite_t c47 hf
      refine r_aload_n C (q := 53) 0 d_Laying_lay_52 rfl rfl rfl ?_
      refine gxx_Laying_best C (q := 56) fl_Laying_22 d_Laying_lay_53 rfl ?_
      refine r_lconst C (q := 57) (x := 0) d_Laying_lay_56 rfl rfl ?_
      obtain ⟨r57, s57, hg57, hf⟩ := bd_s hf
      refine r_cSV C (q := 60) (As := [.ref ((xW G).h 30), vJ 0]) (c_j_Arrays_fill_JJV (Nat.le_of_ble_eq_true rfl) (fun _ => rfl) 1 rfl (by decide) C.i hg57) mt_Arrays_fill_JJV ml_Laying_42 rfl rfl rfl ⟨Nat.le_of_ble_eq_true rfl, Nat.le_of_ble_eq_true rfl⟩ rfl (Nat.le_of_ble_eq_true rfl) d_Laying_lay_57 rfl ?_
      refine r_ldc2 C (q := 63) (x := 2357947691) kc_Laying_48 rfl d_Laying_lay_60 rfl ?_
      refine r_lstore C (q := 65) (lv' := [(4, vJ 2357947691), (0, .ref ((xW G).h 7)), (1, .ref ((xW G).h 2)), (2, vI v2), (3, vI v3)]) d_Laying_lay_63 (by decide) rfl rfl ?_
      refine r_iconst C (q := 66) d_Laying_lay_65 rfl ?_
      refine r_istore C (q := 68) (lv' := [(6, vI 0), (4, vJ 2357947691), (0, .ref ((xW G).h 7)), (1, .ref ((xW G).h 2)), (2, vI v2), (3, vI v3)]) d_Laying_lay_66 (by decide) rfl rfl ?_
      have hL : ∀ (u4 u6 : Int) (z : St), itr (x_Laying_lay_68 N ) (fun _ _ _ => none) N u4 u6 z = some o → Rj X (xW G) 7 (qI X (xW G) o) 68 [(0, .ref ((xW G).h 7)), (1, .ref ((xW G).h 2)), (4, vJ u4), (6, vI u6)] [] z := itr_ind (x_Laying_lay_68 N ) (fun _ _ _ => none) (fun k => ∀ (u4 u6 : Int) (z : St), k u4 u6 z = some o → Rj X (xW G) 7 (qI X (xW G) o) 68 [(0, .ref ((xW G).h 7)), (1, .ref ((xW G).h 2)), (4, vJ u4), (6, vI u6)] [] z) (fun _ _ _  h => by cases h) (fun k hk u4 u6 z h => s_x_Laying_lay_68 C hk h) N
      exact r_sub [2, 3, 1, 0] rfl (hL _ _ _  hf)
    · replace hf := ite_f c47 hf
      refine r_iconst C (q := 51) d_Laying_lay_50 rfl ?_
      exact r_zreturn C (by decide) hf d_Laying_lay_51
def x_Laying_figureOf_13 (N : Nat) (v1 : Int) (k13 : Int → Int → St → MM) (v2 v4 : Int) (s : St) : MM := if le32 v4 v1 then (some (v2 - dv64 v2 11 * 11, s)) else (k13 (dv64 v2 11) (v4 + (-1)) s)
def x_Laying_figureOf (N : Nat) (v1 : Int) (s : St) : MM := itr (x_Laying_figureOf_13 N v1) (fun _ _ _ => none) N ((s 7 6) - dv64 (s 7 6) 25937424601 * 25937424601) 9 s
abbrev rm_x_Laying_figureOf : Room := { frames := 0, cells := 0, slots := 0, locals := 0 }
theorem s_x_Laying_figureOf_13 {X : CxT} {l : Launch} {G : GG} (C : Cx X l (xW G) 5 prog_6_method_9_code "OneSelf$Laying" (wo y_Laying_figureOf prog_6_method_9_code 5 (some .int)) (some .int) rm_x_Laying_figureOf) {o : Int × St} {N : Nat} {v1 v2 v4 : Int} {k13 : Int → Int → St → MM} (hk13 : ∀ (u2 u4 : Int) (s : St), k13 u2 u4 s = some o → Rj X (xW G) 5 (qI X (xW G) o) 13 [(1, vI v1), (2, vJ u2), (4, vI u4)] [] s) {s : St} (hf : x_Laying_figureOf_13 N v1 k13 v2 v4 s = some o) : Rj X (xW G) 5 (qI X (xW G) o) 13 [(1, vI v1), (2, vJ v2), (4, vI v4)] [] s := by
  unfold x_Laying_figureOf_13 at hf
  refine r_iload C (q := 15) 2 d_Laying_figureOf_13 rfl rfl ?_
  refine r_iload_n C (q := 16) 0 d_Laying_figureOf_15 rfl rfl rfl ?_
  refine r_ic_le C (t := 31) (q := 19) d_Laying_figureOf_16 (by decide) rfl (fun c16 => ?_) (fun c16 => ?_)
  · replace hf := ite_t c16 hf
    refine r_lload_n C (q := 32) 1 d_Laying_figureOf_31 rfl rfl rfl ?_
    refine r_ldc2 C (q := 35) (x := 11) kc_Laying_57 rfl d_Laying_figureOf_32 rfl ?_
    refine r_lrem C (q := 36) (by decide) d_Laying_figureOf_35 rfl ?_
    refine r_l2i C (q := 37) d_Laying_figureOf_36 rfl ?_
    exact r_ireturn C hf d_Laying_figureOf_37
  · replace hf := ite_f c16 hf
    refine r_lload_n C (q := 20) 1 d_Laying_figureOf_19 rfl rfl rfl ?_
    refine r_ldc2 C (q := 23) (x := 11) kc_Laying_57 rfl d_Laying_figureOf_20 rfl ?_
    refine r_ldiv C (q := 24) (by decide) d_Laying_figureOf_23 rfl ?_
    refine r_lstore_n C (q := 25) (lv' := [(2, vJ (dv64 v2 11)), (1, vI v1), (4, vI v4)]) d_Laying_figureOf_24 rfl (by decide) rfl rfl ?_
    refine r_iinc C (q := 28) (lv' := [(4, vI (v4 + (-1))), (2, vJ (dv64 v2 11)), (1, vI v1)]) 2 d_Laying_figureOf_25 rfl (by decide) rfl rfl ?_
    refine r_goto C (q := 13) d_Laying_figureOf_28 (by decide) ?_
    exact r_sub [2, 1, 0] rfl (hk13 _ _ _  hf)
theorem c_x_Laying_figureOf {l : Launch} {G : GG} (hi : wo_i (xW G)) {N : Nat} {v1 : Int} {s : St} {o : Int × St} (hf : x_Laying_figureOf N v1 s = some o) : CtI l (xW G) y_Laying_figureOf (wo y_Laying_figureOf prog_6_method_9_code 5 (some .int)) rm_x_Laying_figureOf [.ref ((xW G).h 7), vI v1] s o := by
  refine ct_I (by decide +kernel) hi (Nat.le_of_ble_eq_true rfl) fun X C => ?_
  unfold x_Laying_figureOf at hf
  show Rj X (xW G) 5 (qI X (xW G) o) 0 [(0, .ref ((xW G).h 7)), (1, vI v1)] [] s
  refine r_aload_n C (q := 1) 0 d_Laying_figureOf_0 rfl rfl rfl ?_
  refine gxx_Laying_whole C (q := 4) fl_Laying_59 d_Laying_figureOf_1 rfl ?_
  refine r_ldc2 C (q := 7) (x := 25937424601) kc_Laying_88 rfl d_Laying_figureOf_4 rfl ?_
  refine r_lrem C (q := 8) (by decide) d_Laying_figureOf_7 rfl ?_
  refine r_lstore_n C (q := 9) (lv' := [(2, vJ ((s 7 6) - dv64 (s 7 6) 25937424601 * 25937424601)), (0, .ref ((xW G).h 7)), (1, vI v1)]) d_Laying_figureOf_8 rfl (by decide) rfl rfl ?_
  refine r_bipush C (q := 11) (x := 9) d_Laying_figureOf_9 rfl rfl ?_
  refine r_istore C (q := 13) (lv' := [(4, vI 9), (2, vJ ((s 7 6) - dv64 (s 7 6) 25937424601 * 25937424601)), (0, .ref ((xW G).h 7)), (1, vI v1)]) d_Laying_figureOf_11 (by decide) rfl rfl ?_
  have hL : ∀ (u2 u4 : Int) (z : St), itr (x_Laying_figureOf_13 N v1) (fun _ _ _ => none) N u2 u4 z = some o → Rj X (xW G) 5 (qI X (xW G) o) 13 [(1, vI v1), (2, vJ u2), (4, vI u4)] [] z := itr_ind (x_Laying_figureOf_13 N v1) (fun _ _ _ => none) (fun k => ∀ (u2 u4 : Int) (z : St), k u2 u4 z = some o → Rj X (xW G) 5 (qI X (xW G) o) 13 [(1, vI v1), (2, vJ u2), (4, vI u4)] [] z) (fun _ _ _  h => by cases h) (fun k hk u2 u4 z h => s_x_Laying_figureOf_13 C hk h) N
  exact r_sub [3, 1, 0] rfl (hL _ _ _  hf)
def x_Laying_countMates_23 (N : Nat) (k4 : Int → Int → St → MM) (v1 v2 : Int) (s : St) : MM := k4 v1 (v2 + 1) s
def x_Laying_countMates_4 (N : Nat) (k4 : Int → Int → St → MM) (v1 v2 : Int) (s : St) : MM := if le32 (s 7 4) v2 then (some (v1, s)) else (bd (x_Laying_figureOf N v2 s) (fun r14 s14 => if eq32 r14 0 then (x_Laying_countMates_23 N k4 v1 v2  s14) else (x_Laying_countMates_23 N k4 (v1 + 1) v2  s14)))
def x_Laying_countMates (N : Nat) (s : St) : MM := itr (x_Laying_countMates_4 N ) (fun _ _ _ => none) N 0 0 s
abbrev rm_x_Laying_countMates : Room := { frames := 1, cells := 0, slots := 0, locals := 24 }
theorem s_x_Laying_countMates_23 {X : CxT} {l : Launch} {G : GG} (C : Cx X l (xW G) 3 prog_6_method_7_code "OneSelf$Laying" (wo y_Laying_countMates prog_6_method_7_code 3 (some .int)) (some .int) rm_x_Laying_countMates) {o : Int × St} {N : Nat} {v1 v2 : Int} {k4 : Int → Int → St → MM} (hk4 : ∀ (u1 u2 : Int) (s : St), k4 u1 u2 s = some o → Rj X (xW G) 3 (qI X (xW G) o) 4 [(0, .ref ((xW G).h 7)), (1, vI u1), (2, vI u2)] [] s) {s : St} (hf : x_Laying_countMates_23 N k4 v1 v2 s = some o) : Rj X (xW G) 3 (qI X (xW G) o) 23 [(0, .ref ((xW G).h 7)), (1, vI v1), (2, vI v2)] [] s := by
  unfold x_Laying_countMates_23 at hf
  refine r_iinc C (q := 26) (lv' := [(2, vI (v2 + 1)), (0, .ref ((xW G).h 7)), (1, vI v1)]) 2 d_Laying_countMates_23 rfl (by decide) rfl rfl ?_
  refine r_goto C (q := 4) d_Laying_countMates_26 (by decide) ?_
  exact r_sub [1, 2, 0] rfl (hk4 _ _ _  hf)
theorem s_x_Laying_countMates_4 {X : CxT} {l : Launch} {G : GG} (C : Cx X l (xW G) 3 prog_6_method_7_code "OneSelf$Laying" (wo y_Laying_countMates prog_6_method_7_code 3 (some .int)) (some .int) rm_x_Laying_countMates) {o : Int × St} {N : Nat} {v1 v2 : Int} {k4 : Int → Int → St → MM} (hk4 : ∀ (u1 u2 : Int) (s : St), k4 u1 u2 s = some o → Rj X (xW G) 3 (qI X (xW G) o) 4 [(0, .ref ((xW G).h 7)), (1, vI u1), (2, vI u2)] [] s) {s : St} (hf : x_Laying_countMates_4 N  k4 v1 v2 s = some o) : Rj X (xW G) 3 (qI X (xW G) o) 4 [(0, .ref ((xW G).h 7)), (1, vI v1), (2, vI v2)] [] s := by
  unfold x_Laying_countMates_4 at hf
  refine r_iload_n C (q := 5) 2 d_Laying_countMates_4 rfl rfl rfl ?_
  refine r_aload_n C (q := 6) 0 d_Laying_countMates_5 rfl rfl rfl ?_
  refine gxx_Laying_lefts C (q := 9) fl_Laying_35 d_Laying_countMates_6 rfl ?_
  refine r_ic_ge C (t := 29) (q := 12) d_Laying_countMates_9 (by decide) rfl (fun c9 => ?_) (fun c9 => ?_)
  · replace hf := ite_t c9 hf
    refine r_iload_n C (q := 30) 1 d_Laying_countMates_29 rfl rfl rfl ?_
    exact r_ireturn C hf d_Laying_countMates_30
  · replace hf := ite_f c9 hf
    refine r_aload_n C (q := 13) 0 d_Laying_countMates_12 rfl rfl rfl ?_
    refine r_iload_n C (q := 14) 2 d_Laying_countMates_13 rfl rfl rfl ?_
    obtain ⟨r14, s14, hg14, hf⟩ := bd_s hf
    refine r_cVI C (q := 17) (As := [vI v2]) (k0 := 7) (c_x_Laying_figureOf C.i hg14) mt_Laying_figureOf ml_Laying_96 (Nat.le_of_ble_eq_true rfl) rfl rfl rfl rfl rfl rfl ⟨Nat.le_of_ble_eq_true rfl, Nat.le_of_ble_eq_true rfl⟩ rfl (Nat.le_of_ble_eq_true rfl) d_Laying_countMates_14 rfl ?_
    refine r_if_eq C (t := 23) (q := 20) d_Laying_countMates_17 (by decide) rfl (fun c17 => ?_) (fun c17 => ?_)
    · replace hf := ite_t c17 hf
      exact r_sub [0, 1, 2] rfl (s_x_Laying_countMates_23 C hk4 hf)
    · replace hf := ite_f c17 hf
      refine r_iinc C (q := 23) (lv' := [(1, vI (v1 + 1)), (0, .ref ((xW G).h 7)), (2, vI v2)]) 1 d_Laying_countMates_20 rfl (by decide) rfl rfl ?_
      exact r_sub [1, 0, 2] rfl (s_x_Laying_countMates_23 C hk4 hf)
theorem c_x_Laying_countMates {l : Launch} {G : GG} (hi : wo_i (xW G)) {N : Nat} {s : St} {o : Int × St} (hf : x_Laying_countMates N s = some o) : CtI l (xW G) y_Laying_countMates (wo y_Laying_countMates prog_6_method_7_code 3 (some .int)) rm_x_Laying_countMates [.ref ((xW G).h 7)] s o := by
  refine ct_I (by decide +kernel) hi (Nat.le_of_ble_eq_true rfl) fun X C => ?_
  unfold x_Laying_countMates at hf
  show Rj X (xW G) 3 (qI X (xW G) o) 0 [(0, .ref ((xW G).h 7))] [] s
  refine r_iconst C (q := 1) d_Laying_countMates_0 rfl ?_
  refine r_istore_n C (q := 2) (lv' := [(1, vI 0), (0, .ref ((xW G).h 7))]) d_Laying_countMates_1 rfl (by decide) rfl rfl ?_
  refine r_iconst C (q := 3) d_Laying_countMates_2 rfl ?_
  refine r_istore_n C (q := 4) (lv' := [(2, vI 0), (1, vI 0), (0, .ref ((xW G).h 7))]) d_Laying_countMates_3 rfl (by decide) rfl rfl ?_
  have hL : ∀ (u1 u2 : Int) (z : St), itr (x_Laying_countMates_4 N ) (fun _ _ _ => none) N u1 u2 z = some o → Rj X (xW G) 3 (qI X (xW G) o) 4 [(0, .ref ((xW G).h 7)), (1, vI u1), (2, vI u2)] [] z := itr_ind (x_Laying_countMates_4 N ) (fun _ _ _ => none) (fun k => ∀ (u1 u2 : Int) (z : St), k u1 u2 z = some o → Rj X (xW G) 3 (qI X (xW G) o) 4 [(0, .ref ((xW G).h 7)), (1, vI u1), (2, vI u2)] [] z) (fun _ _ _  h => by cases h) (fun k hk u1 u2 z h => s_x_Laying_countMates_4 C hk h) N
  exact r_sub [2, 1, 0] rfl (hL _ _ _  hf)
def x_Laying_sumOfAll (N : Nat) (s : St) : MM := some (dv64 (s 7 6) 25937424601, s)
abbrev rm_x_Laying_sumOfAll : Room := { frames := 0, cells := 0, slots := 0, locals := 0 }
theorem c_x_Laying_sumOfAll {l : Launch} {G : GG} (hi : wo_i (xW G)) {N : Nat} {s : St} {o : Int × St} (hf : x_Laying_sumOfAll N s = some o) : CtI l (xW G) y_Laying_sumOfAll (wo y_Laying_sumOfAll prog_6_method_6_code 1 (some .int)) rm_x_Laying_sumOfAll [.ref ((xW G).h 7)] s o := by
  refine ct_I (by decide +kernel) hi (Nat.le_of_ble_eq_true rfl) fun X C => ?_
  unfold x_Laying_sumOfAll at hf
  show Rj X (xW G) 1 (qI X (xW G) o) 0 [(0, .ref ((xW G).h 7))] [] s
  refine r_aload_n C (q := 1) 0 d_Laying_sumOfAll_0 rfl rfl rfl ?_
  refine gxx_Laying_whole C (q := 4) fl_Laying_59 d_Laying_sumOfAll_1 rfl ?_
  refine r_ldc2 C (q := 7) (x := 25937424601) kc_Laying_88 rfl d_Laying_sumOfAll_4 rfl ?_
  refine r_ldiv C (q := 8) (by decide) d_Laying_sumOfAll_7 rfl ?_
  refine r_l2i C (q := 9) d_Laying_sumOfAll_8 rfl ?_
  exact r_ireturn C hf d_Laying_sumOfAll_9
def x_laid (N : Nat) (v1 v2 v3 : Int) (s : St) : MM := bd (x_isBelow N v1 3 s) (fun r2 s2 => if eq32 r2 0 then (some ((-2), s2)) else (bd (x_isBelow N v2 3 s2) (fun r10 s10 => if eq32 r10 0 then (some ((-2), s10)) else (if eq32 v1 v2 then (some ((-2), s10)) else (bd (x_isBelow N v3 2 s10) (fun r23 s23 => if eq32 r23 0 then (some ((-2), s23)) else (bd (x_Laying_lay N v1 v2 s23) (fun r42 s42 => if eq32 r42 0 then (some ((-3), s42)) else (if eq32 v3 0 then (bd (x_Laying_countMates N s42) (fun r59 s59 => some (r59, s59))) else (bd (x_Laying_sumOfAll N s42) (fun r69 s69 => some (r69, s69))))))))))))
abbrev rm_x_laid : Room := { frames := 5, cells := 0, slots := 0, locals := 129 }
theorem c_x_laid {l : Launch} {G : GG} (hi : wo_i (xW G)) {N : Nat} {v1 v2 v3 : Int} {s : St} {o : Int × St} (hf : x_laid N v1 v2 v3 s = some o) : CtI l (xW G) y_O_laid (wo y_O_laid prog_1_method_22_code 4 (some .int)) rm_x_laid [.ref ((xW G).h 0), vI v1, vI v2, vI v3] s o := by
  refine ct_I (by decide +kernel) hi (Nat.le_of_ble_eq_true rfl) fun X C => ?_
  unfold x_laid at hf
  show Rj X (xW G) 4 (qI X (xW G) o) 0 [(0, .ref ((xW G).h 0)), (1, vI v1), (2, vI v2), (3, vI v3)] [] s
  refine r_iload_n C (q := 1) 1 d_O_laid_0 rfl rfl rfl ?_
  refine r_iconst C (q := 2) d_O_laid_1 rfl ?_
  obtain ⟨r2, s2, hg2, hf⟩ := bd_s hf
  refine r_cSI C (q := 5) (As := [vI v1, vI 3]) (c_x_isBelow C.i hg2) mt_O_isBelow ml_O_88 rfl rfl rfl ⟨Nat.le_of_ble_eq_true rfl, Nat.le_of_ble_eq_true rfl⟩ rfl (Nat.le_of_ble_eq_true rfl) d_O_laid_2 rfl ?_
  refine r_if_eq C (t := 29) (q := 8) d_O_laid_5 (by decide) rfl (fun c5 => ?_) (fun c5 => ?_)
  · replace hf := ite_t c5 hf
    refine r_bipush C (q := 31) (x := (-2)) d_O_laid_29 rfl rfl ?_
    exact r_ireturn C hf d_O_laid_31
  · replace hf := ite_f c5 hf
    refine r_iload_n C (q := 9) 2 d_O_laid_8 rfl rfl rfl ?_
    refine r_iconst C (q := 10) d_O_laid_9 rfl ?_
    obtain ⟨r10, s10, hg10, hf⟩ := bd_s hf
    refine r_cSI C (q := 13) (As := [vI v2, vI 3]) (c_x_isBelow C.i hg10) mt_O_isBelow ml_O_88 rfl rfl rfl ⟨Nat.le_of_ble_eq_true rfl, Nat.le_of_ble_eq_true rfl⟩ rfl (Nat.le_of_ble_eq_true rfl) d_O_laid_10 rfl ?_
    refine r_if_eq C (t := 29) (q := 16) d_O_laid_13 (by decide) rfl (fun c13 => ?_) (fun c13 => ?_)
    · replace hf := ite_t c13 hf
      refine r_bipush C (q := 31) (x := (-2)) d_O_laid_29 rfl rfl ?_
      exact r_ireturn C hf d_O_laid_31
    · replace hf := ite_f c13 hf
      refine r_iload_n C (q := 17) 1 d_O_laid_16 rfl rfl rfl ?_
      refine r_iload_n C (q := 18) 2 d_O_laid_17 rfl rfl rfl ?_
      refine r_ic_eq C (t := 29) (q := 21) d_O_laid_18 (by decide) rfl (fun c18 => ?_) (fun c18 => ?_)
      · replace hf := ite_t c18 hf
        refine r_bipush C (q := 31) (x := (-2)) d_O_laid_29 rfl rfl ?_
        exact r_ireturn C hf d_O_laid_31
      · replace hf := ite_f c18 hf
        refine r_iload_n C (q := 22) 3 d_O_laid_21 rfl rfl rfl ?_
        refine r_iconst C (q := 23) d_O_laid_22 rfl ?_
        obtain ⟨r23, s23, hg23, hf⟩ := bd_s hf
        refine r_cSI C (q := 26) (As := [vI v3, vI 2]) (c_x_isBelow C.i hg23) mt_O_isBelow ml_O_88 rfl rfl rfl ⟨Nat.le_of_ble_eq_true rfl, Nat.le_of_ble_eq_true rfl⟩ rfl (Nat.le_of_ble_eq_true rfl) d_O_laid_23 rfl ?_
        refine r_if_ne C (t := 32) (q := 29) d_O_laid_26 (by decide) rfl (fun c26 => ?_) (fun c26 => ?_)
        · replace hf := ite_t c26 hf
          refine r_bipush C (q := 31) (x := (-2)) d_O_laid_29 rfl rfl ?_
          exact r_ireturn C hf d_O_laid_31
        · replace hf := ite_f c26 hf
          refine r_aload_n C (q := 33) 0 d_O_laid_32 rfl rfl rfl ?_
          refine gxx_O_laying C (q := 36) fl_O_46 d_O_laid_33 rfl ?_
          refine r_aload_n C (q := 37) 0 d_O_laid_36 rfl rfl rfl ?_
          refine gxx_O_pairs C (q := 40) fl_O_19 d_O_laid_37 rfl ?_
          refine r_iload_n C (q := 41) 1 d_O_laid_40 rfl rfl rfl ?_
          refine r_iload_n C (q := 42) 2 d_O_laid_41 rfl rfl rfl ?_
          obtain ⟨r42, s42, hg42, hf⟩ := bd_s hf
          refine r_cVI C (q := 45) (As := [.ref ((xW G).h 2), vI v1, vI v2]) (k0 := 7) (c_x_Laying_lay C.i hg42) mt_Laying_lay ml_O_228 (Nat.le_of_ble_eq_true rfl) rfl rfl rfl rfl rfl rfl ⟨Nat.le_of_ble_eq_true rfl, Nat.le_of_ble_eq_true rfl⟩ rfl (Nat.le_of_ble_eq_true rfl) d_O_laid_42 rfl ?_
          refine r_if_ne C (t := 51) (q := 48) d_O_laid_45 (by decide) rfl (fun c45 => ?_) (fun c45 => ?_)
          · replace hf := ite_t c45 hf
            refine r_bipush C (q := 50) (x := (-3)) d_O_laid_48 rfl rfl ?_
            exact r_ireturn C hf d_O_laid_50
          · replace hf := ite_f c45 hf
            refine r_iload_n C (q := 52) 3 d_O_laid_51 rfl rfl rfl ?_
            refine r_if_ne C (t := 65) (q := 55) d_O_laid_52 (by decide) rfl (fun c52 => ?_) (fun c52 => ?_)
            · replace hf := ite_t c52 hf
              refine r_aload_n C (q := 56) 0 d_O_laid_55 rfl rfl rfl ?_
              refine gxx_O_laying C (q := 59) fl_O_46 d_O_laid_56 rfl ?_
              obtain ⟨r59, s59, hg59, hf⟩ := bd_s hf
              refine r_cVI C (q := 62) (As := []) (k0 := 7) (c_x_Laying_countMates C.i hg59) mt_Laying_countMates ml_O_232 (Nat.le_of_ble_eq_true rfl) rfl rfl rfl rfl rfl rfl ⟨Nat.le_of_ble_eq_true rfl, Nat.le_of_ble_eq_true rfl⟩ rfl (Nat.le_of_ble_eq_true rfl) d_O_laid_59 rfl ?_
              refine r_goto C (q := 72) d_O_laid_62 (by decide) ?_
              exact r_ireturn C hf d_O_laid_72
            · replace hf := ite_f c52 hf
              refine r_aload_n C (q := 66) 0 d_O_laid_65 rfl rfl rfl ?_
              refine gxx_O_laying C (q := 69) fl_O_46 d_O_laid_66 rfl ?_
              obtain ⟨r69, s69, hg69, hf⟩ := bd_s hf
              refine r_cVI C (q := 72) (As := []) (k0 := 7) (c_x_Laying_sumOfAll C.i hg69) mt_Laying_sumOfAll ml_O_235 (Nat.le_of_ble_eq_true rfl) rfl rfl rfl rfl rfl rfl ⟨Nat.le_of_ble_eq_true rfl, Nat.le_of_ble_eq_true rfl⟩ rfl (Nat.le_of_ble_eq_true rfl) d_O_laid_69 rfl ?_
              exact r_ireturn C hf d_O_laid_72
def x_Laying_mateOf_51 (N : Nat) (k2 : Int → St → MM) (v1 v2 : Int) (s : St) : MM := k2 (v2 + 1) s
def x_Laying_mateOf_2 (N : Nat) (v1 : Int) (k2 : Int → St → MM) (v2 : Int) (s : St) : MM := if le32 (s 7 4) v2 then (some ((-1), s)) else (bd (x_Laying_figureOf N v2 s) (fun r12 s12 => gd (inb v2 10) (if eq32 (s12 27 v2) v1 then (if lt32 r12 1 then (x_Laying_mateOf_51 N k2 v1 v2  s12) else (if lt32 (s12 7 5) r12 then (x_Laying_mateOf_51 N k2 v1 v2  s12) else (gd (inb ((s12 7 5) - r12) 10) (some (s12 28 ((s12 7 5) - r12), s12))))) else (x_Laying_mateOf_51 N k2 v1 v2  s12))))
def x_Laying_mateOf (N : Nat) (v1 : Int) (s : St) : MM := itr (x_Laying_mateOf_2 N v1) (fun _ _ => none) N 0 s
abbrev rm_x_Laying_mateOf : Room := { frames := 1, cells := 0, slots := 0, locals := 24 }
theorem s_x_Laying_mateOf_51 {X : CxT} {l : Launch} {G : GG} (C : Cx X l (xW G) 4 prog_6_method_8_code "OneSelf$Laying" (wo y_Laying_mateOf prog_6_method_8_code 4 (some .int)) (some .int) rm_x_Laying_mateOf) {o : Int × St} {N : Nat} {v1 v2 : Int} {k2 : Int → St → MM} (hk2 : ∀ (u2 : Int) (s : St), k2 u2 s = some o → Rj X (xW G) 4 (qI X (xW G) o) 2 [(0, .ref ((xW G).h 7)), (1, vI v1), (2, vI u2)] [] s) {s : St} (hf : x_Laying_mateOf_51 N k2 v1 v2 s = some o) : Rj X (xW G) 4 (qI X (xW G) o) 51 [(0, .ref ((xW G).h 7)), (1, vI v1), (2, vI v2)] [] s := by
  unfold x_Laying_mateOf_51 at hf
  refine r_iinc C (q := 54) (lv' := [(2, vI (v2 + 1)), (0, .ref ((xW G).h 7)), (1, vI v1)]) 2 d_Laying_mateOf_51 rfl (by decide) rfl rfl ?_
  refine r_goto C (q := 2) d_Laying_mateOf_54 (by decide) ?_
  exact r_sub [1, 2, 0] rfl (hk2 _ _  hf)
theorem s_x_Laying_mateOf_2 {X : CxT} {l : Launch} {G : GG} (C : Cx X l (xW G) 4 prog_6_method_8_code "OneSelf$Laying" (wo y_Laying_mateOf prog_6_method_8_code 4 (some .int)) (some .int) rm_x_Laying_mateOf) {o : Int × St} {N : Nat} {v1 v2 : Int} {k2 : Int → St → MM} (hk2 : ∀ (u2 : Int) (s : St), k2 u2 s = some o → Rj X (xW G) 4 (qI X (xW G) o) 2 [(0, .ref ((xW G).h 7)), (1, vI v1), (2, vI u2)] [] s) {s : St} (hf : x_Laying_mateOf_2 N v1 k2 v2 s = some o) : Rj X (xW G) 4 (qI X (xW G) o) 2 [(0, .ref ((xW G).h 7)), (1, vI v1), (2, vI v2)] [] s := by
  unfold x_Laying_mateOf_2 at hf
  refine r_iload_n C (q := 3) 2 d_Laying_mateOf_2 rfl rfl rfl ?_
  refine r_aload_n C (q := 4) 0 d_Laying_mateOf_3 rfl rfl rfl ?_
  refine gxx_Laying_lefts C (q := 7) fl_Laying_35 d_Laying_mateOf_4 rfl ?_
  refine r_ic_ge C (t := 57) (q := 10) d_Laying_mateOf_7 (by decide) rfl (fun c7 => ?_) (fun c7 => ?_)
  · replace hf := ite_t c7 hf
    refine r_iconst C (q := 58) d_Laying_mateOf_57 rfl ?_
    exact r_ireturn C hf d_Laying_mateOf_58
  · replace hf := ite_f c7 hf
    refine r_aload_n C (q := 11) 0 d_Laying_mateOf_10 rfl rfl rfl ?_
    refine r_iload_n C (q := 12) 2 d_Laying_mateOf_11 rfl rfl rfl ?_
    obtain ⟨r12, s12, hg12, hf⟩ := bd_s hf
    refine r_cVI C (q := 15) (As := [vI v2]) (k0 := 7) (c_x_Laying_figureOf C.i hg12) mt_Laying_figureOf ml_Laying_96 (Nat.le_of_ble_eq_true rfl) rfl rfl rfl rfl rfl rfl ⟨Nat.le_of_ble_eq_true rfl, Nat.le_of_ble_eq_true rfl⟩ rfl (Nat.le_of_ble_eq_true rfl) d_Laying_mateOf_12 rfl ?_
    refine r_istore_n C (q := 16) (lv' := [(3, vI r12), (0, .ref ((xW G).h 7)), (1, vI v1), (2, vI v2)]) d_Laying_mateOf_15 rfl (by decide) rfl rfl ?_
    refine r_aload_n C (q := 17) 1 d_Laying_mateOf_16 rfl rfl rfl ?_
    refine gxx_Laying_left C (q := 20) fl_Laying_11 d_Laying_mateOf_17 rfl ?_
    refine r_iload_n C (q := 21) 3 d_Laying_mateOf_20 rfl rfl rfl ?_
    obtain ⟨g21, hf⟩ := gd_s hf
    refine r_iald C (q := 22) 27 (Nat.le_of_ble_eq_true rfl) (fun _ => rfl) 0 rfl g21 (by decide) d_Laying_mateOf_21 rfl ?_
    refine r_iload_n C (q := 23) 2 d_Laying_mateOf_22 rfl rfl rfl ?_
    refine r_ic_ne C (t := 51) (q := 26) d_Laying_mateOf_23 (by decide) rfl (fun c23 => ?_) (fun c23 => ?_)
    · replace hf := ite_t c23 hf
      refine r_iload_n C (q := 27) 0 d_Laying_mateOf_26 rfl rfl rfl ?_
      refine r_iconst C (q := 28) d_Laying_mateOf_27 rfl ?_
      refine r_ic_lt C (t := 51) (q := 31) d_Laying_mateOf_28 (by decide) rfl (fun c28 => ?_) (fun c28 => ?_)
      · replace hf := ite_t c28 hf
        exact r_sub [1, 2, 3] rfl (s_x_Laying_mateOf_51 C hk2 hf)
      · replace hf := ite_f c28 hf
        refine r_iload_n C (q := 32) 0 d_Laying_mateOf_31 rfl rfl rfl ?_
        refine r_aload_n C (q := 33) 1 d_Laying_mateOf_32 rfl rfl rfl ?_
        refine gxx_Laying_rights C (q := 36) fl_Laying_39 d_Laying_mateOf_33 rfl ?_
        refine r_ic_gt C (t := 51) (q := 39) d_Laying_mateOf_36 (by decide) rfl (fun c36 => ?_) (fun c36 => ?_)
        · replace hf := ite_t c36 hf
          exact r_sub [1, 2, 3] rfl (s_x_Laying_mateOf_51 C hk2 hf)
        · replace hf := ite_f c36 hf
          refine r_aload_n C (q := 40) 1 d_Laying_mateOf_39 rfl rfl rfl ?_
          refine gxx_Laying_right C (q := 43) fl_Laying_15 d_Laying_mateOf_40 rfl ?_
          refine r_aload_n C (q := 44) 1 d_Laying_mateOf_43 rfl rfl rfl ?_
          refine gxx_Laying_rights C (q := 47) fl_Laying_39 d_Laying_mateOf_44 rfl ?_
          refine r_iload_n C (q := 48) 0 d_Laying_mateOf_47 rfl rfl rfl ?_
          refine r_isub C (q := 49) d_Laying_mateOf_48 rfl ?_
          obtain ⟨g49, hf⟩ := gd_s hf
          refine r_iald C (q := 50) 28 (Nat.le_of_ble_eq_true rfl) (fun _ => rfl) 0 rfl g49 (by decide) d_Laying_mateOf_49 rfl ?_
          exact r_ireturn C hf d_Laying_mateOf_50
    · replace hf := ite_f c23 hf
      exact r_sub [1, 2, 3] rfl (s_x_Laying_mateOf_51 C hk2 hf)
theorem c_x_Laying_mateOf {l : Launch} {G : GG} (hi : wo_i (xW G)) {N : Nat} {v1 : Int} {s : St} {o : Int × St} (hf : x_Laying_mateOf N v1 s = some o) : CtI l (xW G) y_Laying_mateOf (wo y_Laying_mateOf prog_6_method_8_code 4 (some .int)) rm_x_Laying_mateOf [.ref ((xW G).h 7), vI v1] s o := by
  refine ct_I (by decide +kernel) hi (Nat.le_of_ble_eq_true rfl) fun X C => ?_
  unfold x_Laying_mateOf at hf
  show Rj X (xW G) 4 (qI X (xW G) o) 0 [(0, .ref ((xW G).h 7)), (1, vI v1)] [] s
  refine r_iconst C (q := 1) d_Laying_mateOf_0 rfl ?_
  refine r_istore_n C (q := 2) (lv' := [(2, vI 0), (0, .ref ((xW G).h 7)), (1, vI v1)]) d_Laying_mateOf_1 rfl (by decide) rfl rfl ?_
  have hL : ∀ (u2 : Int) (z : St), itr (x_Laying_mateOf_2 N v1) (fun _ _ => none) N u2 z = some o → Rj X (xW G) 4 (qI X (xW G) o) 2 [(0, .ref ((xW G).h 7)), (1, vI v1), (2, vI u2)] [] z := itr_ind (x_Laying_mateOf_2 N v1) (fun _ _ => none) (fun k => ∀ (u2 : Int) (z : St), k u2 z = some o → Rj X (xW G) 4 (qI X (xW G) o) 2 [(0, .ref ((xW G).h 7)), (1, vI v1), (2, vI u2)] [] z) (fun _ _  h => by cases h) (fun k hk u2 z h => s_x_Laying_mateOf_2 C hk h) N
  exact r_sub [1, 2, 0] rfl (hL _ _  hf)
def x_mate (N : Nat) (v1 v2 : Int) (s : St) : MM := bd (x_Rows_has N v1 s) (fun r5 s5 => if eq32 r5 0 then (some ((-2), s5)) else (bd (x_isBelow N v2 3 s5) (fun r13 s13 => if eq32 r13 0 then (some ((-2), s13)) else (bd (x_Rows_isKnown N v1 s13) (fun r24 s24 => if eq32 r24 0 then (some ((-2), s24)) else (bd (x_Rows_fact N v1 0 s24) (fun r36 s36 => if eq32 r36 v2 then (some ((-2), s36)) else (bd (x_Rows_fact N v1 0 s36) (fun r60 s60 => bd (x_Laying_lay N r60 v2 s60) (fun r64 s64 => if eq32 r64 0 then (some ((-3), s64)) else (bd (x_Laying_mateOf N v1 s64) (fun r78 s78 => some (r78, s78)))))))))))))
abbrev rm_x_mate : Room := { frames := 5, cells := 0, slots := 0, locals := 129 }
theorem c_x_mate {l : Launch} {G : GG} (hi : wo_i (xW G)) {N : Nat} {v1 v2 : Int} {s : St} {o : Int × St} (hf : x_mate N v1 v2 s = some o) : CtI l (xW G) y_O_mate (wo y_O_mate prog_1_method_23_code 3 (some .int)) rm_x_mate [.ref ((xW G).h 0), vI v1, vI v2] s o := by
  refine ct_I (by decide +kernel) hi (Nat.le_of_ble_eq_true rfl) fun X C => ?_
  unfold x_mate at hf
  show Rj X (xW G) 3 (qI X (xW G) o) 0 [(0, .ref ((xW G).h 0)), (1, vI v1), (2, vI v2)] [] s
  refine r_aload_n C (q := 1) 0 d_O_mate_0 rfl rfl rfl ?_
  refine gxx_O_rows C (q := 4) fl_O_27 d_O_mate_1 rfl ?_
  refine r_iload_n C (q := 5) 1 d_O_mate_4 rfl rfl rfl ?_
  obtain ⟨r5, s5, hg5, hf⟩ := bd_s hf
  refine r_cVI C (q := 8) (As := [vI v1]) (k0 := 3) (c_x_Rows_has C.i hg5) mt_Rows_has ml_O_138 (Nat.le_of_ble_eq_true rfl) rfl rfl rfl rfl rfl rfl ⟨Nat.le_of_ble_eq_true rfl, Nat.le_of_ble_eq_true rfl⟩ rfl (Nat.le_of_ble_eq_true rfl) d_O_mate_5 rfl ?_
  refine r_if_eq C (t := 43) (q := 11) d_O_mate_8 (by decide) rfl (fun c8 => ?_) (fun c8 => ?_)
  · replace hf := ite_t c8 hf
    refine r_bipush C (q := 45) (x := (-2)) d_O_mate_43 rfl rfl ?_
    exact r_ireturn C hf d_O_mate_45
  · replace hf := ite_f c8 hf
    refine r_iload_n C (q := 12) 2 d_O_mate_11 rfl rfl rfl ?_
    refine r_iconst C (q := 13) d_O_mate_12 rfl ?_
    obtain ⟨r13, s13, hg13, hf⟩ := bd_s hf
    refine r_cSI C (q := 16) (As := [vI v2, vI 3]) (c_x_isBelow C.i hg13) mt_O_isBelow ml_O_88 rfl rfl rfl ⟨Nat.le_of_ble_eq_true rfl, Nat.le_of_ble_eq_true rfl⟩ rfl (Nat.le_of_ble_eq_true rfl) d_O_mate_13 rfl ?_
    refine r_if_eq C (t := 43) (q := 19) d_O_mate_16 (by decide) rfl (fun c16 => ?_) (fun c16 => ?_)
    · replace hf := ite_t c16 hf
      refine r_bipush C (q := 45) (x := (-2)) d_O_mate_43 rfl rfl ?_
      exact r_ireturn C hf d_O_mate_45
    · replace hf := ite_f c16 hf
      refine r_aload_n C (q := 20) 0 d_O_mate_19 rfl rfl rfl ?_
      refine gxx_O_rows C (q := 23) fl_O_27 d_O_mate_20 rfl ?_
      refine r_iload_n C (q := 24) 1 d_O_mate_23 rfl rfl rfl ?_
      obtain ⟨r24, s24, hg24, hf⟩ := bd_s hf
      refine r_cVI C (q := 27) (As := [vI v1]) (k0 := 3) (c_x_Rows_isKnown C.i hg24) mt_Rows_isKnown ml_O_148 (Nat.le_of_ble_eq_true rfl) rfl rfl rfl rfl rfl rfl ⟨Nat.le_of_ble_eq_true rfl, Nat.le_of_ble_eq_true rfl⟩ rfl (Nat.le_of_ble_eq_true rfl) d_O_mate_24 rfl ?_
      refine r_if_eq C (t := 43) (q := 30) d_O_mate_27 (by decide) rfl (fun c27 => ?_) (fun c27 => ?_)
      · replace hf := ite_t c27 hf
        refine r_bipush C (q := 45) (x := (-2)) d_O_mate_43 rfl rfl ?_
        exact r_ireturn C hf d_O_mate_45
      · replace hf := ite_f c27 hf
        refine r_aload_n C (q := 31) 0 d_O_mate_30 rfl rfl rfl ?_
        refine gxx_O_rows C (q := 34) fl_O_27 d_O_mate_31 rfl ?_
        refine r_iload_n C (q := 35) 1 d_O_mate_34 rfl rfl rfl ?_
        refine r_iconst C (q := 36) d_O_mate_35 rfl ?_
        obtain ⟨r36, s36, hg36, hf⟩ := bd_s hf
        refine r_cVI C (q := 39) (As := [vI v1, vI 0]) (k0 := 3) (c_x_Rows_fact C.i hg36) mt_Rows_fact ml_O_141 (Nat.le_of_ble_eq_true rfl) rfl rfl rfl rfl rfl rfl ⟨Nat.le_of_ble_eq_true rfl, Nat.le_of_ble_eq_true rfl⟩ rfl (Nat.le_of_ble_eq_true rfl) d_O_mate_36 rfl ?_
        refine r_iload_n C (q := 40) 2 d_O_mate_39 rfl rfl rfl ?_
        refine r_ic_ne C (t := 46) (q := 43) d_O_mate_40 (by decide) rfl (fun c40 => ?_) (fun c40 => ?_)
        · replace hf := ite_t c40 hf
          refine r_bipush C (q := 45) (x := (-2)) d_O_mate_43 rfl rfl ?_
          exact r_ireturn C hf d_O_mate_45
        · replace hf := ite_f c40 hf
          refine r_aload_n C (q := 47) 0 d_O_mate_46 rfl rfl rfl ?_
          refine gxx_O_laying C (q := 50) fl_O_46 d_O_mate_47 rfl ?_
          refine r_aload_n C (q := 51) 0 d_O_mate_50 rfl rfl rfl ?_
          refine gxx_O_pairs C (q := 54) fl_O_19 d_O_mate_51 rfl ?_
          refine r_aload_n C (q := 55) 0 d_O_mate_54 rfl rfl rfl ?_
          refine gxx_O_rows C (q := 58) fl_O_27 d_O_mate_55 rfl ?_
          refine r_iload_n C (q := 59) 1 d_O_mate_58 rfl rfl rfl ?_
          refine r_iconst C (q := 60) d_O_mate_59 rfl ?_
          obtain ⟨r60, s60, hg60, hf⟩ := bd_s hf
          refine r_cVI C (q := 63) (As := [vI v1, vI 0]) (k0 := 3) (c_x_Rows_fact C.i hg60) mt_Rows_fact ml_O_141 (Nat.le_of_ble_eq_true rfl) rfl rfl rfl rfl rfl rfl ⟨Nat.le_of_ble_eq_true rfl, Nat.le_of_ble_eq_true rfl⟩ rfl (Nat.le_of_ble_eq_true rfl) d_O_mate_60 rfl ?_
          refine r_iload_n C (q := 64) 2 d_O_mate_63 rfl rfl rfl ?_
          obtain ⟨r64, s64, hg64, hf⟩ := bd_s hf
          refine r_cVI C (q := 67) (As := [.ref ((xW G).h 2), vI r60, vI v2]) (k0 := 7) (c_x_Laying_lay C.i hg64) mt_Laying_lay ml_O_228 (Nat.le_of_ble_eq_true rfl) rfl rfl rfl rfl rfl rfl ⟨Nat.le_of_ble_eq_true rfl, Nat.le_of_ble_eq_true rfl⟩ rfl (Nat.le_of_ble_eq_true rfl) d_O_mate_64 rfl ?_
          refine r_if_ne C (t := 73) (q := 70) d_O_mate_67 (by decide) rfl (fun c67 => ?_) (fun c67 => ?_)
          · replace hf := ite_t c67 hf
            refine r_bipush C (q := 72) (x := (-3)) d_O_mate_70 rfl rfl ?_
            exact r_ireturn C hf d_O_mate_72
          · replace hf := ite_f c67 hf
            refine r_aload_n C (q := 74) 0 d_O_mate_73 rfl rfl rfl ?_
            refine gxx_O_laying C (q := 77) fl_O_46 d_O_mate_74 rfl ?_
            refine r_iload_n C (q := 78) 1 d_O_mate_77 rfl rfl rfl ?_
            obtain ⟨r78, s78, hg78, hf⟩ := bd_s hf
            refine r_cVI C (q := 81) (As := [vI v1]) (k0 := 7) (c_x_Laying_mateOf C.i hg78) mt_Laying_mateOf ml_O_238 (Nat.le_of_ble_eq_true rfl) rfl rfl rfl rfl rfl rfl ⟨Nat.le_of_ble_eq_true rfl, Nat.le_of_ble_eq_true rfl⟩ rfl (Nat.le_of_ble_eq_true rfl) d_O_mate_78 rfl ?_
            exact r_ireturn C hf d_O_mate_81
def x_Bundles_join_45 (N : Nat) (k16 : Int → St → MM) (v3 v4 v5 : Int) (s : St) : MM := k16 (v5 + 1) s
def x_Bundles_join_16 (N : Nat) (v3 v4 : Int) (k16 : Int → St → MM) (v5 : Int) (s : St) : MM := if le32 (s 8 1) v5 then (some (0, s)) else (gd (inb v5 36) (if eq32 (s 31 v5) v4 then (gd (inb v5 36) (x_Bundles_join_45 N k16 v3 v4 v5  (su s 31 v5 v3))) else (x_Bundles_join_45 N k16 v3 v4 v5  s)))
def x_Bundles_join (N : Nat) (v1 v2 : Int) (s : St) : MM := itr (x_Bundles_join_16 N (mn32 v1 v2) (mx32 v1 v2)) (fun _ _ => none) N 0 s
abbrev rm_x_Bundles_join : Room := { frames := 1, cells := 0, slots := 0, locals := 23 }
theorem s_x_Bundles_join_45 {X : CxT} {l : Launch} {G : GG} (C : Cx X l (xW G) 6 prog_2_method_3_code "OneSelf$Bundles" (wo y_Bundles_join prog_2_method_3_code 6 none) none rm_x_Bundles_join) {o : Int × St} {N : Nat} {v3 v4 v5 : Int} {k16 : Int → St → MM} (hk16 : ∀ (u5 : Int) (s : St), k16 u5 s = some o → Rj X (xW G) 6 (qV X (xW G) o) 16 [(0, .ref ((xW G).h 8)), (3, vI v3), (4, vI v4), (5, vI u5)] [] s) {s : St} (hf : x_Bundles_join_45 N k16 v3 v4 v5 s = some o) : Rj X (xW G) 6 (qV X (xW G) o) 45 [(0, .ref ((xW G).h 8)), (3, vI v3), (4, vI v4), (5, vI v5)] [] s := by
  unfold x_Bundles_join_45 at hf
  refine r_iinc C (q := 48) (lv' := [(5, vI (v5 + 1)), (0, .ref ((xW G).h 8)), (3, vI v3), (4, vI v4)]) 3 d_Bundles_join_45 rfl (by decide) rfl rfl ?_
  refine r_goto C (q := 16) d_Bundles_join_48 (by decide) ?_
  exact r_sub [1, 2, 3, 0] rfl (hk16 _ _  hf)
theorem s_x_Bundles_join_16 {X : CxT} {l : Launch} {G : GG} (C : Cx X l (xW G) 6 prog_2_method_3_code "OneSelf$Bundles" (wo y_Bundles_join prog_2_method_3_code 6 none) none rm_x_Bundles_join) {o : Int × St} {N : Nat} {v3 v4 v5 : Int} {k16 : Int → St → MM} (hk16 : ∀ (u5 : Int) (s : St), k16 u5 s = some o → Rj X (xW G) 6 (qV X (xW G) o) 16 [(0, .ref ((xW G).h 8)), (3, vI v3), (4, vI v4), (5, vI u5)] [] s) {s : St} (hf : x_Bundles_join_16 N v3 v4 k16 v5 s = some o) : Rj X (xW G) 6 (qV X (xW G) o) 16 [(0, .ref ((xW G).h 8)), (3, vI v3), (4, vI v4), (5, vI v5)] [] s := by
  unfold x_Bundles_join_16 at hf
  refine r_iload C (q := 18) 3 d_Bundles_join_16 rfl rfl ?_
  refine r_aload_n C (q := 19) 0 d_Bundles_join_18 rfl rfl rfl ?_
  refine gxx_Bundles_many C (q := 22) fl_Bundles_27 d_Bundles_join_19 rfl ?_
  refine r_ic_ge C (t := 51) (q := 25) d_Bundles_join_22 (by decide) rfl (fun c22 => ?_) (fun c22 => ?_)
  · replace hf := ite_t c22 hf
    exact r_return C hf d_Bundles_join_51
  · replace hf := ite_f c22 hf
    refine r_aload_n C (q := 26) 0 d_Bundles_join_25 rfl rfl rfl ?_
    refine gxx_Bundles_numbers C (q := 29) fl_Bundles_9 d_Bundles_join_26 rfl ?_
    refine r_iload C (q := 31) 3 d_Bundles_join_29 rfl rfl ?_
    obtain ⟨g31, hf⟩ := gd_s hf
    refine r_iald C (q := 32) 31 (Nat.le_of_ble_eq_true rfl) (fun _ => rfl) 0 rfl g31 (by decide) d_Bundles_join_31 rfl ?_
    refine r_iload C (q := 34) 2 d_Bundles_join_32 rfl rfl ?_
    refine r_ic_ne C (t := 45) (q := 37) d_Bundles_join_34 (by decide) rfl (fun c34 => ?_) (fun c34 => ?_)
    · replace hf := ite_t c34 hf
      refine r_aload_n C (q := 38) 0 d_Bundles_join_37 rfl rfl rfl ?_
      refine gxx_Bundles_numbers C (q := 41) fl_Bundles_9 d_Bundles_join_38 rfl ?_
      refine r_iload C (q := 43) 3 d_Bundles_join_41 rfl rfl ?_
      refine r_iload_n C (q := 44) 1 d_Bundles_join_43 rfl rfl rfl ?_
      obtain ⟨g44, hf⟩ := gd_s hf
      refine r_iast C (q := 45) 31 (Nat.le_of_ble_eq_true rfl) (fun _ => rfl) 0 rfl g44 (by decide) d_Bundles_join_44 rfl ?_
      exact r_sub [0, 1, 2, 3] rfl (s_x_Bundles_join_45 C hk16 hf)
    · replace hf := ite_f c34 hf
      exact r_sub [0, 1, 2, 3] rfl (s_x_Bundles_join_45 C hk16 hf)
theorem c_x_Bundles_join {l : Launch} {G : GG} (hi : wo_i (xW G)) {N : Nat} {v1 v2 : Int} {s : St} {o : Int × St} (hf : x_Bundles_join N v1 v2 s = some o) : CtV l (xW G) y_Bundles_join (wo y_Bundles_join prog_2_method_3_code 6 none) rm_x_Bundles_join [.ref ((xW G).h 8), vI v1, vI v2] s o := by
  refine ct_V (by decide +kernel) hi (Nat.le_of_ble_eq_true rfl) fun X C => ?_
  unfold x_Bundles_join at hf
  show Rj X (xW G) 6 (qV X (xW G) o) 0 [(0, .ref ((xW G).h 8)), (1, vI v1), (2, vI v2)] [] s
  refine r_iload_n C (q := 1) 1 d_Bundles_join_0 rfl rfl rfl ?_
  refine r_iload_n C (q := 2) 2 d_Bundles_join_1 rfl rfl rfl ?_
  refine r_mmin C (q := 5) ml_Bundles_40 mM_min (Nat.le_of_ble_eq_true rfl) (Nat.le_of_ble_eq_true rfl) (Nat.le_of_ble_eq_true rfl) d_Bundles_join_2 rfl ?_
  refine r_istore_n C (q := 6) (lv' := [(3, vI (mn32 v1 v2)), (0, .ref ((xW G).h 8)), (1, vI v1), (2, vI v2)]) d_Bundles_join_5 rfl (by decide) rfl rfl ?_
  refine r_iload_n C (q := 7) 2 d_Bundles_join_6 rfl rfl rfl ?_
  refine r_iload_n C (q := 8) 3 d_Bundles_join_7 rfl rfl rfl ?_
  refine r_mmax C (q := 11) ml_Bundles_46 mM_max (Nat.le_of_ble_eq_true rfl) (Nat.le_of_ble_eq_true rfl) (Nat.le_of_ble_eq_true rfl) d_Bundles_join_8 rfl ?_
  refine r_istore C (q := 13) (lv' := [(4, vI (mx32 v1 v2)), (3, vI (mn32 v1 v2)), (0, .ref ((xW G).h 8)), (1, vI v1), (2, vI v2)]) d_Bundles_join_11 (by decide) rfl rfl ?_
  refine r_iconst C (q := 14) d_Bundles_join_13 rfl ?_
  refine r_istore C (q := 16) (lv' := [(5, vI 0), (4, vI (mx32 v1 v2)), (3, vI (mn32 v1 v2)), (0, .ref ((xW G).h 8)), (1, vI v1), (2, vI v2)]) d_Bundles_join_14 (by decide) rfl rfl ?_
  have hL : ∀ (u5 : Int) (z : St), itr (x_Bundles_join_16 N (mn32 v1 v2) (mx32 v1 v2)) (fun _ _ => none) N u5 z = some o → Rj X (xW G) 6 (qV X (xW G) o) 16 [(0, .ref ((xW G).h 8)), (3, vI (mn32 v1 v2)), (4, vI (mx32 v1 v2)), (5, vI u5)] [] z := itr_ind (x_Bundles_join_16 N (mn32 v1 v2) (mx32 v1 v2)) (fun _ _ => none) (fun k => ∀ (u5 : Int) (z : St), k u5 z = some o → Rj X (xW G) 6 (qV X (xW G) o) 16 [(0, .ref ((xW G).h 8)), (3, vI (mn32 v1 v2)), (4, vI (mx32 v1 v2)), (5, vI u5)] [] z) (fun _ _  h => by cases h) (fun k hk u5 z h => s_x_Bundles_join_16 C hk h) N
  exact r_sub [3, 2, 1, 0] rfl (hL _ _  hf)
def x_Bundles_gather_42 (N : Nat) (k13 : Int → St → MM) (v2 t0 t1 : Int) (s : St) : MM := gd (inb t1 36) (k13 (v2 + 1) (su s 31 t1 t0))
def x_Bundles_gather_111 (N : Nat) (k51 : Int → St → MM) (k63 : Int → St → MM) (v2 v3 : Int) (s : St) : MM := k63 (v3 + 1) s
def x_Bundles_gather_63 (N : Nat) (k51 : Int → St → MM) (v2 : Int) (k63 : Int → St → MM) (v3 : Int) (s : St) : MM := if le32 (s 8 1) v3 then (k51 (v2 + 1) s) else (gd (inb v2 36) (gd (inb v3 36) (if eq32 (s 31 v2) (s 31 v3) then (x_Bundles_gather_111 N k51 k63 v2 v3  s) else (bd (x_Pairs_areLinked N v2 v3 s) (fun r89 s89 => if eq32 r89 0 then (x_Bundles_gather_111 N k51 k63 v2 v3  s89) else (gd (inb v2 36) (gd (inb v3 36) (bd (x_Bundles_join N (s89 31 v2) (s89 31 v3) s89) (fun r108 s108 => x_Bundles_gather_111 N k51 k63 v2 v3  s108)))))))))
def x_Bundles_gather_51 (N : Nat) (k51 : Int → St → MM) (v2 : Int) (s : St) : MM := if le32 (s 8 1) v2 then (some (0, s)) else (itr (x_Bundles_gather_63 N k51 v2) (fun _ _ => none) N (v2 + 1) s)
def x_Bundles_gather_13 (N : Nat) (k13 : Int → St → MM) (v2 : Int) (s : St) : MM := if le32 (s 8 1) v2 then (itr (x_Bundles_gather_51 N ) (fun _ _ => none) N 0 s) else (bd (x_Rows_isKnown N v2 s) (fun r31 s31 => if eq32 r31 0 then (x_Bundles_gather_42 N k13 v2 ((-1)) v2 s31) else (x_Bundles_gather_42 N k13 v2 v2 v2 s31)))
def x_Bundles_gather (N : Nat) (s : St) : MM := itr (x_Bundles_gather_13 N ) (fun _ _ => none) N 0 (su s 8 1 (s 3 2))
abbrev rm_x_Bundles_gather : Room := { frames := 4, cells := 0, slots := 0, locals := 96 }
theorem s_x_Bundles_gather_42 {X : CxT} {l : Launch} {G : GG} (C : Cx X l (xW G) 4 prog_2_method_2_code "OneSelf$Bundles" (wo y_Bundles_gather prog_2_method_2_code 4 none) none rm_x_Bundles_gather) {o : Int × St} {N : Nat} {v2 t0 t1 : Int} {k13 : Int → St → MM} (hk13 : ∀ (u2 : Int) (s : St), k13 u2 s = some o → Rj X (xW G) 4 (qV X (xW G) o) 13 [(0, .ref ((xW G).h 8)), (1, .ref ((xW G).h 2)), (2, vI u2)] [] s) {s : St} (hf : x_Bundles_gather_42 N k13 v2 t0 t1 s = some o) : Rj X (xW G) 4 (qV X (xW G) o) 42 [(0, .ref ((xW G).h 8)), (1, .ref ((xW G).h 2)), (2, vI v2)] [vI t0, vI t1, .ref ((xW G).h 31)] s := by
  unfold x_Bundles_gather_42 at hf
  obtain ⟨g42, hf⟩ := gd_s hf
  refine r_iast C (q := 43) 31 (Nat.le_of_ble_eq_true rfl) (fun _ => rfl) 0 rfl g42 (by decide) d_Bundles_gather_42 rfl ?_
  refine r_iinc C (q := 46) (lv' := [(2, vI (v2 + 1)), (0, .ref ((xW G).h 8)), (1, .ref ((xW G).h 2))]) 2 d_Bundles_gather_43 rfl (by decide) rfl rfl ?_
  refine r_goto C (q := 13) d_Bundles_gather_46 (by decide) ?_
  exact r_sub [1, 2, 0] rfl (hk13 _ _  hf)
theorem s_x_Bundles_gather_111 {X : CxT} {l : Launch} {G : GG} (C : Cx X l (xW G) 4 prog_2_method_2_code "OneSelf$Bundles" (wo y_Bundles_gather prog_2_method_2_code 4 none) none rm_x_Bundles_gather) {o : Int × St} {N : Nat} {v2 v3 : Int} {k51 : Int → St → MM} (hk51 : ∀ (u2 : Int) (s : St), k51 u2 s = some o → Rj X (xW G) 4 (qV X (xW G) o) 51 [(0, .ref ((xW G).h 8)), (1, .ref ((xW G).h 2)), (2, vI u2)] [] s) {k63 : Int → St → MM} (hk63 : ∀ (u3 : Int) (s : St), k63 u3 s = some o → Rj X (xW G) 4 (qV X (xW G) o) 63 [(0, .ref ((xW G).h 8)), (1, .ref ((xW G).h 2)), (2, vI v2), (3, vI u3)] [] s) {s : St} (hf : x_Bundles_gather_111 N k51 k63 v2 v3 s = some o) : Rj X (xW G) 4 (qV X (xW G) o) 111 [(0, .ref ((xW G).h 8)), (1, .ref ((xW G).h 2)), (2, vI v2), (3, vI v3)] [] s := by
  unfold x_Bundles_gather_111 at hf
  refine r_iinc C (q := 114) (lv' := [(3, vI (v3 + 1)), (0, .ref ((xW G).h 8)), (1, .ref ((xW G).h 2)), (2, vI v2)]) 3 d_Bundles_gather_111 rfl (by decide) rfl rfl ?_
  refine r_goto C (q := 63) d_Bundles_gather_114 (by decide) ?_
  exact r_sub [1, 2, 3, 0] rfl (hk63 _ _  hf)
theorem s_x_Bundles_gather_63 {X : CxT} {l : Launch} {G : GG} (C : Cx X l (xW G) 4 prog_2_method_2_code "OneSelf$Bundles" (wo y_Bundles_gather prog_2_method_2_code 4 none) none rm_x_Bundles_gather) {o : Int × St} {N : Nat} {v2 v3 : Int} {k51 : Int → St → MM} (hk51 : ∀ (u2 : Int) (s : St), k51 u2 s = some o → Rj X (xW G) 4 (qV X (xW G) o) 51 [(0, .ref ((xW G).h 8)), (1, .ref ((xW G).h 2)), (2, vI u2)] [] s) {k63 : Int → St → MM} (hk63 : ∀ (u3 : Int) (s : St), k63 u3 s = some o → Rj X (xW G) 4 (qV X (xW G) o) 63 [(0, .ref ((xW G).h 8)), (1, .ref ((xW G).h 2)), (2, vI v2), (3, vI u3)] [] s) {s : St} (hf : x_Bundles_gather_63 N k51 v2 k63 v3 s = some o) : Rj X (xW G) 4 (qV X (xW G) o) 63 [(0, .ref ((xW G).h 8)), (1, .ref ((xW G).h 2)), (2, vI v2), (3, vI v3)] [] s := by
  unfold x_Bundles_gather_63 at hf
  refine r_iload_n C (q := 64) 3 d_Bundles_gather_63 rfl rfl rfl ?_
  refine r_aload_n C (q := 65) 0 d_Bundles_gather_64 rfl rfl rfl ?_
  refine gxx_Bundles_many C (q := 68) fl_Bundles_27 d_Bundles_gather_65 rfl ?_
  refine r_ic_ge C (t := 117) (q := 71) d_Bundles_gather_68 (by decide) rfl (fun c68 => ?_) (fun c68 => ?_)
  · replace hf := ite_t c68 hf
    refine r_iinc C (q := 120) (lv' := [(2, vI (v2 + 1)), (0, .ref ((xW G).h 8)), (1, .ref ((xW G).h 2)), (3, vI v3)]) 2 d_Bundles_gather_117 rfl (by decide) rfl rfl ?_
    refine r_goto C (q := 51) d_Bundles_gather_120 (by decide) ?_
    exact r_sub [1, 2, 0] rfl (hk51 _ _  hf)
  · replace hf := ite_f c68 hf
    refine r_aload_n C (q := 72) 0 d_Bundles_gather_71 rfl rfl rfl ?_
    refine gxx_Bundles_numbers C (q := 75) fl_Bundles_9 d_Bundles_gather_72 rfl ?_
    refine r_iload_n C (q := 76) 2 d_Bundles_gather_75 rfl rfl rfl ?_
    obtain ⟨g76, hf⟩ := gd_s hf
    refine r_iald C (q := 77) 31 (Nat.le_of_ble_eq_true rfl) (fun _ => rfl) 0 rfl g76 (by decide) d_Bundles_gather_76 rfl ?_
    refine r_aload_n C (q := 78) 0 d_Bundles_gather_77 rfl rfl rfl ?_
    refine gxx_Bundles_numbers C (q := 81) fl_Bundles_9 d_Bundles_gather_78 rfl ?_
    refine r_iload_n C (q := 82) 3 d_Bundles_gather_81 rfl rfl rfl ?_
    obtain ⟨g82, hf⟩ := gd_s hf
    refine r_iald C (q := 83) 31 (Nat.le_of_ble_eq_true rfl) (fun _ => rfl) 0 rfl g82 (by decide) d_Bundles_gather_82 rfl ?_
    refine r_ic_eq C (t := 111) (q := 86) d_Bundles_gather_83 (by decide) rfl (fun c83 => ?_) (fun c83 => ?_)
    · replace hf := ite_t c83 hf
      exact r_sub [0, 1, 2, 3] rfl (s_x_Bundles_gather_111 C hk51 hk63 hf)
    · replace hf := ite_f c83 hf
      refine r_aload_n C (q := 87) 1 d_Bundles_gather_86 rfl rfl rfl ?_
      refine r_iload_n C (q := 88) 2 d_Bundles_gather_87 rfl rfl rfl ?_
      refine r_iload_n C (q := 89) 3 d_Bundles_gather_88 rfl rfl rfl ?_
      obtain ⟨r89, s89, hg89, hf⟩ := bd_s hf
      refine r_cVI C (q := 92) (As := [vI v2, vI v3]) (k0 := 2) (c_x_Pairs_areLinked C.i hg89) mt_Pairs_areLinked ml_Bundles_32 (Nat.le_of_ble_eq_true rfl) rfl rfl rfl rfl rfl rfl ⟨Nat.le_of_ble_eq_true rfl, Nat.le_of_ble_eq_true rfl⟩ rfl (Nat.le_of_ble_eq_true rfl) d_Bundles_gather_89 rfl ?_
      refine r_if_eq C (t := 111) (q := 95) d_Bundles_gather_92 (by decide) rfl (fun c92 => ?_) (fun c92 => ?_)
      · replace hf := ite_t c92 hf
        exact r_sub [0, 1, 2, 3] rfl (s_x_Bundles_gather_111 C hk51 hk63 hf)
      · replace hf := ite_f c92 hf
        refine r_aload_n C (q := 96) 0 d_Bundles_gather_95 rfl rfl rfl ?_
        refine r_aload_n C (q := 97) 0 d_Bundles_gather_96 rfl rfl rfl ?_
        refine gxx_Bundles_numbers C (q := 100) fl_Bundles_9 d_Bundles_gather_97 rfl ?_
        refine r_iload_n C (q := 101) 2 d_Bundles_gather_100 rfl rfl rfl ?_
        obtain ⟨g101, hf⟩ := gd_s hf
        refine r_iald C (q := 102) 31 (Nat.le_of_ble_eq_true rfl) (fun _ => rfl) 0 rfl g101 (by decide) d_Bundles_gather_101 rfl ?_
        refine r_aload_n C (q := 103) 0 d_Bundles_gather_102 rfl rfl rfl ?_
        refine gxx_Bundles_numbers C (q := 106) fl_Bundles_9 d_Bundles_gather_103 rfl ?_
        refine r_iload_n C (q := 107) 3 d_Bundles_gather_106 rfl rfl rfl ?_
        obtain ⟨g107, hf⟩ := gd_s hf
        refine r_iald C (q := 108) 31 (Nat.le_of_ble_eq_true rfl) (fun _ => rfl) 0 rfl g107 (by decide) d_Bundles_gather_107 rfl ?_
        obtain ⟨r108, s108, hg108, hf⟩ := bd_s hf
        refine r_cVV C (q := 111) (As := [vI (s89 31 v2), vI (s89 31 v3)]) (k0 := 8) (c_x_Bundles_join C.i hg108) mt_Bundles_join ml_Bundles_36 (Nat.le_of_ble_eq_true rfl) rfl rfl rfl rfl rfl rfl ⟨Nat.le_of_ble_eq_true rfl, Nat.le_of_ble_eq_true rfl⟩ rfl (Nat.le_of_ble_eq_true rfl) d_Bundles_gather_108 rfl ?_
        exact r_sub [0, 1, 2, 3] rfl (s_x_Bundles_gather_111 C hk51 hk63 hf)
theorem s_x_Bundles_gather_51 {X : CxT} {l : Launch} {G : GG} (C : Cx X l (xW G) 4 prog_2_method_2_code "OneSelf$Bundles" (wo y_Bundles_gather prog_2_method_2_code 4 none) none rm_x_Bundles_gather) {o : Int × St} {N : Nat} {v2 : Int} {k51 : Int → St → MM} (hk51 : ∀ (u2 : Int) (s : St), k51 u2 s = some o → Rj X (xW G) 4 (qV X (xW G) o) 51 [(0, .ref ((xW G).h 8)), (1, .ref ((xW G).h 2)), (2, vI u2)] [] s) {s : St} (hf : x_Bundles_gather_51 N  k51 v2 s = some o) : Rj X (xW G) 4 (qV X (xW G) o) 51 [(0, .ref ((xW G).h 8)), (1, .ref ((xW G).h 2)), (2, vI v2)] [] s := by
  unfold x_Bundles_gather_51 at hf
  refine r_iload_n C (q := 52) 2 d_Bundles_gather_51 rfl rfl rfl ?_
  refine r_aload_n C (q := 53) 0 d_Bundles_gather_52 rfl rfl rfl ?_
  refine gxx_Bundles_many C (q := 56) fl_Bundles_27 d_Bundles_gather_53 rfl ?_
  refine r_ic_ge C (t := 123) (q := 59) d_Bundles_gather_56 (by decide) rfl (fun c56 => ?_) (fun c56 => ?_)
  · replace hf := ite_t c56 hf
    exact r_return C hf d_Bundles_gather_123
  · replace hf := ite_f c56 hf
    refine r_iload_n C (q := 60) 2 d_Bundles_gather_59 rfl rfl rfl ?_
    refine r_iconst C (q := 61) d_Bundles_gather_60 rfl ?_
    refine r_iadd C (q := 62) d_Bundles_gather_61 rfl ?_
    refine r_istore_n C (q := 63) (lv' := [(3, vI (v2 + 1)), (0, .ref ((xW G).h 8)), (1, .ref ((xW G).h 2)), (2, vI v2)]) d_Bundles_gather_62 rfl (by decide) rfl rfl ?_
    have hL : ∀ (u3 : Int) (z : St), itr (x_Bundles_gather_63 N k51 v2) (fun _ _ => none) N u3 z = some o → Rj X (xW G) 4 (qV X (xW G) o) 63 [(0, .ref ((xW G).h 8)), (1, .ref ((xW G).h 2)), (2, vI v2), (3, vI u3)] [] z := itr_ind (x_Bundles_gather_63 N k51 v2) (fun _ _ => none) (fun k => ∀ (u3 : Int) (z : St), k u3 z = some o → Rj X (xW G) 4 (qV X (xW G) o) 63 [(0, .ref ((xW G).h 8)), (1, .ref ((xW G).h 2)), (2, vI v2), (3, vI u3)] [] z) (fun _ _  h => by cases h) (fun k hk u3 z h => s_x_Bundles_gather_63 C hk51 hk h) N
    exact r_sub [1, 2, 3, 0] rfl (hL _ _  hf)
theorem s_x_Bundles_gather_13 {X : CxT} {l : Launch} {G : GG} (C : Cx X l (xW G) 4 prog_2_method_2_code "OneSelf$Bundles" (wo y_Bundles_gather prog_2_method_2_code 4 none) none rm_x_Bundles_gather) {o : Int × St} {N : Nat} {v2 : Int} {k13 : Int → St → MM} (hk13 : ∀ (u2 : Int) (s : St), k13 u2 s = some o → Rj X (xW G) 4 (qV X (xW G) o) 13 [(0, .ref ((xW G).h 8)), (1, .ref ((xW G).h 2)), (2, vI u2)] [] s) {s : St} (hf : x_Bundles_gather_13 N  k13 v2 s = some o) : Rj X (xW G) 4 (qV X (xW G) o) 13 [(0, .ref ((xW G).h 8)), (1, .ref ((xW G).h 2)), (2, vI v2)] [] s := by
  unfold x_Bundles_gather_13 at hf
  refine r_iload_n C (q := 14) 2 d_Bundles_gather_13 rfl rfl rfl ?_
  refine r_aload_n C (q := 15) 0 d_Bundles_gather_14 rfl rfl rfl ?_
  refine gxx_Bundles_many C (q := 18) fl_Bundles_27 d_Bundles_gather_15 rfl ?_
  refine r_ic_ge C (t := 49) (q := 21) d_Bundles_gather_18 (by decide) rfl (fun c18 => ?_) (fun c18 => ?_)
  · replace hf := ite_t c18 hf
    refine r_iconst C (q := 50) d_Bundles_gather_49 rfl ?_
    refine r_istore_n C (q := 51) (lv' := [(2, vI 0), (0, .ref ((xW G).h 8)), (1, .ref ((xW G).h 2))]) d_Bundles_gather_50 rfl (by decide) rfl rfl ?_
    have hL : ∀ (u2 : Int) (z : St), itr (x_Bundles_gather_51 N ) (fun _ _ => none) N u2 z = some o → Rj X (xW G) 4 (qV X (xW G) o) 51 [(0, .ref ((xW G).h 8)), (1, .ref ((xW G).h 2)), (2, vI u2)] [] z := itr_ind (x_Bundles_gather_51 N ) (fun _ _ => none) (fun k => ∀ (u2 : Int) (z : St), k u2 z = some o → Rj X (xW G) 4 (qV X (xW G) o) 51 [(0, .ref ((xW G).h 8)), (1, .ref ((xW G).h 2)), (2, vI u2)] [] z) (fun _ _  h => by cases h) (fun k hk u2 z h => s_x_Bundles_gather_51 C hk h) N
    exact r_sub [1, 2, 0] rfl (hL _ _  hf)
  · replace hf := ite_f c18 hf
    refine r_aload_n C (q := 22) 0 d_Bundles_gather_21 rfl rfl rfl ?_
    refine gxx_Bundles_numbers C (q := 25) fl_Bundles_9 d_Bundles_gather_22 rfl ?_
    refine r_iload_n C (q := 26) 2 d_Bundles_gather_25 rfl rfl rfl ?_
    refine r_aload_n C (q := 27) 1 d_Bundles_gather_26 rfl rfl rfl ?_
    refine gnx_Pairs_rows C (q := 30) fn_Bundles_15 d_Bundles_gather_27 rfl ?_
    refine r_iload_n C (q := 31) 2 d_Bundles_gather_30 rfl rfl rfl ?_
    obtain ⟨r31, s31, hg31, hf⟩ := bd_s hf
    refine r_cVI C (q := 34) (As := [vI v2]) (k0 := 3) (c_x_Rows_isKnown C.i hg31) mt_Rows_isKnown ml_Bundles_28 (Nat.le_of_ble_eq_true rfl) rfl rfl rfl rfl rfl rfl ⟨Nat.le_of_ble_eq_true rfl, Nat.le_of_ble_eq_true rfl⟩ rfl (Nat.le_of_ble_eq_true rfl) d_Bundles_gather_31 rfl ?_
    refine r_if_eq C (t := 41) (q := 37) d_Bundles_gather_34 (by decide) rfl (fun c34 => ?_) (fun c34 => ?_)
    · replace hf := ite_t c34 hf
      refine r_iconst C (q := 42) d_Bundles_gather_41 rfl ?_
      exact r_sub [0, 1, 2] rfl (s_x_Bundles_gather_42 C hk13 hf)
    · replace hf := ite_f c34 hf
      refine r_iload_n C (q := 38) 2 d_Bundles_gather_37 rfl rfl rfl ?_
      refine r_goto C (q := 42) d_Bundles_gather_38 (by decide) ?_
      exact r_sub [0, 1, 2] rfl (s_x_Bundles_gather_42 C hk13 hf)
theorem c_x_Bundles_gather {l : Launch} {G : GG} (hi : wo_i (xW G)) {N : Nat} {s : St} {o : Int × St} (hf : x_Bundles_gather N s = some o) : CtV l (xW G) y_Bundles_gather (wo y_Bundles_gather prog_2_method_2_code 4 none) rm_x_Bundles_gather [.ref ((xW G).h 8), .ref ((xW G).h 2)] s o := by
  refine ct_V (by decide +kernel) hi (Nat.le_of_ble_eq_true rfl) fun X C => ?_
  unfold x_Bundles_gather at hf
  show Rj X (xW G) 4 (qV X (xW G) o) 0 [(0, .ref ((xW G).h 8)), (1, .ref ((xW G).h 2))] [] s
  refine r_aload_n C (q := 1) 0 d_Bundles_gather_0 rfl rfl rfl ?_
  refine r_aload_n C (q := 2) 1 d_Bundles_gather_1 rfl rfl rfl ?_
  refine gnx_Pairs_rows C (q := 5) fn_Bundles_15 d_Bundles_gather_2 rfl ?_
  refine gnx_Rows_many C (q := 8) fn_Bundles_21 d_Bundles_gather_5 rfl ?_
  refine pxx_Bundles_many C (q := 11) fl_Bundles_27 d_Bundles_gather_8 rfl ?_
  refine r_iconst C (q := 12) d_Bundles_gather_11 rfl ?_
  refine r_istore_n C (q := 13) (lv' := [(2, vI 0), (0, .ref ((xW G).h 8)), (1, .ref ((xW G).h 2))]) d_Bundles_gather_12 rfl (by decide) rfl rfl ?_
  have hL : ∀ (u2 : Int) (z : St), itr (x_Bundles_gather_13 N ) (fun _ _ => none) N u2 z = some o → Rj X (xW G) 4 (qV X (xW G) o) 13 [(0, .ref ((xW G).h 8)), (1, .ref ((xW G).h 2)), (2, vI u2)] [] z := itr_ind (x_Bundles_gather_13 N ) (fun _ _ => none) (fun k => ∀ (u2 : Int) (z : St), k u2 z = some o → Rj X (xW G) 4 (qV X (xW G) o) 13 [(0, .ref ((xW G).h 8)), (1, .ref ((xW G).h 2)), (2, vI u2)] [] z) (fun _ _  h => by cases h) (fun k hk u2 z h => s_x_Bundles_gather_13 C hk h) N
  exact r_sub [1, 2, 0] rfl (hL _ _  hf)
