def kSheetsC (G : GG) : Nat → (Int → Int) → va_E := fun k f => match k with
  | 0 => .inr (1, [.ref (G.1 1), .ref (G.1 2), .ref (G.1 3), vI (f 3)])
  | 1 => .inl (G.2.2.1, 4, .inl (fun j : Nat => Int32.ofInt (f j)))
  | 2 => .inl (G.2.2.1, 4, .inl (fun j : Nat => Int32.ofInt (f j)))
  | _ => .inl (G.2.2.1, 160, .inl (fun j : Nat => Int32.ofInt (f j)))
def kSheetsW (G : GG) : WoT := (4, G.1, kSheetsC G, G.2.1, cls_, [(G.2.2.1, .int), (G.2.2.2.1, .long), (G.2.2.2.2, .boolean)])
def kPairsC (G : GG) : Nat → (Int → Int) → va_E := fun k f => match k with
  | _ => .inr (2, [.null, .null, .null, .null])
def kPairsW (G : GG) : WoT := (1, G.1, kPairsC G, G.2.1, cls_, [(G.2.2.1, .int), (G.2.2.2.1, .long), (G.2.2.2.2, .boolean)])
def kRowsC (G : GG) : Nat → (Int → Int) → va_E := fun k f => match k with
  | 0 => .inr (3, [.ref (G.1 1), .ref (G.1 2), vI (f 2), vI (f 3), vI (f 4)])
  | 1 => .inl (G.2.2.1, 252, .inl (fun j : Nat => Int32.ofInt (f j)))
  | _ => .inl (G.2.2.1, 360, .inl (fun j : Nat => Int32.ofInt (f j)))
def kRowsW (G : GG) : WoT := (3, G.1, kRowsC G, G.2.1, cls_, [(G.2.2.1, .int), (G.2.2.2.1, .long), (G.2.2.2.2, .boolean)])
def kSlipsC (G : GG) : Nat → (Int → Int) → va_E := fun k f => match k with
  | 0 => .inr (4, [.ref (G.1 1), .ref (G.1 2)])
  | 1 => .inl (G.2.2.1, 1296, .inl (fun j : Nat => Int32.ofInt (f j)))
  | _ => .inl (G.2.2.1, 121, .inl (fun j : Nat => Int32.ofInt (f j)))
def kSlipsW (G : GG) : WoT := (3, G.1, kSlipsC G, G.2.1, cls_, [(G.2.2.1, .int), (G.2.2.2.1, .long), (G.2.2.2.2, .boolean)])
def kSoundsC (G : GG) : Nat → (Int → Int) → va_E := fun k f => match k with
  | 0 => .inr (5, [.ref (G.1 1), .ref (G.1 2), .ref (G.1 3), .ref (G.1 4), vI (f 4), vI (f 5)])
  | 1 => .inl (G.2.2.1, 80, .inl (fun j : Nat => Int32.ofInt (f j)))
  | 2 => .inl (G.2.2.1, 26, .inl (fun j : Nat => Int32.ofInt (f j)))
  | 3 => .inl (G.2.2.1, 360, .inl (fun j : Nat => Int32.ofInt (f j)))
  | _ => .inl (G.2.2.1, 36, .inl (fun j : Nat => Int32.ofInt (f j)))
def kSoundsW (G : GG) : WoT := (5, G.1, kSoundsC G, G.2.1, cls_, [(G.2.2.1, .int), (G.2.2.2.1, .long), (G.2.2.2.2, .boolean)])
def kWeightsC (G : GG) : Nat → (Int → Int) → va_E := fun k f => match k with
  | 0 => .inr (6, [.ref (G.1 1), .ref (G.1 2), .ref (G.1 3), .ref (G.1 4), vI (f 4)])
  | 1 => .inl (G.2.2.1, 64, .inl (fun j : Nat => Int32.ofInt (f j)))
  | 2 => .inl (G.2.2.1, 16, .inl (fun j : Nat => Int32.ofInt (f j)))
  | 3 => .inl (G.2.2.1, 16, .inl (fun j : Nat => Int32.ofInt (f j)))
  | _ => .inl (G.2.2.1, 16, .inl (fun j : Nat => Int32.ofInt (f j)))
def kWeightsW (G : GG) : WoT := (5, G.1, kWeightsC G, G.2.1, cls_, [(G.2.2.1, .int), (G.2.2.2.1, .long), (G.2.2.2.2, .boolean)])
def kLayingC (G : GG) : Nat → (Int → Int) → va_E := fun k f => match k with
  | 0 => .inr (7, [.ref (G.1 1), .ref (G.1 2), .ref (G.1 3), .ref (G.1 4), vI (f 4), vI (f 5), vJ (f 6)])
  | 1 => .inl (G.2.2.1, 10, .inl (fun j : Nat => Int32.ofInt (f j)))
  | 2 => .inl (G.2.2.1, 10, .inl (fun j : Nat => Int32.ofInt (f j)))
  | 3 => .inl (G.2.2.2.1, 10, .inr (.inl (fun j : Nat => Int64.ofInt (f j))))
  | _ => .inl (G.2.2.2.1, 1024, .inr (.inl (fun j : Nat => Int64.ofInt (f j))))
def kLayingW (G : GG) : WoT := (5, G.1, kLayingC G, G.2.1, cls_, [(G.2.2.1, .int), (G.2.2.2.1, .long), (G.2.2.2.2, .boolean)])
def kBundlesC (G : GG) : Nat → (Int → Int) → va_E := fun k f => match k with
  | 0 => .inr (8, [.ref (G.1 1), vI (f 1)])
  | _ => .inl (G.2.2.1, 36, .inl (fun j : Nat => Int32.ofInt (f j)))
def kBundlesW (G : GG) : WoT := (2, G.1, kBundlesC G, G.2.1, cls_, [(G.2.2.1, .int), (G.2.2.2.1, .long), (G.2.2.2.2, .boolean)])
def kCutC (G : GG) : Nat → (Int → Int) → va_E := fun k f => match k with
  | 0 => .inr (9, [.ref (G.1 1), .ref (G.1 2), .ref (G.1 3), .ref (G.1 4), vI (f 4)])
  | 1 => .inl (G.2.2.1, 12, .inl (fun j : Nat => Int32.ofInt (f j)))
  | 2 => .inl (G.2.2.1, 144, .inl (fun j : Nat => Int32.ofInt (f j)))
  | 3 => .inl (G.2.2.1, 12, .inl (fun j : Nat => Int32.ofInt (f j)))
  | _ => .inl (G.2.2.1, 12, .inl (fun j : Nat => Int32.ofInt (f j)))
def kCutW (G : GG) : WoT := (5, G.1, kCutC G, G.2.1, cls_, [(G.2.2.1, .int), (G.2.2.2.1, .long), (G.2.2.2.2, .boolean)])
def kChecksC (G : GG) : Nat → (Int → Int) → va_E := fun k f => match k with
  | 0 => .inr (10, [.ref (G.1 1), .ref (G.1 2), .ref (G.1 3), vI (f 3)])
  | 1 => .inl (G.2.2.1, 40, .inl (fun j : Nat => Int32.ofInt (f j)))
  | 2 => .inl (G.2.2.1, 40, .inl (fun j : Nat => Int32.ofInt (f j)))
  | _ => .inl (G.2.2.2.2, 40, .inl (fun j : Nat => Int32.ofInt (f j)))
def kChecksW (G : GG) : WoT := (4, G.1, kChecksC G, G.2.1, cls_, [(G.2.2.1, .int), (G.2.2.2.1, .long), (G.2.2.2.2, .boolean)])
def kKeysC (G : GG) : Nat → (Int → Int) → va_E := fun k f => match k with
  | 0 => .inr (11, [.ref (G.1 1), .ref (G.1 2)])
  | 1 => .inl (G.2.2.1, 64, .inl (fun j : Nat => Int32.ofInt (f j)))
  | _ => .inl (G.2.2.2.2, 64, .inl (fun j : Nat => Int32.ofInt (f j)))
def kKeysW (G : GG) : WoT := (3, G.1, kKeysC G, G.2.1, cls_, [(G.2.2.1, .int), (G.2.2.2.1, .long), (G.2.2.2.2, .boolean)])
theorem ar_I : Cond.arrayClass .int ∈ tb_g := (tb_at (i := 49) (by decide +kernel))
theorem ar_J : Cond.arrayClass .long ∈ tb_g := (tb_at (i := 211) (by decide +kernel))
theorem ar_Z : Cond.arrayClass .boolean ∈ tb_g := (tb_at (i := 271) (by decide +kernel))
theorem ob_f : Cond.instanceMethod Lib.objectInit ∈ tb_g ∧ Cond.code Lib.objectInit ⟨#[0xb1]⟩ 1 none ∈ tb_g := ⟨(tb_at (i := 24) (by decide +kernel)), (tb_at (i := 25) (by decide +kernel))⟩
def y_Sheets_init : MethodName := ⟨"OneSelf$Sheets", "<init>", "()V"⟩
theorem d_Sheets_init_0 : decode prog_9_method_1_code 0 = .ok (.aload_n 0, 1) := by decide +kernel
theorem d_Sheets_init_1 : decode prog_9_method_1_code 1 = .ok (.invokespecial 3, 3) := by decide +kernel
theorem d_Sheets_init_4 : decode prog_9_method_1_code 4 = .ok (.aload_n 0, 1) := by decide +kernel
theorem d_Sheets_init_5 : decode prog_9_method_1_code 5 = .ok (.iconst 4, 1) := by decide +kernel
theorem d_Sheets_init_6 : decode prog_9_method_1_code 6 = .ok (.newarray .int, 2) := by decide +kernel
theorem d_Sheets_init_8 : decode prog_9_method_1_code 8 = .ok (.putfield 11, 3) := by decide +kernel
theorem d_Sheets_init_11 : decode prog_9_method_1_code 11 = .ok (.aload_n 0, 1) := by decide +kernel
theorem d_Sheets_init_12 : decode prog_9_method_1_code 12 = .ok (.iconst 4, 1) := by decide +kernel
theorem d_Sheets_init_13 : decode prog_9_method_1_code 13 = .ok (.newarray .int, 2) := by decide +kernel
theorem d_Sheets_init_15 : decode prog_9_method_1_code 15 = .ok (.putfield 15, 3) := by decide +kernel
theorem d_Sheets_init_18 : decode prog_9_method_1_code 18 = .ok (.aload_n 0, 1) := by decide +kernel
theorem d_Sheets_init_19 : decode prog_9_method_1_code 19 = .ok (.sipush 160, 3) := by decide +kernel
theorem d_Sheets_init_22 : decode prog_9_method_1_code 22 = .ok (.newarray .int, 2) := by decide +kernel
theorem d_Sheets_init_24 : decode prog_9_method_1_code 24 = .ok (.putfield 18, 3) := by decide +kernel
theorem d_Sheets_init_27 : decode prog_9_method_1_code 27 = .ok (.aload_n 0, 1) := by decide +kernel
theorem d_Sheets_init_28 : decode prog_9_method_1_code 28 = .ok (.getfield 11, 3) := by decide +kernel
theorem gxkSheets_Sheets_types {X : CxT} {l : Launch} {G : GG} {nL : Nat} {cc : ByteArray} {own : String} {Ts : List Cond} {ret : Option FieldType} {rm : Room} {Q : State → Prop} {pc q ix : Nat} {lv : List (Nat × Value)} {st : List Value} {σ : St} (C : Cx X l (kSheetsW G) nL cc own Ts ret rm) (hlk : Cond.fieldLink own ix "OneSelf$Sheets" "types" "[I" ∈ tb_g) (hd : decode cc pc = .ok (.getfield ix, 3)) (hq : pc + 3 = q) (kk : Rj X (kSheetsW G) nL Q q lv (.ref ((kSheetsW G).h 1) :: st) σ) : Rj X (kSheetsW G) nL Q pc lv (.ref ((kSheetsW G).h 0) :: st) σ := r_get C 0 (Nat.le_of_ble_eq_true rfl) rfl rfl in_Sheets 0 (by decide) hlk rfl hd hq kk
theorem d_Sheets_init_31 : decode prog_9_method_1_code 31 = .ok (.iconst (-1), 1) := by decide +kernel
theorem d_Sheets_init_32 : decode prog_9_method_1_code 32 = .ok (.invokestatic 21, 3) := by decide +kernel
theorem ml_Sheets_21 : Cond.methodLink "OneSelf$Sheets" 21 y_Arrays_fill_IIV ∈ tb_g := (tb_at (i := 32) (by decide +kernel))
theorem d_Sheets_init_35 : decode prog_9_method_1_code 35 = .ok (.return_, 1) := by decide +kernel
def y_Rows_init : MethodName := ⟨"OneSelf$Rows", "<init>", "()V"⟩
theorem d_Rows_init_0 : decode prog_8_method_1_code 0 = .ok (.aload_n 0, 1) := by decide +kernel
theorem d_Rows_init_1 : decode prog_8_method_1_code 1 = .ok (.invokespecial 3, 3) := by decide +kernel
theorem d_Rows_init_4 : decode prog_8_method_1_code 4 = .ok (.aload_n 0, 1) := by decide +kernel
theorem d_Rows_init_5 : decode prog_8_method_1_code 5 = .ok (.sipush 252, 3) := by decide +kernel
theorem d_Rows_init_8 : decode prog_8_method_1_code 8 = .ok (.newarray .int, 2) := by decide +kernel
theorem d_Rows_init_10 : decode prog_8_method_1_code 10 = .ok (.putfield 9, 3) := by decide +kernel
theorem d_Rows_init_13 : decode prog_8_method_1_code 13 = .ok (.aload_n 0, 1) := by decide +kernel
theorem d_Rows_init_14 : decode prog_8_method_1_code 14 = .ok (.sipush 360, 3) := by decide +kernel
theorem d_Rows_init_17 : decode prog_8_method_1_code 17 = .ok (.newarray .int, 2) := by decide +kernel
theorem d_Rows_init_19 : decode prog_8_method_1_code 19 = .ok (.putfield 15, 3) := by decide +kernel
theorem d_Rows_init_22 : decode prog_8_method_1_code 22 = .ok (.aload_n 0, 1) := by decide +kernel
theorem d_Rows_init_23 : decode prog_8_method_1_code 23 = .ok (.iconst (-1), 1) := by decide +kernel
theorem d_Rows_init_24 : decode prog_8_method_1_code 24 = .ok (.putfield 18, 3) := by decide +kernel
theorem d_Rows_init_27 : decode prog_8_method_1_code 27 = .ok (.return_, 1) := by decide +kernel
def y_Slips_init : MethodName := ⟨"OneSelf$Slips", "<init>", "()V"⟩
theorem d_Slips_init_0 : decode prog_10_method_1_code 0 = .ok (.aload_n 0, 1) := by decide +kernel
theorem d_Slips_init_1 : decode prog_10_method_1_code 1 = .ok (.invokespecial 3, 3) := by decide +kernel
theorem d_Slips_init_4 : decode prog_10_method_1_code 4 = .ok (.aload_n 0, 1) := by decide +kernel
theorem d_Slips_init_5 : decode prog_10_method_1_code 5 = .ok (.sipush 1296, 3) := by decide +kernel
theorem d_Slips_init_8 : decode prog_10_method_1_code 8 = .ok (.newarray .int, 2) := by decide +kernel
theorem d_Slips_init_10 : decode prog_10_method_1_code 10 = .ok (.putfield 9, 3) := by decide +kernel
theorem d_Slips_init_13 : decode prog_10_method_1_code 13 = .ok (.aload_n 0, 1) := by decide +kernel
theorem d_Slips_init_14 : decode prog_10_method_1_code 14 = .ok (.bipush 121, 2) := by decide +kernel
theorem d_Slips_init_16 : decode prog_10_method_1_code 16 = .ok (.newarray .int, 2) := by decide +kernel
theorem d_Slips_init_18 : decode prog_10_method_1_code 18 = .ok (.putfield 15, 3) := by decide +kernel
theorem d_Slips_init_21 : decode prog_10_method_1_code 21 = .ok (.return_, 1) := by decide +kernel
def y_Sounds_init : MethodName := ⟨"OneSelf$Sounds", "<init>", "()V"⟩
theorem d_Sounds_init_0 : decode prog_11_method_1_code 0 = .ok (.aload_n 0, 1) := by decide +kernel
theorem d_Sounds_init_1 : decode prog_11_method_1_code 1 = .ok (.invokespecial 3, 3) := by decide +kernel
theorem d_Sounds_init_4 : decode prog_11_method_1_code 4 = .ok (.aload_n 0, 1) := by decide +kernel
theorem d_Sounds_init_5 : decode prog_11_method_1_code 5 = .ok (.bipush 80, 2) := by decide +kernel
theorem d_Sounds_init_7 : decode prog_11_method_1_code 7 = .ok (.newarray .int, 2) := by decide +kernel
theorem d_Sounds_init_9 : decode prog_11_method_1_code 9 = .ok (.putfield 11, 3) := by decide +kernel
theorem d_Sounds_init_12 : decode prog_11_method_1_code 12 = .ok (.aload_n 0, 1) := by decide +kernel
theorem d_Sounds_init_13 : decode prog_11_method_1_code 13 = .ok (.bipush 26, 2) := by decide +kernel
theorem d_Sounds_init_15 : decode prog_11_method_1_code 15 = .ok (.newarray .int, 2) := by decide +kernel
theorem d_Sounds_init_17 : decode prog_11_method_1_code 17 = .ok (.putfield 15, 3) := by decide +kernel
theorem d_Sounds_init_20 : decode prog_11_method_1_code 20 = .ok (.aload_n 0, 1) := by decide +kernel
theorem d_Sounds_init_21 : decode prog_11_method_1_code 21 = .ok (.sipush 360, 3) := by decide +kernel
theorem d_Sounds_init_24 : decode prog_11_method_1_code 24 = .ok (.newarray .int, 2) := by decide +kernel
theorem d_Sounds_init_26 : decode prog_11_method_1_code 26 = .ok (.putfield 18, 3) := by decide +kernel
theorem d_Sounds_init_29 : decode prog_11_method_1_code 29 = .ok (.aload_n 0, 1) := by decide +kernel
theorem d_Sounds_init_30 : decode prog_11_method_1_code 30 = .ok (.bipush 36, 2) := by decide +kernel
theorem d_Sounds_init_32 : decode prog_11_method_1_code 32 = .ok (.newarray .int, 2) := by decide +kernel
theorem d_Sounds_init_34 : decode prog_11_method_1_code 34 = .ok (.putfield 21, 3) := by decide +kernel
theorem d_Sounds_init_37 : decode prog_11_method_1_code 37 = .ok (.aload_n 0, 1) := by decide +kernel
theorem d_Sounds_init_38 : decode prog_11_method_1_code 38 = .ok (.getfield 15, 3) := by decide +kernel
theorem gxkSounds_Sounds_figures {X : CxT} {l : Launch} {G : GG} {nL : Nat} {cc : ByteArray} {own : String} {Ts : List Cond} {ret : Option FieldType} {rm : Room} {Q : State → Prop} {pc q ix : Nat} {lv : List (Nat × Value)} {st : List Value} {σ : St} (C : Cx X l (kSoundsW G) nL cc own Ts ret rm) (hlk : Cond.fieldLink own ix "OneSelf$Sounds" "figures" "[I" ∈ tb_g) (hd : decode cc pc = .ok (.getfield ix, 3)) (hq : pc + 3 = q) (kk : Rj X (kSoundsW G) nL Q q lv (.ref ((kSoundsW G).h 2) :: st) σ) : Rj X (kSoundsW G) nL Q pc lv (.ref ((kSoundsW G).h 0) :: st) σ := r_get C 0 (Nat.le_of_ble_eq_true rfl) rfl rfl in_Sounds 1 (by decide) hlk rfl hd hq kk
theorem d_Sounds_init_41 : decode prog_11_method_1_code 41 = .ok (.iconst (-1), 1) := by decide +kernel
theorem d_Sounds_init_42 : decode prog_11_method_1_code 42 = .ok (.invokestatic 24, 3) := by decide +kernel
theorem d_Sounds_init_45 : decode prog_11_method_1_code 45 = .ok (.return_, 1) := by decide +kernel
def y_Weights_init : MethodName := ⟨"OneSelf$Weights", "<init>", "()V"⟩
theorem d_Weights_init_0 : decode prog_12_method_1_code 0 = .ok (.aload_n 0, 1) := by decide +kernel
theorem d_Weights_init_1 : decode prog_12_method_1_code 1 = .ok (.invokespecial 3, 3) := by decide +kernel
theorem d_Weights_init_4 : decode prog_12_method_1_code 4 = .ok (.aload_n 0, 1) := by decide +kernel
theorem d_Weights_init_5 : decode prog_12_method_1_code 5 = .ok (.bipush 64, 2) := by decide +kernel
theorem d_Weights_init_7 : decode prog_12_method_1_code 7 = .ok (.newarray .int, 2) := by decide +kernel
theorem d_Weights_init_9 : decode prog_12_method_1_code 9 = .ok (.putfield 9, 3) := by decide +kernel
theorem d_Weights_init_12 : decode prog_12_method_1_code 12 = .ok (.aload_n 0, 1) := by decide +kernel
theorem d_Weights_init_13 : decode prog_12_method_1_code 13 = .ok (.bipush 16, 2) := by decide +kernel
theorem d_Weights_init_15 : decode prog_12_method_1_code 15 = .ok (.newarray .int, 2) := by decide +kernel
theorem d_Weights_init_17 : decode prog_12_method_1_code 17 = .ok (.putfield 15, 3) := by decide +kernel
theorem d_Weights_init_20 : decode prog_12_method_1_code 20 = .ok (.aload_n 0, 1) := by decide +kernel
theorem d_Weights_init_21 : decode prog_12_method_1_code 21 = .ok (.bipush 16, 2) := by decide +kernel
theorem d_Weights_init_23 : decode prog_12_method_1_code 23 = .ok (.newarray .int, 2) := by decide +kernel
theorem d_Weights_init_25 : decode prog_12_method_1_code 25 = .ok (.putfield 18, 3) := by decide +kernel
theorem d_Weights_init_28 : decode prog_12_method_1_code 28 = .ok (.aload_n 0, 1) := by decide +kernel
theorem d_Weights_init_29 : decode prog_12_method_1_code 29 = .ok (.bipush 16, 2) := by decide +kernel
theorem d_Weights_init_31 : decode prog_12_method_1_code 31 = .ok (.newarray .int, 2) := by decide +kernel
theorem d_Weights_init_33 : decode prog_12_method_1_code 33 = .ok (.putfield 21, 3) := by decide +kernel
theorem d_Weights_init_36 : decode prog_12_method_1_code 36 = .ok (.aload_n 0, 1) := by decide +kernel
theorem d_Weights_init_37 : decode prog_12_method_1_code 37 = .ok (.bipush 30, 2) := by decide +kernel
theorem d_Weights_init_39 : decode prog_12_method_1_code 39 = .ok (.putfield 24, 3) := by decide +kernel
theorem fl_Weights_24 : Cond.fieldLink "OneSelf$Weights" 24 "OneSelf$Weights" "line" "I" ∈ tb_g := (tb_at (i := 145) (by decide +kernel))
theorem d_Weights_init_42 : decode prog_12_method_1_code 42 = .ok (.aload_n 0, 1) := by decide +kernel
theorem d_Weights_init_43 : decode prog_12_method_1_code 43 = .ok (.getfield 9, 3) := by decide +kernel
theorem gxkWeights_Weights_ways {X : CxT} {l : Launch} {G : GG} {nL : Nat} {cc : ByteArray} {own : String} {Ts : List Cond} {ret : Option FieldType} {rm : Room} {Q : State → Prop} {pc q ix : Nat} {lv : List (Nat × Value)} {st : List Value} {σ : St} (C : Cx X l (kWeightsW G) nL cc own Ts ret rm) (hlk : Cond.fieldLink own ix "OneSelf$Weights" "ways" "[I" ∈ tb_g) (hd : decode cc pc = .ok (.getfield ix, 3)) (hq : pc + 3 = q) (kk : Rj X (kWeightsW G) nL Q q lv (.ref ((kWeightsW G).h 1) :: st) σ) : Rj X (kWeightsW G) nL Q pc lv (.ref ((kWeightsW G).h 0) :: st) σ := r_get C 0 (Nat.le_of_ble_eq_true rfl) rfl rfl in_Weights 0 (by decide) hlk rfl hd hq kk
theorem d_Weights_init_46 : decode prog_12_method_1_code 46 = .ok (.bipush 50, 2) := by decide +kernel
theorem d_Weights_init_48 : decode prog_12_method_1_code 48 = .ok (.invokestatic 28, 3) := by decide +kernel
theorem ml_Weights_28 : Cond.methodLink "OneSelf$Weights" 28 y_Arrays_fill_IIV ∈ tb_g := (tb_at (i := 134) (by decide +kernel))
theorem d_Weights_init_51 : decode prog_12_method_1_code 51 = .ok (.iconst 0, 1) := by decide +kernel
theorem d_Weights_init_52 : decode prog_12_method_1_code 52 = .ok (.istore_n 1, 1) := by decide +kernel
theorem d_Weights_init_53 : decode prog_12_method_1_code 53 = .ok (.iload_n 1, 1) := by decide +kernel
theorem d_Weights_init_54 : decode prog_12_method_1_code 54 = .ok (.iconst 4, 1) := by decide +kernel
theorem d_Weights_init_55 : decode prog_12_method_1_code 55 = .ok (.if_icmp .ge 67, 3) := by decide +kernel
theorem d_Weights_init_122 : decode prog_12_method_1_code 122 = .ok (.return_, 1) := by decide +kernel
theorem d_Weights_init_58 : decode prog_12_method_1_code 58 = .ok (.iconst 0, 1) := by decide +kernel
theorem d_Weights_init_59 : decode prog_12_method_1_code 59 = .ok (.istore_n 2, 1) := by decide +kernel
theorem d_Weights_init_60 : decode prog_12_method_1_code 60 = .ok (.iload_n 2, 1) := by decide +kernel
theorem d_Weights_init_61 : decode prog_12_method_1_code 61 = .ok (.iconst 4, 1) := by decide +kernel
theorem d_Weights_init_62 : decode prog_12_method_1_code 62 = .ok (.if_icmp .ge 54, 3) := by decide +kernel
theorem d_Weights_init_116 : decode prog_12_method_1_code 116 = .ok (.iinc 1 1, 3) := by decide +kernel
theorem d_Weights_init_119 : decode prog_12_method_1_code 119 = .ok (.goto (-66), 3) := by decide +kernel
theorem d_Weights_init_65 : decode prog_12_method_1_code 65 = .ok (.aload_n 0, 1) := by decide +kernel
theorem d_Weights_init_66 : decode prog_12_method_1_code 66 = .ok (.getfield 15, 3) := by decide +kernel
theorem gxkWeights_Weights_points {X : CxT} {l : Launch} {G : GG} {nL : Nat} {cc : ByteArray} {own : String} {Ts : List Cond} {ret : Option FieldType} {rm : Room} {Q : State → Prop} {pc q ix : Nat} {lv : List (Nat × Value)} {st : List Value} {σ : St} (C : Cx X l (kWeightsW G) nL cc own Ts ret rm) (hlk : Cond.fieldLink own ix "OneSelf$Weights" "points" "[I" ∈ tb_g) (hd : decode cc pc = .ok (.getfield ix, 3)) (hq : pc + 3 = q) (kk : Rj X (kWeightsW G) nL Q q lv (.ref ((kWeightsW G).h 2) :: st) σ) : Rj X (kWeightsW G) nL Q pc lv (.ref ((kWeightsW G).h 0) :: st) σ := r_get C 0 (Nat.le_of_ble_eq_true rfl) rfl rfl in_Weights 1 (by decide) hlk rfl hd hq kk
theorem d_Weights_init_69 : decode prog_12_method_1_code 69 = .ok (.iload_n 1, 1) := by decide +kernel
theorem d_Weights_init_70 : decode prog_12_method_1_code 70 = .ok (.iconst 4, 1) := by decide +kernel
theorem d_Weights_init_71 : decode prog_12_method_1_code 71 = .ok (.imul, 1) := by decide +kernel
theorem d_Weights_init_72 : decode prog_12_method_1_code 72 = .ok (.iload_n 2, 1) := by decide +kernel
theorem d_Weights_init_73 : decode prog_12_method_1_code 73 = .ok (.iadd, 1) := by decide +kernel
theorem d_Weights_init_74 : decode prog_12_method_1_code 74 = .ok (.getstatic 34, 3) := by decide +kernel
theorem fl_Weights_34 : Cond.fieldLink "OneSelf$Weights" 34 "OneSelf$Weights" "FIRST_POINTS" "[I" ∈ tb_g := (tb_at (i := 135) (by decide +kernel))
theorem d_Weights_init_77 : decode prog_12_method_1_code 77 = .ok (.iload_n 2, 1) := by decide +kernel
theorem d_Weights_init_78 : decode prog_12_method_1_code 78 = .ok (.iaload, 1) := by decide +kernel
theorem d_Weights_init_79 : decode prog_12_method_1_code 79 = .ok (.iastore, 1) := by decide +kernel
theorem d_Weights_init_80 : decode prog_12_method_1_code 80 = .ok (.aload_n 0, 1) := by decide +kernel
theorem d_Weights_init_81 : decode prog_12_method_1_code 81 = .ok (.getfield 18, 3) := by decide +kernel
theorem gxkWeights_Weights_chancesOfOne {X : CxT} {l : Launch} {G : GG} {nL : Nat} {cc : ByteArray} {own : String} {Ts : List Cond} {ret : Option FieldType} {rm : Room} {Q : State → Prop} {pc q ix : Nat} {lv : List (Nat × Value)} {st : List Value} {σ : St} (C : Cx X l (kWeightsW G) nL cc own Ts ret rm) (hlk : Cond.fieldLink own ix "OneSelf$Weights" "chancesOfOne" "[I" ∈ tb_g) (hd : decode cc pc = .ok (.getfield ix, 3)) (hq : pc + 3 = q) (kk : Rj X (kWeightsW G) nL Q q lv (.ref ((kWeightsW G).h 3) :: st) σ) : Rj X (kWeightsW G) nL Q pc lv (.ref ((kWeightsW G).h 0) :: st) σ := r_get C 0 (Nat.le_of_ble_eq_true rfl) rfl rfl in_Weights 2 (by decide) hlk rfl hd hq kk
theorem d_Weights_init_84 : decode prog_12_method_1_code 84 = .ok (.iload_n 1, 1) := by decide +kernel
theorem d_Weights_init_85 : decode prog_12_method_1_code 85 = .ok (.iconst 4, 1) := by decide +kernel
theorem d_Weights_init_86 : decode prog_12_method_1_code 86 = .ok (.imul, 1) := by decide +kernel
theorem d_Weights_init_87 : decode prog_12_method_1_code 87 = .ok (.iload_n 2, 1) := by decide +kernel
theorem d_Weights_init_88 : decode prog_12_method_1_code 88 = .ok (.iadd, 1) := by decide +kernel
theorem d_Weights_init_89 : decode prog_12_method_1_code 89 = .ok (.getstatic 37, 3) := by decide +kernel
theorem fl_Weights_37 : Cond.fieldLink "OneSelf$Weights" 37 "OneSelf$Weights" "FIRST_ONE" "[I" ∈ tb_g := (tb_at (i := 137) (by decide +kernel))
theorem d_Weights_init_92 : decode prog_12_method_1_code 92 = .ok (.iload_n 2, 1) := by decide +kernel
theorem d_Weights_init_93 : decode prog_12_method_1_code 93 = .ok (.iaload, 1) := by decide +kernel
theorem d_Weights_init_94 : decode prog_12_method_1_code 94 = .ok (.iastore, 1) := by decide +kernel
theorem d_Weights_init_95 : decode prog_12_method_1_code 95 = .ok (.aload_n 0, 1) := by decide +kernel
theorem d_Weights_init_96 : decode prog_12_method_1_code 96 = .ok (.getfield 21, 3) := by decide +kernel
theorem gxkWeights_Weights_chancesOfNot {X : CxT} {l : Launch} {G : GG} {nL : Nat} {cc : ByteArray} {own : String} {Ts : List Cond} {ret : Option FieldType} {rm : Room} {Q : State → Prop} {pc q ix : Nat} {lv : List (Nat × Value)} {st : List Value} {σ : St} (C : Cx X l (kWeightsW G) nL cc own Ts ret rm) (hlk : Cond.fieldLink own ix "OneSelf$Weights" "chancesOfNot" "[I" ∈ tb_g) (hd : decode cc pc = .ok (.getfield ix, 3)) (hq : pc + 3 = q) (kk : Rj X (kWeightsW G) nL Q q lv (.ref ((kWeightsW G).h 4) :: st) σ) : Rj X (kWeightsW G) nL Q pc lv (.ref ((kWeightsW G).h 0) :: st) σ := r_get C 0 (Nat.le_of_ble_eq_true rfl) rfl rfl in_Weights 3 (by decide) hlk rfl hd hq kk
theorem d_Weights_init_99 : decode prog_12_method_1_code 99 = .ok (.iload_n 1, 1) := by decide +kernel
theorem d_Weights_init_100 : decode prog_12_method_1_code 100 = .ok (.iconst 4, 1) := by decide +kernel
theorem d_Weights_init_101 : decode prog_12_method_1_code 101 = .ok (.imul, 1) := by decide +kernel
theorem d_Weights_init_102 : decode prog_12_method_1_code 102 = .ok (.iload_n 2, 1) := by decide +kernel
theorem d_Weights_init_103 : decode prog_12_method_1_code 103 = .ok (.iadd, 1) := by decide +kernel
theorem d_Weights_init_104 : decode prog_12_method_1_code 104 = .ok (.getstatic 40, 3) := by decide +kernel
theorem fl_Weights_40 : Cond.fieldLink "OneSelf$Weights" 40 "OneSelf$Weights" "FIRST_NOT_ONE" "[I" ∈ tb_g := (tb_at (i := 139) (by decide +kernel))
theorem d_Weights_init_107 : decode prog_12_method_1_code 107 = .ok (.iload_n 2, 1) := by decide +kernel
theorem d_Weights_init_108 : decode prog_12_method_1_code 108 = .ok (.iaload, 1) := by decide +kernel
theorem d_Weights_init_109 : decode prog_12_method_1_code 109 = .ok (.iastore, 1) := by decide +kernel
theorem d_Weights_init_110 : decode prog_12_method_1_code 110 = .ok (.iinc 2 1, 3) := by decide +kernel
theorem d_Weights_init_113 : decode prog_12_method_1_code 113 = .ok (.goto (-53), 3) := by decide +kernel
def y_Pairs_init : MethodName := ⟨"OneSelf$Pairs", "<init>", "()V"⟩
theorem d_Pairs_init_0 : decode prog_7_method_1_code 0 = .ok (.aload_n 0, 1) := by decide +kernel
theorem d_Pairs_init_1 : decode prog_7_method_1_code 1 = .ok (.invokespecial 3, 3) := by decide +kernel
theorem d_Pairs_init_4 : decode prog_7_method_1_code 4 = .ok (.aload_n 0, 1) := by decide +kernel
theorem d_Pairs_init_5 : decode prog_7_method_1_code 5 = .ok (.new 9, 3) := by decide +kernel
theorem d_Pairs_init_8 : decode prog_7_method_1_code 8 = .ok (.dup, 1) := by decide +kernel
theorem d_Pairs_init_9 : decode prog_7_method_1_code 9 = .ok (.invokespecial 11, 3) := by decide +kernel
theorem mn_Pairs_11 : ("OneSelf$Pairs", 11, y_Rows_init, "OneSelf") ∈ nw_m := by decide +kernel
theorem mk_Rows_init : Cond.code y_Rows_init prog_8_method_1_code 1 none ∈ tb_g ∧ Cond.initialized y_Rows_init.cls ∈ tb_g ∧ Cond.instanceMethod y_Rows_init ∈ tb_g ∧ y_Rows_init.name = "<init>" ∧ (y_Rows_init.cls ≠ "java/lang/invoke/MethodHandle" ∧ y_Rows_init.cls ≠ "java/lang/invoke/VarHandle" ∧ (parseMethodDescriptor y_Rows_init.desc).map (fun d => d.parameters.length) = some 0) := ⟨(tb_at (i := 60) (by decide +kernel)), (tb_at (i := 5) (by decide +kernel)), (tb_at (i := 59) (by decide +kernel)), rfl, by decide +kernel, by decide +kernel, by decide +kernel⟩
theorem d_Pairs_init_12 : decode prog_7_method_1_code 12 = .ok (.putfield 12, 3) := by decide +kernel
theorem d_Pairs_init_15 : decode prog_7_method_1_code 15 = .ok (.aload_n 0, 1) := by decide +kernel
theorem d_Pairs_init_16 : decode prog_7_method_1_code 16 = .ok (.new 18, 3) := by decide +kernel
theorem d_Pairs_init_19 : decode prog_7_method_1_code 19 = .ok (.dup, 1) := by decide +kernel
theorem d_Pairs_init_20 : decode prog_7_method_1_code 20 = .ok (.invokespecial 20, 3) := by decide +kernel
theorem mn_Pairs_20 : ("OneSelf$Pairs", 20, y_Slips_init, "OneSelf") ∈ nw_m := by decide +kernel
theorem mk_Slips_init : Cond.code y_Slips_init prog_10_method_1_code 1 none ∈ tb_g ∧ Cond.initialized y_Slips_init.cls ∈ tb_g ∧ Cond.instanceMethod y_Slips_init ∈ tb_g ∧ y_Slips_init.name = "<init>" ∧ (y_Slips_init.cls ≠ "java/lang/invoke/MethodHandle" ∧ y_Slips_init.cls ≠ "java/lang/invoke/VarHandle" ∧ (parseMethodDescriptor y_Slips_init.desc).map (fun d => d.parameters.length) = some 0) := ⟨(tb_at (i := 91) (by decide +kernel)), (tb_at (i := 6) (by decide +kernel)), (tb_at (i := 90) (by decide +kernel)), rfl, by decide +kernel, by decide +kernel, by decide +kernel⟩
theorem d_Pairs_init_23 : decode prog_7_method_1_code 23 = .ok (.putfield 21, 3) := by decide +kernel
theorem d_Pairs_init_26 : decode prog_7_method_1_code 26 = .ok (.aload_n 0, 1) := by decide +kernel
theorem d_Pairs_init_27 : decode prog_7_method_1_code 27 = .ok (.new 25, 3) := by decide +kernel
theorem d_Pairs_init_30 : decode prog_7_method_1_code 30 = .ok (.dup, 1) := by decide +kernel
theorem d_Pairs_init_31 : decode prog_7_method_1_code 31 = .ok (.invokespecial 27, 3) := by decide +kernel
theorem ml_Pairs_27 : Cond.methodLink "OneSelf$Pairs" 27 y_Sounds_init ∈ tb_g := (tb_at (i := 102) (by decide +kernel))
theorem mk_Sounds_init : Cond.code y_Sounds_init prog_11_method_1_code 1 none ∈ tb_g ∧ Cond.initialized y_Sounds_init.cls ∈ tb_g ∧ Cond.instanceMethod y_Sounds_init ∈ tb_g ∧ y_Sounds_init.name = "<init>" ∧ (y_Sounds_init.cls ≠ "java/lang/invoke/MethodHandle" ∧ y_Sounds_init.cls ≠ "java/lang/invoke/VarHandle" ∧ (parseMethodDescriptor y_Sounds_init.desc).map (fun d => d.parameters.length) = some 0) := ⟨(tb_at (i := 104) (by decide +kernel)), (tb_at (i := 7) (by decide +kernel)), (tb_at (i := 103) (by decide +kernel)), rfl, by decide +kernel, by decide +kernel, by decide +kernel⟩
theorem d_Pairs_init_34 : decode prog_7_method_1_code 34 = .ok (.putfield 28, 3) := by decide +kernel
theorem d_Pairs_init_37 : decode prog_7_method_1_code 37 = .ok (.aload_n 0, 1) := by decide +kernel
theorem d_Pairs_init_38 : decode prog_7_method_1_code 38 = .ok (.new 32, 3) := by decide +kernel
theorem d_Pairs_init_41 : decode prog_7_method_1_code 41 = .ok (.dup, 1) := by decide +kernel
theorem d_Pairs_init_42 : decode prog_7_method_1_code 42 = .ok (.invokespecial 34, 3) := by decide +kernel
theorem ml_Pairs_34 : Cond.methodLink "OneSelf$Pairs" 34 y_Weights_init ∈ tb_g := (tb_at (i := 130) (by decide +kernel))
theorem mk_Weights_init : Cond.code y_Weights_init prog_12_method_1_code 3 none ∈ tb_g ∧ Cond.initialized y_Weights_init.cls ∈ tb_g ∧ Cond.instanceMethod y_Weights_init ∈ tb_g ∧ y_Weights_init.name = "<init>" ∧ (y_Weights_init.cls ≠ "java/lang/invoke/MethodHandle" ∧ y_Weights_init.cls ≠ "java/lang/invoke/VarHandle" ∧ (parseMethodDescriptor y_Weights_init.desc).map (fun d => d.parameters.length) = some 0) := ⟨(tb_at (i := 132) (by decide +kernel)), (tb_at (i := 8) (by decide +kernel)), (tb_at (i := 131) (by decide +kernel)), rfl, by decide +kernel, by decide +kernel, by decide +kernel⟩
theorem d_Pairs_init_45 : decode prog_7_method_1_code 45 = .ok (.putfield 35, 3) := by decide +kernel
theorem d_Pairs_init_48 : decode prog_7_method_1_code 48 = .ok (.return_, 1) := by decide +kernel
def y_Laying_init : MethodName := ⟨"OneSelf$Laying", "<init>", "()V"⟩
theorem d_Laying_init_0 : decode prog_6_method_1_code 0 = .ok (.aload_n 0, 1) := by decide +kernel
theorem d_Laying_init_1 : decode prog_6_method_1_code 1 = .ok (.invokespecial 5, 3) := by decide +kernel
theorem d_Laying_init_4 : decode prog_6_method_1_code 4 = .ok (.aload_n 0, 1) := by decide +kernel
theorem d_Laying_init_5 : decode prog_6_method_1_code 5 = .ok (.bipush 10, 2) := by decide +kernel
theorem d_Laying_init_7 : decode prog_6_method_1_code 7 = .ok (.newarray .int, 2) := by decide +kernel
theorem d_Laying_init_9 : decode prog_6_method_1_code 9 = .ok (.putfield 11, 3) := by decide +kernel
theorem d_Laying_init_12 : decode prog_6_method_1_code 12 = .ok (.aload_n 0, 1) := by decide +kernel
theorem d_Laying_init_13 : decode prog_6_method_1_code 13 = .ok (.bipush 10, 2) := by decide +kernel
theorem d_Laying_init_15 : decode prog_6_method_1_code 15 = .ok (.newarray .int, 2) := by decide +kernel
theorem d_Laying_init_17 : decode prog_6_method_1_code 17 = .ok (.putfield 15, 3) := by decide +kernel
theorem d_Laying_init_20 : decode prog_6_method_1_code 20 = .ok (.aload_n 0, 1) := by decide +kernel
theorem d_Laying_init_21 : decode prog_6_method_1_code 21 = .ok (.bipush 10, 2) := by decide +kernel
theorem d_Laying_init_23 : decode prog_6_method_1_code 23 = .ok (.newarray .long, 2) := by decide +kernel
theorem d_Laying_init_25 : decode prog_6_method_1_code 25 = .ok (.putfield 18, 3) := by decide +kernel
theorem d_Laying_init_28 : decode prog_6_method_1_code 28 = .ok (.aload_n 0, 1) := by decide +kernel
theorem d_Laying_init_29 : decode prog_6_method_1_code 29 = .ok (.sipush 1024, 3) := by decide +kernel
theorem d_Laying_init_32 : decode prog_6_method_1_code 32 = .ok (.newarray .long, 2) := by decide +kernel
theorem d_Laying_init_34 : decode prog_6_method_1_code 34 = .ok (.putfield 22, 3) := by decide +kernel
theorem d_Laying_init_37 : decode prog_6_method_1_code 37 = .ok (.return_, 1) := by decide +kernel
def y_Bundles_init : MethodName := ⟨"OneSelf$Bundles", "<init>", "()V"⟩
theorem d_Bundles_init_0 : decode prog_2_method_1_code 0 = .ok (.aload_n 0, 1) := by decide +kernel
theorem d_Bundles_init_1 : decode prog_2_method_1_code 1 = .ok (.invokespecial 3, 3) := by decide +kernel
theorem d_Bundles_init_4 : decode prog_2_method_1_code 4 = .ok (.aload_n 0, 1) := by decide +kernel
theorem d_Bundles_init_5 : decode prog_2_method_1_code 5 = .ok (.bipush 36, 2) := by decide +kernel
theorem d_Bundles_init_7 : decode prog_2_method_1_code 7 = .ok (.newarray .int, 2) := by decide +kernel
theorem d_Bundles_init_9 : decode prog_2_method_1_code 9 = .ok (.putfield 9, 3) := by decide +kernel
theorem d_Bundles_init_12 : decode prog_2_method_1_code 12 = .ok (.return_, 1) := by decide +kernel
def y_Cut_init : MethodName := ⟨"OneSelf$Cut", "<init>", "()V"⟩
theorem d_Cut_init_0 : decode prog_4_method_1_code 0 = .ok (.aload_n 0, 1) := by decide +kernel
theorem d_Cut_init_1 : decode prog_4_method_1_code 1 = .ok (.invokespecial 3, 3) := by decide +kernel
theorem d_Cut_init_4 : decode prog_4_method_1_code 4 = .ok (.aload_n 0, 1) := by decide +kernel
theorem d_Cut_init_5 : decode prog_4_method_1_code 5 = .ok (.bipush 12, 2) := by decide +kernel
theorem d_Cut_init_7 : decode prog_4_method_1_code 7 = .ok (.newarray .int, 2) := by decide +kernel
theorem d_Cut_init_9 : decode prog_4_method_1_code 9 = .ok (.putfield 9, 3) := by decide +kernel
theorem d_Cut_init_12 : decode prog_4_method_1_code 12 = .ok (.aload_n 0, 1) := by decide +kernel
theorem d_Cut_init_13 : decode prog_4_method_1_code 13 = .ok (.sipush 144, 3) := by decide +kernel
theorem d_Cut_init_16 : decode prog_4_method_1_code 16 = .ok (.newarray .int, 2) := by decide +kernel
theorem d_Cut_init_18 : decode prog_4_method_1_code 18 = .ok (.putfield 15, 3) := by decide +kernel
theorem d_Cut_init_21 : decode prog_4_method_1_code 21 = .ok (.aload_n 0, 1) := by decide +kernel
theorem d_Cut_init_22 : decode prog_4_method_1_code 22 = .ok (.bipush 12, 2) := by decide +kernel
theorem d_Cut_init_24 : decode prog_4_method_1_code 24 = .ok (.newarray .int, 2) := by decide +kernel
theorem d_Cut_init_26 : decode prog_4_method_1_code 26 = .ok (.putfield 18, 3) := by decide +kernel
theorem d_Cut_init_29 : decode prog_4_method_1_code 29 = .ok (.aload_n 0, 1) := by decide +kernel
theorem d_Cut_init_30 : decode prog_4_method_1_code 30 = .ok (.bipush 12, 2) := by decide +kernel
theorem d_Cut_init_32 : decode prog_4_method_1_code 32 = .ok (.newarray .int, 2) := by decide +kernel
theorem d_Cut_init_34 : decode prog_4_method_1_code 34 = .ok (.putfield 21, 3) := by decide +kernel
theorem d_Cut_init_37 : decode prog_4_method_1_code 37 = .ok (.return_, 1) := by decide +kernel
def y_Checks_init : MethodName := ⟨"OneSelf$Checks", "<init>", "()V"⟩
theorem d_Checks_init_0 : decode prog_3_method_1_code 0 = .ok (.aload_n 0, 1) := by decide +kernel
theorem d_Checks_init_1 : decode prog_3_method_1_code 1 = .ok (.invokespecial 3, 3) := by decide +kernel
theorem d_Checks_init_4 : decode prog_3_method_1_code 4 = .ok (.aload_n 0, 1) := by decide +kernel
theorem d_Checks_init_5 : decode prog_3_method_1_code 5 = .ok (.bipush 40, 2) := by decide +kernel
theorem d_Checks_init_7 : decode prog_3_method_1_code 7 = .ok (.newarray .int, 2) := by decide +kernel
theorem d_Checks_init_9 : decode prog_3_method_1_code 9 = .ok (.putfield 9, 3) := by decide +kernel
theorem d_Checks_init_12 : decode prog_3_method_1_code 12 = .ok (.aload_n 0, 1) := by decide +kernel
theorem d_Checks_init_13 : decode prog_3_method_1_code 13 = .ok (.bipush 40, 2) := by decide +kernel
theorem d_Checks_init_15 : decode prog_3_method_1_code 15 = .ok (.newarray .int, 2) := by decide +kernel
theorem d_Checks_init_17 : decode prog_3_method_1_code 17 = .ok (.putfield 15, 3) := by decide +kernel
theorem d_Checks_init_20 : decode prog_3_method_1_code 20 = .ok (.aload_n 0, 1) := by decide +kernel
theorem d_Checks_init_21 : decode prog_3_method_1_code 21 = .ok (.bipush 40, 2) := by decide +kernel
theorem d_Checks_init_23 : decode prog_3_method_1_code 23 = .ok (.newarray .boolean, 2) := by decide +kernel
theorem d_Checks_init_25 : decode prog_3_method_1_code 25 = .ok (.putfield 18, 3) := by decide +kernel
theorem d_Checks_init_28 : decode prog_3_method_1_code 28 = .ok (.return_, 1) := by decide +kernel
def y_Keys_init : MethodName := ⟨"OneSelf$Keys", "<init>", "()V"⟩
theorem d_Keys_init_0 : decode prog_5_method_1_code 0 = .ok (.aload_n 0, 1) := by decide +kernel
theorem d_Keys_init_1 : decode prog_5_method_1_code 1 = .ok (.invokespecial 3, 3) := by decide +kernel
theorem d_Keys_init_4 : decode prog_5_method_1_code 4 = .ok (.aload_n 0, 1) := by decide +kernel
theorem d_Keys_init_5 : decode prog_5_method_1_code 5 = .ok (.bipush 64, 2) := by decide +kernel
theorem d_Keys_init_7 : decode prog_5_method_1_code 7 = .ok (.newarray .int, 2) := by decide +kernel
theorem d_Keys_init_9 : decode prog_5_method_1_code 9 = .ok (.putfield 9, 3) := by decide +kernel
theorem d_Keys_init_12 : decode prog_5_method_1_code 12 = .ok (.aload_n 0, 1) := by decide +kernel
theorem d_Keys_init_13 : decode prog_5_method_1_code 13 = .ok (.bipush 64, 2) := by decide +kernel
theorem d_Keys_init_15 : decode prog_5_method_1_code 15 = .ok (.newarray .boolean, 2) := by decide +kernel
theorem d_Keys_init_17 : decode prog_5_method_1_code 17 = .ok (.putfield 15, 3) := by decide +kernel
theorem d_Keys_init_20 : decode prog_5_method_1_code 20 = .ok (.return_, 1) := by decide +kernel
def y_O_init : MethodName := ⟨"OneSelf", "<init>", "()V"⟩
theorem d_O_init_0 : decode prog_1_method_1_code 0 = .ok (.aload_n 0, 1) := by decide +kernel
theorem d_O_init_1 : decode prog_1_method_1_code 1 = .ok (.invokespecial 1, 3) := by decide +kernel
theorem d_O_init_4 : decode prog_1_method_1_code 4 = .ok (.aload_n 0, 1) := by decide +kernel
theorem d_O_init_5 : decode prog_1_method_1_code 5 = .ok (.new 7, 3) := by decide +kernel
theorem d_O_init_8 : decode prog_1_method_1_code 8 = .ok (.dup, 1) := by decide +kernel
theorem d_O_init_9 : decode prog_1_method_1_code 9 = .ok (.invokespecial 9, 3) := by decide +kernel
theorem ml_O_9 : Cond.methodLink "OneSelf" 9 y_Sheets_init ∈ tb_g := (tb_at (i := 28) (by decide +kernel))
theorem mk_Sheets_init : Cond.code y_Sheets_init prog_9_method_1_code 1 none ∈ tb_g ∧ Cond.initialized y_Sheets_init.cls ∈ tb_g ∧ Cond.instanceMethod y_Sheets_init ∈ tb_g ∧ y_Sheets_init.name = "<init>" ∧ (y_Sheets_init.cls ≠ "java/lang/invoke/MethodHandle" ∧ y_Sheets_init.cls ≠ "java/lang/invoke/VarHandle" ∧ (parseMethodDescriptor y_Sheets_init.desc).map (fun d => d.parameters.length) = some 0) := ⟨(tb_at (i := 30) (by decide +kernel)), (tb_at (i := 2) (by decide +kernel)), (tb_at (i := 29) (by decide +kernel)), rfl, by decide +kernel, by decide +kernel, by decide +kernel⟩
theorem d_O_init_12 : decode prog_1_method_1_code 12 = .ok (.putfield 10, 3) := by decide +kernel
theorem d_O_init_15 : decode prog_1_method_1_code 15 = .ok (.aload_n 0, 1) := by decide +kernel
theorem d_O_init_16 : decode prog_1_method_1_code 16 = .ok (.new 16, 3) := by decide +kernel
theorem d_O_init_19 : decode prog_1_method_1_code 19 = .ok (.dup, 1) := by decide +kernel
theorem d_O_init_20 : decode prog_1_method_1_code 20 = .ok (.invokespecial 18, 3) := by decide +kernel
theorem ml_O_18 : Cond.methodLink "OneSelf" 18 y_Pairs_init ∈ tb_g := (tb_at (i := 52) (by decide +kernel))
theorem mk_Pairs_init : Cond.code y_Pairs_init prog_7_method_1_code 1 none ∈ tb_g ∧ Cond.initialized y_Pairs_init.cls ∈ tb_g ∧ Cond.instanceMethod y_Pairs_init ∈ tb_g ∧ y_Pairs_init.name = "<init>" ∧ (y_Pairs_init.cls ≠ "java/lang/invoke/MethodHandle" ∧ y_Pairs_init.cls ≠ "java/lang/invoke/VarHandle" ∧ (parseMethodDescriptor y_Pairs_init.desc).map (fun d => d.parameters.length) = some 0) := ⟨(tb_at (i := 54) (by decide +kernel)), (tb_at (i := 4) (by decide +kernel)), (tb_at (i := 53) (by decide +kernel)), rfl, by decide +kernel, by decide +kernel, by decide +kernel⟩
theorem d_O_init_23 : decode prog_1_method_1_code 23 = .ok (.putfield 19, 3) := by decide +kernel
theorem d_O_init_26 : decode prog_1_method_1_code 26 = .ok (.aload_n 0, 1) := by decide +kernel
theorem d_O_init_27 : decode prog_1_method_1_code 27 = .ok (.aload_n 0, 1) := by decide +kernel
theorem d_O_init_28 : decode prog_1_method_1_code 28 = .ok (.getfield 19, 3) := by decide +kernel
theorem d_O_init_31 : decode prog_1_method_1_code 31 = .ok (.getfield 23, 3) := by decide +kernel
theorem fn_O_23 : ("OneSelf", 23, "OneSelf$Pairs", "rows", "LOneSelf$Rows;", "OneSelf") ∈ nw_f := by decide +kernel
theorem d_O_init_34 : decode prog_1_method_1_code 34 = .ok (.putfield 27, 3) := by decide +kernel
theorem d_O_init_37 : decode prog_1_method_1_code 37 = .ok (.aload_n 0, 1) := by decide +kernel
theorem d_O_init_38 : decode prog_1_method_1_code 38 = .ok (.aload_n 0, 1) := by decide +kernel
theorem d_O_init_39 : decode prog_1_method_1_code 39 = .ok (.getfield 19, 3) := by decide +kernel
theorem d_O_init_42 : decode prog_1_method_1_code 42 = .ok (.getfield 28, 3) := by decide +kernel
theorem fn_O_28 : ("OneSelf", 28, "OneSelf$Pairs", "slips", "LOneSelf$Slips;", "OneSelf") ∈ nw_f := by decide +kernel
theorem d_O_init_45 : decode prog_1_method_1_code 45 = .ok (.putfield 32, 3) := by decide +kernel
theorem d_O_init_48 : decode prog_1_method_1_code 48 = .ok (.aload_n 0, 1) := by decide +kernel
theorem d_O_init_49 : decode prog_1_method_1_code 49 = .ok (.aload_n 0, 1) := by decide +kernel
theorem d_O_init_50 : decode prog_1_method_1_code 50 = .ok (.getfield 19, 3) := by decide +kernel
theorem d_O_init_53 : decode prog_1_method_1_code 53 = .ok (.getfield 33, 3) := by decide +kernel
theorem fn_O_33 : ("OneSelf", 33, "OneSelf$Pairs", "sounds", "LOneSelf$Sounds;", "OneSelf") ∈ nw_f := by decide +kernel
theorem d_O_init_56 : decode prog_1_method_1_code 56 = .ok (.putfield 37, 3) := by decide +kernel
theorem d_O_init_59 : decode prog_1_method_1_code 59 = .ok (.aload_n 0, 1) := by decide +kernel
theorem d_O_init_60 : decode prog_1_method_1_code 60 = .ok (.aload_n 0, 1) := by decide +kernel
theorem d_O_init_61 : decode prog_1_method_1_code 61 = .ok (.getfield 19, 3) := by decide +kernel
theorem d_O_init_64 : decode prog_1_method_1_code 64 = .ok (.getfield 38, 3) := by decide +kernel
theorem fn_O_38 : ("OneSelf", 38, "OneSelf$Pairs", "weights", "LOneSelf$Weights;", "OneSelf") ∈ nw_f := by decide +kernel
theorem d_O_init_67 : decode prog_1_method_1_code 67 = .ok (.putfield 42, 3) := by decide +kernel
theorem d_O_init_70 : decode prog_1_method_1_code 70 = .ok (.aload_n 0, 1) := by decide +kernel
theorem d_O_init_71 : decode prog_1_method_1_code 71 = .ok (.new 43, 3) := by decide +kernel
theorem d_O_init_74 : decode prog_1_method_1_code 74 = .ok (.dup, 1) := by decide +kernel
theorem d_O_init_75 : decode prog_1_method_1_code 75 = .ok (.invokespecial 45, 3) := by decide +kernel
theorem mn_O_45 : ("OneSelf", 45, y_Laying_init, "OneSelf") ∈ nw_m := by decide +kernel
theorem mk_Laying_init : Cond.code y_Laying_init prog_6_method_1_code 1 none ∈ tb_g ∧ Cond.initialized y_Laying_init.cls ∈ tb_g ∧ Cond.instanceMethod y_Laying_init ∈ tb_g ∧ y_Laying_init.name = "<init>" ∧ (y_Laying_init.cls ≠ "java/lang/invoke/MethodHandle" ∧ y_Laying_init.cls ≠ "java/lang/invoke/VarHandle" ∧ (parseMethodDescriptor y_Laying_init.desc).map (fun d => d.parameters.length) = some 0) := ⟨(tb_at (i := 187) (by decide +kernel)), (tb_at (i := 9) (by decide +kernel)), (tb_at (i := 186) (by decide +kernel)), rfl, by decide +kernel, by decide +kernel, by decide +kernel⟩
theorem d_O_init_78 : decode prog_1_method_1_code 78 = .ok (.putfield 46, 3) := by decide +kernel
theorem d_O_init_81 : decode prog_1_method_1_code 81 = .ok (.aload_n 0, 1) := by decide +kernel
theorem d_O_init_82 : decode prog_1_method_1_code 82 = .ok (.new 50, 3) := by decide +kernel
theorem d_O_init_85 : decode prog_1_method_1_code 85 = .ok (.dup, 1) := by decide +kernel
theorem d_O_init_86 : decode prog_1_method_1_code 86 = .ok (.invokespecial 52, 3) := by decide +kernel
theorem mn_O_52 : ("OneSelf", 52, y_Bundles_init, "OneSelf") ∈ nw_m := by decide +kernel
theorem mk_Bundles_init : Cond.code y_Bundles_init prog_2_method_1_code 1 none ∈ tb_g ∧ Cond.initialized y_Bundles_init.cls ∈ tb_g ∧ Cond.instanceMethod y_Bundles_init ∈ tb_g ∧ y_Bundles_init.name = "<init>" ∧ (y_Bundles_init.cls ≠ "java/lang/invoke/MethodHandle" ∧ y_Bundles_init.cls ≠ "java/lang/invoke/VarHandle" ∧ (parseMethodDescriptor y_Bundles_init.desc).map (fun d => d.parameters.length) = some 0) := ⟨(tb_at (i := 216) (by decide +kernel)), (tb_at (i := 10) (by decide +kernel)), (tb_at (i := 215) (by decide +kernel)), rfl, by decide +kernel, by decide +kernel, by decide +kernel⟩
theorem d_O_init_89 : decode prog_1_method_1_code 89 = .ok (.putfield 53, 3) := by decide +kernel
theorem d_O_init_92 : decode prog_1_method_1_code 92 = .ok (.aload_n 0, 1) := by decide +kernel
theorem d_O_init_93 : decode prog_1_method_1_code 93 = .ok (.new 57, 3) := by decide +kernel
theorem d_O_init_96 : decode prog_1_method_1_code 96 = .ok (.dup, 1) := by decide +kernel
theorem d_O_init_97 : decode prog_1_method_1_code 97 = .ok (.invokespecial 59, 3) := by decide +kernel
theorem mn_O_59 : ("OneSelf", 59, y_Cut_init, "OneSelf") ∈ nw_m := by decide +kernel
theorem mk_Cut_init : Cond.code y_Cut_init prog_4_method_1_code 1 none ∈ tb_g ∧ Cond.initialized y_Cut_init.cls ∈ tb_g ∧ Cond.instanceMethod y_Cut_init ∈ tb_g ∧ y_Cut_init.name = "<init>" ∧ (y_Cut_init.cls ≠ "java/lang/invoke/MethodHandle" ∧ y_Cut_init.cls ≠ "java/lang/invoke/VarHandle" ∧ (parseMethodDescriptor y_Cut_init.desc).map (fun d => d.parameters.length) = some 0) := ⟨(tb_at (i := 229) (by decide +kernel)), (tb_at (i := 11) (by decide +kernel)), (tb_at (i := 228) (by decide +kernel)), rfl, by decide +kernel, by decide +kernel, by decide +kernel⟩
theorem d_O_init_100 : decode prog_1_method_1_code 100 = .ok (.putfield 60, 3) := by decide +kernel
theorem d_O_init_103 : decode prog_1_method_1_code 103 = .ok (.aload_n 0, 1) := by decide +kernel
theorem d_O_init_104 : decode prog_1_method_1_code 104 = .ok (.new 64, 3) := by decide +kernel
theorem d_O_init_107 : decode prog_1_method_1_code 107 = .ok (.dup, 1) := by decide +kernel
theorem d_O_init_108 : decode prog_1_method_1_code 108 = .ok (.invokespecial 66, 3) := by decide +kernel
theorem mn_O_66 : ("OneSelf", 66, y_Checks_init, "OneSelf") ∈ nw_m := by decide +kernel
theorem mk_Checks_init : Cond.code y_Checks_init prog_3_method_1_code 1 none ∈ tb_g ∧ Cond.initialized y_Checks_init.cls ∈ tb_g ∧ Cond.instanceMethod y_Checks_init ∈ tb_g ∧ y_Checks_init.name = "<init>" ∧ (y_Checks_init.cls ≠ "java/lang/invoke/MethodHandle" ∧ y_Checks_init.cls ≠ "java/lang/invoke/VarHandle" ∧ (parseMethodDescriptor y_Checks_init.desc).map (fun d => d.parameters.length) = some 0) := ⟨(tb_at (i := 251) (by decide +kernel)), (tb_at (i := 12) (by decide +kernel)), (tb_at (i := 250) (by decide +kernel)), rfl, by decide +kernel, by decide +kernel, by decide +kernel⟩
theorem d_O_init_111 : decode prog_1_method_1_code 111 = .ok (.putfield 67, 3) := by decide +kernel
theorem d_O_init_114 : decode prog_1_method_1_code 114 = .ok (.aload_n 0, 1) := by decide +kernel
theorem d_O_init_115 : decode prog_1_method_1_code 115 = .ok (.new 71, 3) := by decide +kernel
theorem d_O_init_118 : decode prog_1_method_1_code 118 = .ok (.dup, 1) := by decide +kernel
theorem d_O_init_119 : decode prog_1_method_1_code 119 = .ok (.invokespecial 73, 3) := by decide +kernel
theorem mn_O_73 : ("OneSelf", 73, y_Keys_init, "OneSelf") ∈ nw_m := by decide +kernel
theorem mk_Keys_init : Cond.code y_Keys_init prog_5_method_1_code 1 none ∈ tb_g ∧ Cond.initialized y_Keys_init.cls ∈ tb_g ∧ Cond.instanceMethod y_Keys_init ∈ tb_g ∧ y_Keys_init.name = "<init>" ∧ (y_Keys_init.cls ≠ "java/lang/invoke/MethodHandle" ∧ y_Keys_init.cls ≠ "java/lang/invoke/VarHandle" ∧ (parseMethodDescriptor y_Keys_init.desc).map (fun d => d.parameters.length) = some 0) := ⟨(tb_at (i := 276) (by decide +kernel)), (tb_at (i := 13) (by decide +kernel)), (tb_at (i := 275) (by decide +kernel)), rfl, by decide +kernel, by decide +kernel, by decide +kernel⟩
theorem d_O_init_122 : decode prog_1_method_1_code 122 = .ok (.putfield 74, 3) := by decide +kernel
theorem d_O_init_125 : decode prog_1_method_1_code 125 = .ok (.return_, 1) := by decide +kernel
def y_M_init : MethodName := ⟨"OneSelfModel", "<init>", "()V"⟩
theorem d_M_init_0 : decode prog_14_method_1_code 0 = .ok (.aload_n 0, 1) := by decide +kernel
theorem d_M_init_1 : decode prog_14_method_1_code 1 = .ok (.invokespecial 1, 3) := by decide +kernel
theorem d_M_init_4 : decode prog_14_method_1_code 4 = .ok (.aload_n 0, 1) := by decide +kernel
theorem d_M_init_5 : decode prog_14_method_1_code 5 = .ok (.bipush 36, 2) := by decide +kernel
theorem d_M_init_7 : decode prog_14_method_1_code 7 = .ok (.newarray .int, 2) := by decide +kernel
theorem d_M_init_9 : decode prog_14_method_1_code 9 = .ok (.putfield 7, 3) := by decide +kernel
theorem d_M_init_12 : decode prog_14_method_1_code 12 = .ok (.aload_n 0, 1) := by decide +kernel
theorem d_M_init_13 : decode prog_14_method_1_code 13 = .ok (.sipush 360, 3) := by decide +kernel
theorem d_M_init_16 : decode prog_14_method_1_code 16 = .ok (.newarray .int, 2) := by decide +kernel
theorem d_M_init_18 : decode prog_14_method_1_code 18 = .ok (.putfield 13, 3) := by decide +kernel
theorem d_M_init_21 : decode prog_14_method_1_code 21 = .ok (.aload_n 0, 1) := by decide +kernel
theorem d_M_init_22 : decode prog_14_method_1_code 22 = .ok (.bipush 36, 2) := by decide +kernel
theorem d_M_init_24 : decode prog_14_method_1_code 24 = .ok (.newarray .int, 2) := by decide +kernel
theorem d_M_init_26 : decode prog_14_method_1_code 26 = .ok (.putfield 16, 3) := by decide +kernel
theorem d_M_init_29 : decode prog_14_method_1_code 29 = .ok (.aload_n 0, 1) := by decide +kernel
theorem d_M_init_30 : decode prog_14_method_1_code 30 = .ok (.bipush 36, 2) := by decide +kernel
theorem d_M_init_32 : decode prog_14_method_1_code 32 = .ok (.newarray .int, 2) := by decide +kernel
theorem d_M_init_34 : decode prog_14_method_1_code 34 = .ok (.putfield 19, 3) := by decide +kernel
theorem d_M_init_37 : decode prog_14_method_1_code 37 = .ok (.aload_n 0, 1) := by decide +kernel
theorem d_M_init_38 : decode prog_14_method_1_code 38 = .ok (.bipush 36, 2) := by decide +kernel
theorem d_M_init_40 : decode prog_14_method_1_code 40 = .ok (.newarray .int, 2) := by decide +kernel
theorem d_M_init_42 : decode prog_14_method_1_code 42 = .ok (.putfield 22, 3) := by decide +kernel
theorem d_M_init_45 : decode prog_14_method_1_code 45 = .ok (.aload_n 0, 1) := by decide +kernel
theorem d_M_init_46 : decode prog_14_method_1_code 46 = .ok (.bipush 36, 2) := by decide +kernel
theorem d_M_init_48 : decode prog_14_method_1_code 48 = .ok (.newarray .int, 2) := by decide +kernel
theorem d_M_init_50 : decode prog_14_method_1_code 50 = .ok (.putfield 25, 3) := by decide +kernel
theorem d_M_init_53 : decode prog_14_method_1_code 53 = .ok (.aload_n 0, 1) := by decide +kernel
theorem d_M_init_54 : decode prog_14_method_1_code 54 = .ok (.bipush 36, 2) := by decide +kernel
theorem d_M_init_56 : decode prog_14_method_1_code 56 = .ok (.newarray .int, 2) := by decide +kernel
theorem d_M_init_58 : decode prog_14_method_1_code 58 = .ok (.putfield 28, 3) := by decide +kernel
theorem d_M_init_61 : decode prog_14_method_1_code 61 = .ok (.aload_n 0, 1) := by decide +kernel
theorem d_M_init_62 : decode prog_14_method_1_code 62 = .ok (.bipush 36, 2) := by decide +kernel
theorem d_M_init_64 : decode prog_14_method_1_code 64 = .ok (.newarray .int, 2) := by decide +kernel
theorem d_M_init_66 : decode prog_14_method_1_code 66 = .ok (.putfield 31, 3) := by decide +kernel
theorem d_M_init_69 : decode prog_14_method_1_code 69 = .ok (.aload_n 0, 1) := by decide +kernel
theorem d_M_init_70 : decode prog_14_method_1_code 70 = .ok (.iconst (-1), 1) := by decide +kernel
theorem d_M_init_71 : decode prog_14_method_1_code 71 = .ok (.putfield 34, 3) := by decide +kernel
theorem d_M_init_74 : decode prog_14_method_1_code 74 = .ok (.aload_n 0, 1) := by decide +kernel
theorem d_M_init_75 : decode prog_14_method_1_code 75 = .ok (.bipush 64, 2) := by decide +kernel
theorem d_M_init_77 : decode prog_14_method_1_code 77 = .ok (.newarray .int, 2) := by decide +kernel
theorem d_M_init_79 : decode prog_14_method_1_code 79 = .ok (.putfield 38, 3) := by decide +kernel
theorem d_M_init_82 : decode prog_14_method_1_code 82 = .ok (.aload_n 0, 1) := by decide +kernel
theorem d_M_init_83 : decode prog_14_method_1_code 83 = .ok (.bipush 80, 2) := by decide +kernel
theorem d_M_init_85 : decode prog_14_method_1_code 85 = .ok (.newarray .int, 2) := by decide +kernel
theorem d_M_init_87 : decode prog_14_method_1_code 87 = .ok (.putfield 41, 3) := by decide +kernel
theorem d_M_init_90 : decode prog_14_method_1_code 90 = .ok (.aload_n 0, 1) := by decide +kernel
theorem d_M_init_91 : decode prog_14_method_1_code 91 = .ok (.bipush 26, 2) := by decide +kernel
theorem d_M_init_93 : decode prog_14_method_1_code 93 = .ok (.newarray .int, 2) := by decide +kernel
theorem d_M_init_95 : decode prog_14_method_1_code 95 = .ok (.putfield 44, 3) := by decide +kernel
theorem d_M_init_98 : decode prog_14_method_1_code 98 = .ok (.aload_n 0, 1) := by decide +kernel
theorem d_M_init_99 : decode prog_14_method_1_code 99 = .ok (.bipush 20, 2) := by decide +kernel
theorem d_M_init_101 : decode prog_14_method_1_code 101 = .ok (.newarray .int, 2) := by decide +kernel
theorem d_M_init_103 : decode prog_14_method_1_code 103 = .ok (.putfield 47, 3) := by decide +kernel
theorem d_M_init_106 : decode prog_14_method_1_code 106 = .ok (.aload_n 0, 1) := by decide +kernel
theorem d_M_init_107 : decode prog_14_method_1_code 107 = .ok (.iconst 2, 1) := by decide +kernel
theorem d_M_init_108 : decode prog_14_method_1_code 108 = .ok (.newarray .int, 2) := by decide +kernel
theorem d_M_init_110 : decode prog_14_method_1_code 110 = .ok (.putfield 50, 3) := by decide +kernel
theorem d_M_init_113 : decode prog_14_method_1_code 113 = .ok (.aload_n 0, 1) := by decide +kernel
theorem d_M_init_114 : decode prog_14_method_1_code 114 = .ok (.bipush 121, 2) := by decide +kernel
theorem d_M_init_116 : decode prog_14_method_1_code 116 = .ok (.newarray .int, 2) := by decide +kernel
theorem d_M_init_118 : decode prog_14_method_1_code 118 = .ok (.putfield 53, 3) := by decide +kernel
theorem d_M_init_121 : decode prog_14_method_1_code 121 = .ok (.aload_n 0, 1) := by decide +kernel
theorem d_M_init_122 : decode prog_14_method_1_code 122 = .ok (.bipush 16, 2) := by decide +kernel
theorem d_M_init_124 : decode prog_14_method_1_code 124 = .ok (.newarray .int, 2) := by decide +kernel
theorem d_M_init_126 : decode prog_14_method_1_code 126 = .ok (.putfield 56, 3) := by decide +kernel
theorem d_M_init_129 : decode prog_14_method_1_code 129 = .ok (.aload_n 0, 1) := by decide +kernel
theorem d_M_init_130 : decode prog_14_method_1_code 130 = .ok (.bipush 32, 2) := by decide +kernel
theorem d_M_init_132 : decode prog_14_method_1_code 132 = .ok (.newarray .int, 2) := by decide +kernel
theorem d_M_init_134 : decode prog_14_method_1_code 134 = .ok (.putfield 59, 3) := by decide +kernel
theorem d_M_init_137 : decode prog_14_method_1_code 137 = .ok (.aload_n 0, 1) := by decide +kernel
theorem d_M_init_138 : decode prog_14_method_1_code 138 = .ok (.bipush 30, 2) := by decide +kernel
theorem d_M_init_140 : decode prog_14_method_1_code 140 = .ok (.putfield 62, 3) := by decide +kernel
theorem d_M_init_143 : decode prog_14_method_1_code 143 = .ok (.aload_n 0, 1) := by decide +kernel
theorem d_M_init_144 : decode prog_14_method_1_code 144 = .ok (.sipush 1296, 3) := by decide +kernel
theorem d_M_init_147 : decode prog_14_method_1_code 147 = .ok (.newarray .boolean, 2) := by decide +kernel
theorem d_M_init_149 : decode prog_14_method_1_code 149 = .ok (.putfield 65, 3) := by decide +kernel
theorem d_M_init_152 : decode prog_14_method_1_code 152 = .ok (.aload_n 0, 1) := by decide +kernel
theorem d_M_init_153 : decode prog_14_method_1_code 153 = .ok (.bipush 10, 2) := by decide +kernel
theorem d_M_init_155 : decode prog_14_method_1_code 155 = .ok (.newarray .int, 2) := by decide +kernel
theorem d_M_init_157 : decode prog_14_method_1_code 157 = .ok (.putfield 69, 3) := by decide +kernel
theorem d_M_init_160 : decode prog_14_method_1_code 160 = .ok (.aload_n 0, 1) := by decide +kernel
theorem d_M_init_161 : decode prog_14_method_1_code 161 = .ok (.bipush 10, 2) := by decide +kernel
theorem d_M_init_163 : decode prog_14_method_1_code 163 = .ok (.newarray .int, 2) := by decide +kernel
theorem d_M_init_165 : decode prog_14_method_1_code 165 = .ok (.putfield 72, 3) := by decide +kernel
theorem d_M_init_168 : decode prog_14_method_1_code 168 = .ok (.aload_n 0, 1) := by decide +kernel
theorem d_M_init_169 : decode prog_14_method_1_code 169 = .ok (.bipush 100, 2) := by decide +kernel
theorem d_M_init_171 : decode prog_14_method_1_code 171 = .ok (.newarray .int, 2) := by decide +kernel
theorem d_M_init_173 : decode prog_14_method_1_code 173 = .ok (.putfield 75, 3) := by decide +kernel
theorem d_M_init_176 : decode prog_14_method_1_code 176 = .ok (.aload_n 0, 1) := by decide +kernel
theorem d_M_init_177 : decode prog_14_method_1_code 177 = .ok (.sipush 11264, 3) := by decide +kernel
theorem d_M_init_180 : decode prog_14_method_1_code 180 = .ok (.newarray .int, 2) := by decide +kernel
theorem d_M_init_182 : decode prog_14_method_1_code 182 = .ok (.putfield 78, 3) := by decide +kernel
theorem d_M_init_185 : decode prog_14_method_1_code 185 = .ok (.aload_n 0, 1) := by decide +kernel
theorem d_M_init_186 : decode prog_14_method_1_code 186 = .ok (.bipush 10, 2) := by decide +kernel
theorem d_M_init_188 : decode prog_14_method_1_code 188 = .ok (.newarray .int, 2) := by decide +kernel
theorem d_M_init_190 : decode prog_14_method_1_code 190 = .ok (.putfield 81, 3) := by decide +kernel
theorem d_M_init_193 : decode prog_14_method_1_code 193 = .ok (.aload_n 0, 1) := by decide +kernel
theorem d_M_init_194 : decode prog_14_method_1_code 194 = .ok (.bipush 36, 2) := by decide +kernel
theorem d_M_init_196 : decode prog_14_method_1_code 196 = .ok (.newarray .int, 2) := by decide +kernel
theorem d_M_init_198 : decode prog_14_method_1_code 198 = .ok (.putfield 84, 3) := by decide +kernel
theorem d_M_init_201 : decode prog_14_method_1_code 201 = .ok (.aload_n 0, 1) := by decide +kernel
theorem d_M_init_202 : decode prog_14_method_1_code 202 = .ok (.bipush 12, 2) := by decide +kernel
theorem d_M_init_204 : decode prog_14_method_1_code 204 = .ok (.newarray .int, 2) := by decide +kernel
theorem d_M_init_206 : decode prog_14_method_1_code 206 = .ok (.putfield 87, 3) := by decide +kernel
theorem d_M_init_209 : decode prog_14_method_1_code 209 = .ok (.aload_n 0, 1) := by decide +kernel
theorem d_M_init_210 : decode prog_14_method_1_code 210 = .ok (.bipush 40, 2) := by decide +kernel
theorem d_M_init_212 : decode prog_14_method_1_code 212 = .ok (.newarray .int, 2) := by decide +kernel
theorem d_M_init_214 : decode prog_14_method_1_code 214 = .ok (.putfield 90, 3) := by decide +kernel
theorem d_M_init_217 : decode prog_14_method_1_code 217 = .ok (.aload_n 0, 1) := by decide +kernel
theorem d_M_init_218 : decode prog_14_method_1_code 218 = .ok (.bipush 40, 2) := by decide +kernel
theorem d_M_init_220 : decode prog_14_method_1_code 220 = .ok (.newarray .int, 2) := by decide +kernel
theorem d_M_init_222 : decode prog_14_method_1_code 222 = .ok (.putfield 93, 3) := by decide +kernel
theorem d_M_init_225 : decode prog_14_method_1_code 225 = .ok (.aload_n 0, 1) := by decide +kernel
theorem d_M_init_226 : decode prog_14_method_1_code 226 = .ok (.bipush 40, 2) := by decide +kernel
theorem d_M_init_228 : decode prog_14_method_1_code 228 = .ok (.newarray .boolean, 2) := by decide +kernel
theorem d_M_init_230 : decode prog_14_method_1_code 230 = .ok (.putfield 96, 3) := by decide +kernel
theorem d_M_init_233 : decode prog_14_method_1_code 233 = .ok (.aload_n 0, 1) := by decide +kernel
theorem d_M_init_234 : decode prog_14_method_1_code 234 = .ok (.bipush 62, 2) := by decide +kernel
theorem d_M_init_236 : decode prog_14_method_1_code 236 = .ok (.newarray .long, 2) := by decide +kernel
theorem d_M_init_238 : decode prog_14_method_1_code 238 = .ok (.putfield 99, 3) := by decide +kernel
theorem d_M_init_241 : decode prog_14_method_1_code 241 = .ok (.aload_n 0, 1) := by decide +kernel
theorem d_M_init_242 : decode prog_14_method_1_code 242 = .ok (.bipush 62, 2) := by decide +kernel
theorem d_M_init_244 : decode prog_14_method_1_code 244 = .ok (.newarray .long, 2) := by decide +kernel
theorem d_M_init_246 : decode prog_14_method_1_code 246 = .ok (.putfield 103, 3) := by decide +kernel
theorem d_M_init_249 : decode prog_14_method_1_code 249 = .ok (.aload_n 0, 1) := by decide +kernel
theorem d_M_init_250 : decode prog_14_method_1_code 250 = .ok (.bipush 62, 2) := by decide +kernel
theorem d_M_init_252 : decode prog_14_method_1_code 252 = .ok (.newarray .long, 2) := by decide +kernel
theorem d_M_init_254 : decode prog_14_method_1_code 254 = .ok (.putfield 106, 3) := by decide +kernel
theorem d_M_init_257 : decode prog_14_method_1_code 257 = .ok (.aload_n 0, 1) := by decide +kernel
theorem d_M_init_258 : decode prog_14_method_1_code 258 = .ok (.bipush 64, 2) := by decide +kernel
theorem d_M_init_260 : decode prog_14_method_1_code 260 = .ok (.newarray .int, 2) := by decide +kernel
theorem d_M_init_262 : decode prog_14_method_1_code 262 = .ok (.putfield 109, 3) := by decide +kernel
theorem d_M_init_265 : decode prog_14_method_1_code 265 = .ok (.aload_n 0, 1) := by decide +kernel
theorem d_M_init_266 : decode prog_14_method_1_code 266 = .ok (.bipush 64, 2) := by decide +kernel
theorem d_M_init_268 : decode prog_14_method_1_code 268 = .ok (.newarray .boolean, 2) := by decide +kernel
theorem d_M_init_270 : decode prog_14_method_1_code 270 = .ok (.putfield 112, 3) := by decide +kernel
theorem d_M_init_273 : decode prog_14_method_1_code 273 = .ok (.aload_n 0, 1) := by decide +kernel
theorem d_M_init_274 : decode prog_14_method_1_code 274 = .ok (.iconst 4, 1) := by decide +kernel
theorem d_M_init_275 : decode prog_14_method_1_code 275 = .ok (.newarray .boolean, 2) := by decide +kernel
theorem d_M_init_277 : decode prog_14_method_1_code 277 = .ok (.putfield 115, 3) := by decide +kernel
theorem d_M_init_280 : decode prog_14_method_1_code 280 = .ok (.aload_n 0, 1) := by decide +kernel
theorem d_M_init_281 : decode prog_14_method_1_code 281 = .ok (.iconst 4, 1) := by decide +kernel
theorem d_M_init_282 : decode prog_14_method_1_code 282 = .ok (.newarray .int, 2) := by decide +kernel
theorem d_M_init_284 : decode prog_14_method_1_code 284 = .ok (.putfield 118, 3) := by decide +kernel
theorem d_M_init_287 : decode prog_14_method_1_code 287 = .ok (.aload_n 0, 1) := by decide +kernel
theorem d_M_init_288 : decode prog_14_method_1_code 288 = .ok (.iconst 4, 1) := by decide +kernel
theorem d_M_init_289 : decode prog_14_method_1_code 289 = .ok (.newarray .int, 2) := by decide +kernel
theorem d_M_init_291 : decode prog_14_method_1_code 291 = .ok (.putfield 121, 3) := by decide +kernel
theorem d_M_init_294 : decode prog_14_method_1_code 294 = .ok (.aload_n 0, 1) := by decide +kernel
theorem d_M_init_295 : decode prog_14_method_1_code 295 = .ok (.sipush 160, 3) := by decide +kernel
theorem d_M_init_298 : decode prog_14_method_1_code 298 = .ok (.newarray .int, 2) := by decide +kernel
theorem d_M_init_300 : decode prog_14_method_1_code 300 = .ok (.putfield 124, 3) := by decide +kernel
theorem d_M_init_303 : decode prog_14_method_1_code 303 = .ok (.aload_n 0, 1) := by decide +kernel
theorem d_M_init_304 : decode prog_14_method_1_code 304 = .ok (.bipush 40, 2) := by decide +kernel
theorem d_M_init_306 : decode prog_14_method_1_code 306 = .ok (.newarray .int, 2) := by decide +kernel
theorem d_M_init_308 : decode prog_14_method_1_code 308 = .ok (.putfield 127, 3) := by decide +kernel
theorem d_M_init_311 : decode prog_14_method_1_code 311 = .ok (.iconst 0, 1) := by decide +kernel
theorem d_M_init_312 : decode prog_14_method_1_code 312 = .ok (.istore_n 1, 1) := by decide +kernel
theorem d_M_init_313 : decode prog_14_method_1_code 313 = .ok (.iload_n 1, 1) := by decide +kernel
theorem d_M_init_314 : decode prog_14_method_1_code 314 = .ok (.iconst 4, 1) := by decide +kernel
theorem d_M_init_315 : decode prog_14_method_1_code 315 = .ok (.if_icmp .ge 138, 3) := by decide +kernel
theorem d_M_init_453 : decode prog_14_method_1_code 453 = .ok (.iconst 0, 1) := by decide +kernel
theorem d_M_init_454 : decode prog_14_method_1_code 454 = .ok (.istore_n 1, 1) := by decide +kernel
theorem d_M_init_318 : decode prog_14_method_1_code 318 = .ok (.iconst 0, 1) := by decide +kernel
theorem d_M_init_319 : decode prog_14_method_1_code 319 = .ok (.istore_n 2, 1) := by decide +kernel
theorem d_M_init_455 : decode prog_14_method_1_code 455 = .ok (.iload_n 1, 1) := by decide +kernel
theorem d_M_init_456 : decode prog_14_method_1_code 456 = .ok (.bipush 64, 2) := by decide +kernel
theorem d_M_init_458 : decode prog_14_method_1_code 458 = .ok (.if_icmp .ge 32, 3) := by decide +kernel
theorem d_M_init_490 : decode prog_14_method_1_code 490 = .ok (.return_, 1) := by decide +kernel
theorem d_M_init_461 : decode prog_14_method_1_code 461 = .ok (.aload_n 0, 1) := by decide +kernel
theorem d_M_init_462 : decode prog_14_method_1_code 462 = .ok (.getfield 38, 3) := by decide +kernel
theorem d_M_init_465 : decode prog_14_method_1_code 465 = .ok (.iload_n 1, 1) := by decide +kernel
theorem d_M_init_466 : decode prog_14_method_1_code 466 = .ok (.iload_n 1, 1) := by decide +kernel
theorem d_M_init_467 : decode prog_14_method_1_code 467 = .ok (.bipush 8, 2) := by decide +kernel
theorem d_M_init_469 : decode prog_14_method_1_code 469 = .ok (.idiv, 1) := by decide +kernel
theorem d_M_init_470 : decode prog_14_method_1_code 470 = .ok (.iload_n 1, 1) := by decide +kernel
theorem d_M_init_471 : decode prog_14_method_1_code 471 = .ok (.bipush 8, 2) := by decide +kernel
theorem d_M_init_473 : decode prog_14_method_1_code 473 = .ok (.irem, 1) := by decide +kernel
theorem d_M_init_474 : decode prog_14_method_1_code 474 = .ok (.if_icmp .ne 7, 3) := by decide +kernel
theorem d_M_init_477 : decode prog_14_method_1_code 477 = .ok (.iconst 0, 1) := by decide +kernel
theorem d_M_init_478 : decode prog_14_method_1_code 478 = .ok (.goto 5, 3) := by decide +kernel
theorem d_M_init_481 : decode prog_14_method_1_code 481 = .ok (.bipush 50, 2) := by decide +kernel
theorem d_M_init_320 : decode prog_14_method_1_code 320 = .ok (.iload_n 2, 1) := by decide +kernel
theorem d_M_init_321 : decode prog_14_method_1_code 321 = .ok (.iconst 4, 1) := by decide +kernel
theorem d_M_init_322 : decode prog_14_method_1_code 322 = .ok (.if_icmp .ge 125, 3) := by decide +kernel
theorem d_M_init_447 : decode prog_14_method_1_code 447 = .ok (.iinc 1 1, 3) := by decide +kernel
theorem d_M_init_450 : decode prog_14_method_1_code 450 = .ok (.goto (-137), 3) := by decide +kernel
theorem d_M_init_325 : decode prog_14_method_1_code 325 = .ok (.aload_n 0, 1) := by decide +kernel
theorem d_M_init_326 : decode prog_14_method_1_code 326 = .ok (.getfield 56, 3) := by decide +kernel
theorem d_M_init_329 : decode prog_14_method_1_code 329 = .ok (.iconst 4, 1) := by decide +kernel
theorem d_M_init_330 : decode prog_14_method_1_code 330 = .ok (.iload_n 1, 1) := by decide +kernel
theorem d_M_init_331 : decode prog_14_method_1_code 331 = .ok (.imul, 1) := by decide +kernel
theorem d_M_init_332 : decode prog_14_method_1_code 332 = .ok (.iload_n 2, 1) := by decide +kernel
theorem d_M_init_333 : decode prog_14_method_1_code 333 = .ok (.iadd, 1) := by decide +kernel
theorem d_M_init_334 : decode prog_14_method_1_code 334 = .ok (.iload_n 2, 1) := by decide +kernel
theorem d_M_init_335 : decode prog_14_method_1_code 335 = .ok (.iconst 3, 1) := by decide +kernel
theorem d_M_init_336 : decode prog_14_method_1_code 336 = .ok (.if_icmp .ne 8, 3) := by decide +kernel
theorem d_M_init_339 : decode prog_14_method_1_code 339 = .ok (.bipush (-20), 2) := by decide +kernel
theorem d_M_init_341 : decode prog_14_method_1_code 341 = .ok (.goto 10, 3) := by decide +kernel
theorem d_M_init_344 : decode prog_14_method_1_code 344 = .ok (.bipush 20, 2) := by decide +kernel
theorem d_M_init_346 : decode prog_14_method_1_code 346 = .ok (.bipush 10, 2) := by decide +kernel
theorem d_M_init_348 : decode prog_14_method_1_code 348 = .ok (.iload_n 2, 1) := by decide +kernel
theorem d_M_init_349 : decode prog_14_method_1_code 349 = .ok (.imul, 1) := by decide +kernel
theorem d_M_init_350 : decode prog_14_method_1_code 350 = .ok (.isub, 1) := by decide +kernel
theorem d_M_init_483 : decode prog_14_method_1_code 483 = .ok (.iastore, 1) := by decide +kernel
theorem d_M_init_484 : decode prog_14_method_1_code 484 = .ok (.iinc 1 1, 3) := by decide +kernel
theorem d_M_init_487 : decode prog_14_method_1_code 487 = .ok (.goto (-32), 3) := by decide +kernel
theorem d_M_init_351 : decode prog_14_method_1_code 351 = .ok (.iastore, 1) := by decide +kernel
theorem d_M_init_352 : decode prog_14_method_1_code 352 = .ok (.aload_n 0, 1) := by decide +kernel
theorem d_M_init_353 : decode prog_14_method_1_code 353 = .ok (.getfield 59, 3) := by decide +kernel
theorem d_M_init_356 : decode prog_14_method_1_code 356 = .ok (.iconst 4, 1) := by decide +kernel
theorem d_M_init_357 : decode prog_14_method_1_code 357 = .ok (.iload_n 1, 1) := by decide +kernel
theorem d_M_init_358 : decode prog_14_method_1_code 358 = .ok (.imul, 1) := by decide +kernel
theorem d_M_init_359 : decode prog_14_method_1_code 359 = .ok (.iload_n 2, 1) := by decide +kernel
theorem d_M_init_360 : decode prog_14_method_1_code 360 = .ok (.iadd, 1) := by decide +kernel
theorem d_M_init_361 : decode prog_14_method_1_code 361 = .ok (.iload_n 2, 1) := by decide +kernel
theorem d_M_init_362 : decode prog_14_method_1_code 362 = .ok (.ifCond .ne 8, 3) := by decide +kernel
theorem d_M_init_365 : decode prog_14_method_1_code 365 = .ok (.bipush 20, 2) := by decide +kernel
theorem d_M_init_367 : decode prog_14_method_1_code 367 = .ok (.goto 27, 3) := by decide +kernel
theorem d_M_init_370 : decode prog_14_method_1_code 370 = .ok (.iload_n 2, 1) := by decide +kernel
theorem d_M_init_371 : decode prog_14_method_1_code 371 = .ok (.iconst 1, 1) := by decide +kernel
theorem d_M_init_372 : decode prog_14_method_1_code 372 = .ok (.if_icmp .ne 8, 3) := by decide +kernel
theorem d_M_init_375 : decode prog_14_method_1_code 375 = .ok (.bipush 80, 2) := by decide +kernel
theorem d_M_init_377 : decode prog_14_method_1_code 377 = .ok (.goto 17, 3) := by decide +kernel
theorem d_M_init_380 : decode prog_14_method_1_code 380 = .ok (.iload_n 2, 1) := by decide +kernel
theorem d_M_init_381 : decode prog_14_method_1_code 381 = .ok (.iconst 2, 1) := by decide +kernel
theorem d_M_init_382 : decode prog_14_method_1_code 382 = .ok (.if_icmp .ne 9, 3) := by decide +kernel
theorem d_M_init_385 : decode prog_14_method_1_code 385 = .ok (.sipush 200, 3) := by decide +kernel
theorem d_M_init_388 : decode prog_14_method_1_code 388 = .ok (.goto 6, 3) := by decide +kernel
theorem d_M_init_391 : decode prog_14_method_1_code 391 = .ok (.sipush 700, 3) := by decide +kernel
theorem d_M_init_394 : decode prog_14_method_1_code 394 = .ok (.iastore, 1) := by decide +kernel
theorem d_M_init_395 : decode prog_14_method_1_code 395 = .ok (.aload_n 0, 1) := by decide +kernel
theorem d_M_init_396 : decode prog_14_method_1_code 396 = .ok (.getfield 59, 3) := by decide +kernel
theorem d_M_init_399 : decode prog_14_method_1_code 399 = .ok (.bipush 16, 2) := by decide +kernel
theorem d_M_init_401 : decode prog_14_method_1_code 401 = .ok (.iconst 4, 1) := by decide +kernel
theorem d_M_init_402 : decode prog_14_method_1_code 402 = .ok (.iload_n 1, 1) := by decide +kernel
theorem d_M_init_403 : decode prog_14_method_1_code 403 = .ok (.imul, 1) := by decide +kernel
theorem d_M_init_404 : decode prog_14_method_1_code 404 = .ok (.iadd, 1) := by decide +kernel
theorem d_M_init_405 : decode prog_14_method_1_code 405 = .ok (.iload_n 2, 1) := by decide +kernel
theorem d_M_init_406 : decode prog_14_method_1_code 406 = .ok (.iadd, 1) := by decide +kernel
theorem d_M_init_407 : decode prog_14_method_1_code 407 = .ok (.iload_n 2, 1) := by decide +kernel
theorem d_M_init_408 : decode prog_14_method_1_code 408 = .ok (.ifCond .ne 9, 3) := by decide +kernel
theorem d_M_init_411 : decode prog_14_method_1_code 411 = .ok (.sipush 700, 3) := by decide +kernel
theorem d_M_init_414 : decode prog_14_method_1_code 414 = .ok (.goto 26, 3) := by decide +kernel
theorem d_M_init_417 : decode prog_14_method_1_code 417 = .ok (.iload_n 2, 1) := by decide +kernel
theorem d_M_init_418 : decode prog_14_method_1_code 418 = .ok (.iconst 1, 1) := by decide +kernel
theorem d_M_init_419 : decode prog_14_method_1_code 419 = .ok (.if_icmp .ne 9, 3) := by decide +kernel
theorem d_M_init_422 : decode prog_14_method_1_code 422 = .ok (.sipush 200, 3) := by decide +kernel
theorem d_M_init_425 : decode prog_14_method_1_code 425 = .ok (.goto 15, 3) := by decide +kernel
theorem d_M_init_428 : decode prog_14_method_1_code 428 = .ok (.iload_n 2, 1) := by decide +kernel
theorem d_M_init_429 : decode prog_14_method_1_code 429 = .ok (.iconst 2, 1) := by decide +kernel
theorem d_M_init_430 : decode prog_14_method_1_code 430 = .ok (.if_icmp .ne 8, 3) := by decide +kernel
theorem d_M_init_433 : decode prog_14_method_1_code 433 = .ok (.bipush 80, 2) := by decide +kernel
theorem d_M_init_435 : decode prog_14_method_1_code 435 = .ok (.goto 5, 3) := by decide +kernel
theorem d_M_init_438 : decode prog_14_method_1_code 438 = .ok (.bipush 20, 2) := by decide +kernel
theorem d_M_init_440 : decode prog_14_method_1_code 440 = .ok (.iastore, 1) := by decide +kernel
theorem d_M_init_441 : decode prog_14_method_1_code 441 = .ok (.iinc 2 1, 3) := by decide +kernel
theorem d_M_init_444 : decode prog_14_method_1_code 444 = .ok (.goto (-124), 3) := by decide +kernel
