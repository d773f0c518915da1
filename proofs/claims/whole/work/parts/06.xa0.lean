def y_O_pass : MethodName := ⟨"OneSelf", "pass", "(I)I"⟩
def y_O_isWithin : MethodName := ⟨"OneSelf", "isWithin", "(III)Z"⟩
theorem ml_O_78 : Cond.methodLink "OneSelf" 78 y_O_isWithin ∈ tb_g := (tb_at (i := 323) (by decide +kernel))
theorem mt_O_isWithin : mtS y_O_isWithin prog_1_method_43_code 3 (some .boolean) 3 := ⟨(tb_at (i := 325) (by decide +kernel)), (tb_at (i := 1) (by decide +kernel)), (tb_at (i := 324) (by decide +kernel)), ⟨by decide +kernel, by decide +kernel, by decide +kernel⟩⟩
theorem fl_O_27 : Cond.fieldLink "OneSelf" 27 "OneSelf" "rows" "LOneSelf$Rows;" ∈ tb_g := (tb_at (i := 287) (by decide +kernel))
theorem fn_O_82 : ("OneSelf", 82, "OneSelf$Rows", "day", "I", "OneSelf") ∈ nw_f := by decide +kernel
def y_O_row : MethodName := ⟨"OneSelf", "row", "(IIIIIII)I"⟩
def y_O_isBelow : MethodName := ⟨"OneSelf", "isBelow", "(II)Z"⟩
theorem ml_O_88 : Cond.methodLink "OneSelf" 88 y_O_isBelow ∈ tb_g := (tb_at (i := 330) (by decide +kernel))
theorem mt_O_isBelow : mtS y_O_isBelow prog_1_method_44_code 2 (some .boolean) 2 := ⟨(tb_at (i := 332) (by decide +kernel)), (tb_at (i := 1) (by decide +kernel)), (tb_at (i := 331) (by decide +kernel)), ⟨by decide +kernel, by decide +kernel, by decide +kernel⟩⟩
def y_Sheets_isSheet : MethodName := ⟨"OneSelf$Sheets", "isSheet", "(I)Z"⟩
theorem ml_O_92 : Cond.methodLink "OneSelf" 92 y_Sheets_isSheet ∈ tb_g := (tb_at (i := 333) (by decide +kernel))
theorem mn_Sheets_27 : ("OneSelf$Sheets", 27, y_O_isBelow, "OneSelf") ∈ nw_m := by decide +kernel
theorem mt_Sheets_isSheet : mtS y_Sheets_isSheet prog_9_method_2_code 1 (some .boolean) 1 := ⟨(tb_at (i := 335) (by decide +kernel)), (tb_at (i := 2) (by decide +kernel)), (tb_at (i := 334) (by decide +kernel)), ⟨by decide +kernel, by decide +kernel, by decide +kernel⟩⟩
def y_O_areFacts : MethodName := ⟨"OneSelf", "areFacts", "(III)Z"⟩
theorem ml_O_96 : Cond.methodLink "OneSelf" 96 y_O_areFacts ∈ tb_g := (tb_at (i := 337) (by decide +kernel))
theorem mt_O_areFacts : mtS y_O_areFacts prog_1_method_47_code 3 (some .boolean) 3 := ⟨(tb_at (i := 339) (by decide +kernel)), (tb_at (i := 1) (by decide +kernel)), (tb_at (i := 338) (by decide +kernel)), ⟨by decide +kernel, by decide +kernel, by decide +kernel⟩⟩
theorem fl_O_10 : Cond.fieldLink "OneSelf" 10 "OneSelf" "sheets" "LOneSelf$Sheets;" ∈ tb_g := (tb_at (i := 285) (by decide +kernel))
def y_Sheets_isLost : MethodName := ⟨"OneSelf$Sheets", "isLost", "(I)Z"⟩
theorem ml_O_99 : Cond.methodLink "OneSelf" 99 y_Sheets_isLost ∈ tb_g := (tb_at (i := 340) (by decide +kernel))
theorem fl_Sheets_11 : Cond.fieldLink "OneSelf$Sheets" 11 "OneSelf$Sheets" "types" "[I" ∈ tb_g := (tb_at (i := 35) (by decide +kernel))
theorem mt_Sheets_isLost : mtV y_Sheets_isLost prog_9_method_4_code 2 (some .boolean) 1 := ⟨(tb_at (i := 343) (by decide +kernel)), (tb_at (i := 2) (by decide +kernel)), (tb_at (i := 341) (by decide +kernel)), (tb_at (i := 342) (by decide +kernel)), ⟨by decide +kernel, by decide +kernel, by decide +kernel⟩⟩
def y_Sheets_hasItems : MethodName := ⟨"OneSelf$Sheets", "hasItems", "(III)Z"⟩
theorem ml_O_106 : Cond.methodLink "OneSelf" 106 y_Sheets_hasItems ∈ tb_g := (tb_at (i := 348) (by decide +kernel))
theorem fl_Sheets_15 : Cond.fieldLink "OneSelf$Sheets" 15 "OneSelf$Sheets" "sizes" "[I" ∈ tb_g := (tb_at (i := 36) (by decide +kernel))
theorem mt_Sheets_hasItems : mtV y_Sheets_hasItems prog_9_method_7_code 4 (some .boolean) 3 := ⟨(tb_at (i := 351) (by decide +kernel)), (tb_at (i := 2) (by decide +kernel)), (tb_at (i := 349) (by decide +kernel)), (tb_at (i := 350) (by decide +kernel)), ⟨by decide +kernel, by decide +kernel, by decide +kernel⟩⟩
def y_Sheets_noteFinding : MethodName := ⟨"OneSelf$Sheets", "noteFinding", "(I)I"⟩
theorem ml_O_102 : Cond.methodLink "OneSelf" 102 y_Sheets_noteFinding ∈ tb_g := (tb_at (i := 344) (by decide +kernel))
theorem fl_Sheets_42 : Cond.fieldLink "OneSelf$Sheets" 42 "OneSelf$Sheets" "latest" "I" ∈ tb_g := (tb_at (i := 38) (by decide +kernel))
theorem mt_Sheets_noteFinding : mtV y_Sheets_noteFinding prog_9_method_10_code 2 (some .int) 1 := ⟨(tb_at (i := 347) (by decide +kernel)), (tb_at (i := 2) (by decide +kernel)), (tb_at (i := 345) (by decide +kernel)), (tb_at (i := 346) (by decide +kernel)), ⟨by decide +kernel, by decide +kernel, by decide +kernel⟩⟩
def y_Sheets_areLetters : MethodName := ⟨"OneSelf$Sheets", "areLetters", "(III)Z"⟩
theorem ml_O_109 : Cond.methodLink "OneSelf" 109 y_Sheets_areLetters ∈ tb_g := (tb_at (i := 352) (by decide +kernel))
def y_Sheets_itemAt : MethodName := ⟨"OneSelf$Sheets", "itemAt", "(II)I"⟩
theorem ml_Sheets_31 : Cond.methodLink "OneSelf$Sheets" 31 y_Sheets_itemAt ∈ tb_g := (tb_at (i := 356) (by decide +kernel))
theorem fl_Sheets_18 : Cond.fieldLink "OneSelf$Sheets" 18 "OneSelf$Sheets" "items" "[I" ∈ tb_g := (tb_at (i := 37) (by decide +kernel))
theorem mt_Sheets_itemAt : mtV y_Sheets_itemAt prog_9_method_11_code 3 (some .int) 2 := ⟨(tb_at (i := 359) (by decide +kernel)), (tb_at (i := 2) (by decide +kernel)), (tb_at (i := 357) (by decide +kernel)), (tb_at (i := 358) (by decide +kernel)), ⟨by decide +kernel, by decide +kernel, by decide +kernel⟩⟩
def y_O_isLetter : MethodName := ⟨"OneSelf", "isLetter", "(I)Z"⟩
theorem mn_Sheets_35 : ("OneSelf$Sheets", 35, y_O_isLetter, "OneSelf") ∈ nw_m := by decide +kernel
theorem mt_O_isLetter : mtS y_O_isLetter prog_1_method_45_code 1 (some .boolean) 1 := ⟨(tb_at (i := 362) (by decide +kernel)), (tb_at (i := 1) (by decide +kernel)), (tb_at (i := 361) (by decide +kernel)), ⟨by decide +kernel, by decide +kernel, by decide +kernel⟩⟩
theorem mt_Sheets_areLetters : mtV y_Sheets_areLetters prog_9_method_8_code 5 (some .boolean) 3 := ⟨(tb_at (i := 355) (by decide +kernel)), (tb_at (i := 2) (by decide +kernel)), (tb_at (i := 353) (by decide +kernel)), (tb_at (i := 354) (by decide +kernel)), ⟨by decide +kernel, by decide +kernel, by decide +kernel⟩⟩
theorem fn_O_112 : ("OneSelf", 112, "OneSelf$Rows", "many", "I", "OneSelf") ∈ nw_f := by decide +kernel
def y_Rows_add : MethodName := ⟨"OneSelf$Rows", "add", "(IIII)V"⟩
theorem ml_O_115 : Cond.methodLink "OneSelf" 115 y_Rows_add ∈ tb_g := (tb_at (i := 363) (by decide +kernel))
theorem fl_Rows_22 : Cond.fieldLink "OneSelf$Rows" 22 "OneSelf$Rows" "many" "I" ∈ tb_g := (tb_at (i := 64) (by decide +kernel))
theorem fl_Rows_9 : Cond.fieldLink "OneSelf$Rows" 9 "OneSelf$Rows" "facts" "[I" ∈ tb_g := (tb_at (i := 62) (by decide +kernel))
theorem fl_Rows_33 : Cond.fieldLink "OneSelf$Rows" 33 "OneSelf$Rows" "day" "I" ∈ tb_g := (tb_at (i := 73) (by decide +kernel))
theorem mt_Rows_add : mtV y_Rows_add prog_8_method_4_code 6 none 4 := ⟨(tb_at (i := 366) (by decide +kernel)), (tb_at (i := 5) (by decide +kernel)), (tb_at (i := 364) (by decide +kernel)), (tb_at (i := 365) (by decide +kernel)), ⟨by decide +kernel, by decide +kernel, by decide +kernel⟩⟩
theorem fl_O_32 : Cond.fieldLink "OneSelf" 32 "OneSelf" "slips" "LOneSelf$Slips;" ∈ tb_g := (tb_at (i := 288) (by decide +kernel))
def y_Slips_learn : MethodName := ⟨"OneSelf$Slips", "learn", "(LOneSelf$Rows;I)V"⟩
theorem ml_O_127 : Cond.methodLink "OneSelf" 127 y_Slips_learn ∈ tb_g := (tb_at (i := 376) (by decide +kernel))
def y_Slips_measure : MethodName := ⟨"OneSelf$Slips", "measure", "(LOneSelf$Rows;II)I"⟩
theorem ml_Slips_18 : Cond.methodLink "OneSelf$Slips" 18 y_Slips_measure ∈ tb_g := (tb_at (i := 380) (by decide +kernel))
def y_Rows_fact : MethodName := ⟨"OneSelf$Rows", "fact", "(II)I"⟩
theorem ml_Slips_22 : Cond.methodLink "OneSelf$Slips" 22 y_Rows_fact ∈ tb_g := (tb_at (i := 384) (by decide +kernel))
theorem mt_Rows_fact : mtV y_Rows_fact prog_8_method_7_code 3 (some .int) 2 := ⟨(tb_at (i := 375) (by decide +kernel)), (tb_at (i := 5) (by decide +kernel)), (tb_at (i := 373) (by decide +kernel)), (tb_at (i := 374) (by decide +kernel)), ⟨by decide +kernel, by decide +kernel, by decide +kernel⟩⟩
theorem fl_Slips_15 : Cond.fieldLink "OneSelf$Slips" 15 "OneSelf$Slips" "steps" "[I" ∈ tb_g := (tb_at (i := 94) (by decide +kernel))
def y_Slips_fewestSteps : MethodName := ⟨"OneSelf$Slips", "fewestSteps", "(LOneSelf$Rows;IIII)I"⟩
theorem ml_Slips_28 : Cond.methodLink "OneSelf$Slips" 28 y_Slips_fewestSteps ∈ tb_g := (tb_at (i := 385) (by decide +kernel))
def y_Rows_letterAt : MethodName := ⟨"OneSelf$Rows", "letterAt", "(II)I"⟩
theorem ml_Slips_32 : Cond.methodLink "OneSelf$Slips" 32 y_Rows_letterAt ∈ tb_g := (tb_at (i := 389) (by decide +kernel))
theorem fl_Rows_15 : Cond.fieldLink "OneSelf$Rows" 15 "OneSelf$Rows" "letters" "[I" ∈ tb_g := (tb_at (i := 63) (by decide +kernel))
theorem mt_Rows_letterAt : mtV y_Rows_letterAt prog_8_method_8_code 3 (some .int) 2 := ⟨(tb_at (i := 392) (by decide +kernel)), (tb_at (i := 5) (by decide +kernel)), (tb_at (i := 390) (by decide +kernel)), (tb_at (i := 391) (by decide +kernel)), ⟨by decide +kernel, by decide +kernel, by decide +kernel⟩⟩
def y_Math_min : MethodName := ⟨"java/lang/Math", "min", "(II)I"⟩
theorem ml_Slips_35 : Cond.methodLink "OneSelf$Slips" 35 y_Math_min ∈ tb_g := (tb_at (i := 393) (by decide +kernel))
theorem mM_min : Cond.static Lib.Math.min.name ∈ tb_g ∧ Cond.initialized "java/lang/Math" ∈ tb_g ∧ Cond.code Lib.Math.min.name Lib.Math.min.code 2 (some .int) ∈ tb_g := ⟨(tb_at (i := 394) (by decide +kernel)), (tb_at (i := 15) (by decide +kernel)), (tb_at (i := 395) (by decide +kernel))⟩
theorem mt_Slips_fewestSteps : mtV y_Slips_fewestSteps prog_10_method_5_code 10 (some .int) 5 := ⟨(tb_at (i := 388) (by decide +kernel)), (tb_at (i := 6) (by decide +kernel)), (tb_at (i := 387) (by decide +kernel)), (tb_pr (i := 1) (by decide +kernel)), ⟨by decide +kernel, by decide +kernel, by decide +kernel⟩⟩
theorem mt_Slips_measure : mtV y_Slips_measure prog_10_method_4_code 8 (some .int) 3 := ⟨(tb_at (i := 383) (by decide +kernel)), (tb_at (i := 6) (by decide +kernel)), (tb_at (i := 382) (by decide +kernel)), (tb_pr (i := 0) (by decide +kernel)), ⟨by decide +kernel, by decide +kernel, by decide +kernel⟩⟩
theorem fl_Slips_9 : Cond.fieldLink "OneSelf$Slips" 9 "OneSelf$Slips" "counts" "[I" ∈ tb_g := (tb_at (i := 93) (by decide +kernel))
theorem mt_Slips_learn : mtV y_Slips_learn prog_10_method_3_code 5 none 2 := ⟨(tb_at (i := 379) (by decide +kernel)), (tb_at (i := 6) (by decide +kernel)), (tb_at (i := 377) (by decide +kernel)), (tb_at (i := 378) (by decide +kernel)), ⟨by decide +kernel, by decide +kernel, by decide +kernel⟩⟩
theorem fl_O_37 : Cond.fieldLink "OneSelf" 37 "OneSelf" "sounds" "LOneSelf$Sounds;" ∈ tb_g := (tb_at (i := 289) (by decide +kernel))
def y_Sounds_hear : MethodName := ⟨"OneSelf$Sounds", "hear", "(LOneSelf$Rows;I)V"⟩
theorem ml_O_133 : Cond.methodLink "OneSelf" 133 y_Sounds_hear ∈ tb_g := (tb_at (i := 396) (by decide +kernel))
theorem ml_Sounds_62 : Cond.methodLink "OneSelf$Sounds" 62 y_Rows_fact ∈ tb_g := (tb_at (i := 400) (by decide +kernel))
theorem fl_Sounds_21 : Cond.fieldLink "OneSelf$Sounds" 21 "OneSelf$Sounds" "lengths" "[I" ∈ tb_g := (tb_at (i := 110) (by decide +kernel))
theorem ml_Sounds_65 : Cond.methodLink "OneSelf$Sounds" 65 y_Rows_letterAt ∈ tb_g := (tb_at (i := 401) (by decide +kernel))
def y_Sounds_signFor : MethodName := ⟨"OneSelf$Sounds", "signFor", "(I)I"⟩
theorem ml_Sounds_68 : Cond.methodLink "OneSelf$Sounds" 68 y_Sounds_signFor ∈ tb_g := (tb_at (i := 402) (by decide +kernel))
theorem fl_Sounds_15 : Cond.fieldLink "OneSelf$Sounds" 15 "OneSelf$Sounds" "figures" "[I" ∈ tb_g := (tb_at (i := 108) (by decide +kernel))
theorem mt_Sounds_signFor : mtV y_Sounds_signFor prog_11_method_9_code 3 (some .int) 1 := ⟨(tb_at (i := 405) (by decide +kernel)), (tb_at (i := 7) (by decide +kernel)), (tb_at (i := 404) (by decide +kernel)), (tb_pr (i := 2) (by decide +kernel)), ⟨by decide +kernel, by decide +kernel, by decide +kernel⟩⟩
theorem fl_Sounds_18 : Cond.fieldLink "OneSelf$Sounds" 18 "OneSelf$Sounds" "signs" "[I" ∈ tb_g := (tb_at (i := 109) (by decide +kernel))
theorem mt_Sounds_hear : mtV y_Sounds_hear prog_11_method_8_code 9 none 2 := ⟨(tb_at (i := 399) (by decide +kernel)), (tb_at (i := 7) (by decide +kernel)), (tb_at (i := 397) (by decide +kernel)), (tb_at (i := 398) (by decide +kernel)), ⟨by decide +kernel, by decide +kernel, by decide +kernel⟩⟩
theorem ml_O_119 : Cond.methodLink "OneSelf" 119 y_Sheets_itemAt ∈ tb_g := (tb_at (i := 367) (by decide +kernel))
def y_Rows_spell : MethodName := ⟨"OneSelf$Rows", "spell", "(II)V"⟩
theorem ml_O_123 : Cond.methodLink "OneSelf" 123 y_Rows_spell ∈ tb_g := (tb_at (i := 368) (by decide +kernel))
theorem ml_Rows_36 : Cond.methodLink "OneSelf$Rows" 36 y_Rows_fact ∈ tb_g := (tb_at (i := 372) (by decide +kernel))
theorem mt_Rows_spell : mtV y_Rows_spell prog_8_method_5_code 4 none 2 := ⟨(tb_at (i := 371) (by decide +kernel)), (tb_at (i := 5) (by decide +kernel)), (tb_at (i := 369) (by decide +kernel)), (tb_at (i := 370) (by decide +kernel)), ⟨by decide +kernel, by decide +kernel, by decide +kernel⟩⟩
def y_O_takeBack : MethodName := ⟨"OneSelf", "takeBack", "(I)I"⟩
def y_Rows_has : MethodName := ⟨"OneSelf$Rows", "has", "(I)Z"⟩
theorem ml_O_138 : Cond.methodLink "OneSelf" 138 y_Rows_has ∈ tb_g := (tb_at (i := 410) (by decide +kernel))
theorem mn_Rows_25 : ("OneSelf$Rows", 25, y_O_isBelow, "OneSelf") ∈ nw_m := by decide +kernel
theorem mt_Rows_has : mtV y_Rows_has prog_8_method_2_code 2 (some .boolean) 1 := ⟨(tb_at (i := 413) (by decide +kernel)), (tb_at (i := 5) (by decide +kernel)), (tb_at (i := 411) (by decide +kernel)), (tb_at (i := 412) (by decide +kernel)), ⟨by decide +kernel, by decide +kernel, by decide +kernel⟩⟩
theorem ml_O_141 : Cond.methodLink "OneSelf" 141 y_Rows_fact ∈ tb_g := (tb_at (i := 415) (by decide +kernel))
def y_Rows_takeAway : MethodName := ⟨"OneSelf$Rows", "takeAway", "(I)V"⟩
theorem ml_O_144 : Cond.methodLink "OneSelf" 144 y_Rows_takeAway ∈ tb_g := (tb_at (i := 416) (by decide +kernel))
theorem mt_Rows_takeAway : mtV y_Rows_takeAway prog_8_method_6_code 2 none 1 := ⟨(tb_at (i := 419) (by decide +kernel)), (tb_at (i := 5) (by decide +kernel)), (tb_at (i := 417) (by decide +kernel)), (tb_at (i := 418) (by decide +kernel)), ⟨by decide +kernel, by decide +kernel, by decide +kernel⟩⟩
def y_O_about : MethodName := ⟨"OneSelf", "about", "(II)I"⟩
def y_Rows_isKnown : MethodName := ⟨"OneSelf$Rows", "isKnown", "(I)Z"⟩
theorem ml_O_148 : Cond.methodLink "OneSelf" 148 y_Rows_isKnown ∈ tb_g := (tb_at (i := 424) (by decide +kernel))
theorem fl_Rows_18 : Cond.fieldLink "OneSelf$Rows" 18 "OneSelf$Rows" "asOf" "I" ∈ tb_g := (tb_at (i := 74) (by decide +kernel))
theorem mt_Rows_isKnown : mtV y_Rows_isKnown prog_8_method_10_code 4 (some .boolean) 1 := ⟨(tb_at (i := 427) (by decide +kernel)), (tb_at (i := 5) (by decide +kernel)), (tb_at (i := 425) (by decide +kernel)), (tb_at (i := 426) (by decide +kernel)), ⟨by decide +kernel, by decide +kernel, by decide +kernel⟩⟩
def y_O_asInt : MethodName := ⟨"OneSelf", "asInt", "(Z)I"⟩
theorem ml_O_151 : Cond.methodLink "OneSelf" 151 y_O_asInt ∈ tb_g := (tb_at (i := 428) (by decide +kernel))
theorem mt_O_asInt : mtS y_O_asInt prog_1_method_48_code 1 (some .int) 1 := ⟨(tb_at (i := 430) (by decide +kernel)), (tb_at (i := 1) (by decide +kernel)), (tb_at (i := 429) (by decide +kernel)), ⟨by decide +kernel, by decide +kernel, by decide +kernel⟩⟩
def y_O_letter : MethodName := ⟨"OneSelf", "letter", "(II)I"⟩
theorem ml_O_155 : Cond.methodLink "OneSelf" 155 y_Rows_letterAt ∈ tb_g := (tb_at (i := 435) (by decide +kernel))
def y_O_asOf : MethodName := ⟨"OneSelf", "asOf", "(I)I"⟩
theorem fn_O_158 : ("OneSelf", 158, "OneSelf$Rows", "asOf", "I", "OneSelf") ∈ nw_f := by decide +kernel
def y_O_way : MethodName := ⟨"OneSelf", "way", "(III)I"⟩
theorem fl_O_42 : Cond.fieldLink "OneSelf" 42 "OneSelf" "weights" "LOneSelf$Weights;" ∈ tb_g := (tb_at (i := 290) (by decide +kernel))
def y_Weights_tellWay : MethodName := ⟨"OneSelf$Weights", "tellWay", "(III)I"⟩
theorem ml_O_161 : Cond.methodLink "OneSelf" 161 y_Weights_tellWay ∈ tb_g := (tb_at (i := 444) (by decide +kernel))
theorem fl_Weights_9 : Cond.fieldLink "OneSelf$Weights" 9 "OneSelf$Weights" "ways" "[I" ∈ tb_g := (tb_at (i := 141) (by decide +kernel))
theorem mt_Weights_tellWay : mtV y_Weights_tellWay prog_12_method_2_code 5 (some .int) 3 := ⟨(tb_at (i := 447) (by decide +kernel)), (tb_at (i := 8) (by decide +kernel)), (tb_at (i := 445) (by decide +kernel)), (tb_at (i := 446) (by decide +kernel)), ⟨by decide +kernel, by decide +kernel, by decide +kernel⟩⟩
def y_O_type : MethodName := ⟨"OneSelf", "type", "(I)I"⟩
theorem fn_O_167 : ("OneSelf", 167, "OneSelf$Sounds", "many", "I", "OneSelf") ∈ nw_f := by decide +kernel
def y_Sounds_addByte : MethodName := ⟨"OneSelf$Sounds", "addByte", "(I)V"⟩
theorem ml_O_168 : Cond.methodLink "OneSelf" 168 y_Sounds_addByte ∈ tb_g := (tb_at (i := 452) (by decide +kernel))
theorem fl_Sounds_30 : Cond.fieldLink "OneSelf$Sounds" 30 "OneSelf$Sounds" "many" "I" ∈ tb_g := (tb_at (i := 111) (by decide +kernel))
theorem fl_Sounds_11 : Cond.fieldLink "OneSelf$Sounds" 11 "OneSelf$Sounds" "text" "[I" ∈ tb_g := (tb_at (i := 107) (by decide +kernel))
def y_Sounds_read : MethodName := ⟨"OneSelf$Sounds", "read", "()V"⟩
theorem ml_Sounds_34 : Cond.methodLink "OneSelf$Sounds" 34 y_Sounds_read ∈ tb_g := (tb_at (i := 456) (by decide +kernel))
def y_Sounds_firstFault : MethodName := ⟨"OneSelf$Sounds", "firstFault", "()I"⟩
theorem ml_Sounds_37 : Cond.methodLink "OneSelf$Sounds" 37 y_Sounds_firstFault ∈ tb_g := (tb_at (i := 460) (by decide +kernel))
def y_Sounds_dueBehind : MethodName := ⟨"OneSelf$Sounds", "dueBehind", "(II)I"⟩
theorem ml_Sounds_51 : Cond.methodLink "OneSelf$Sounds" 51 y_Sounds_dueBehind ∈ tb_g := (tb_at (i := 464) (by decide +kernel))
theorem mn_Sounds_48 : ("OneSelf$Sounds", 48, y_O_isLetter, "OneSelf") ∈ nw_m := by decide +kernel
def y_O_isFigure : MethodName := ⟨"OneSelf", "isFigure", "(I)Z"⟩
theorem mn_Sounds_44 : ("OneSelf$Sounds", 44, y_O_isFigure, "OneSelf") ∈ nw_m := by decide +kernel
theorem mt_O_isFigure : mtS y_O_isFigure prog_1_method_46_code 1 (some .boolean) 1 := ⟨(tb_at (i := 470) (by decide +kernel)), (tb_at (i := 1) (by decide +kernel)), (tb_at (i := 469) (by decide +kernel)), ⟨by decide +kernel, by decide +kernel, by decide +kernel⟩⟩
theorem mt_Sounds_dueBehind : mtS y_Sounds_dueBehind prog_11_method_6_code 2 (some .int) 2 := ⟨(tb_at (i := 466) (by decide +kernel)), (tb_at (i := 7) (by decide +kernel)), (tb_at (i := 465) (by decide +kernel)), ⟨by decide +kernel, by decide +kernel, by decide +kernel⟩⟩
theorem mt_Sounds_firstFault : mtV y_Sounds_firstFault prog_11_method_5_code 6 (some .int) 0 := ⟨(tb_at (i := 463) (by decide +kernel)), (tb_at (i := 7) (by decide +kernel)), (tb_at (i := 462) (by decide +kernel)), (tb_pr (i := 4) (by decide +kernel)), ⟨by decide +kernel, by decide +kernel, by decide +kernel⟩⟩
theorem fl_Sounds_41 : Cond.fieldLink "OneSelf$Sounds" 41 "OneSelf$Sounds" "fault" "I" ∈ tb_g := (tb_at (i := 113) (by decide +kernel))
def y_Arrays_fill_IIV : MethodName := ⟨"java/util/Arrays", "fill", "([II)V"⟩
theorem ml_Sounds_24 : Cond.methodLink "OneSelf$Sounds" 24 y_Arrays_fill_IIV ∈ tb_g := (tb_at (i := 106) (by decide +kernel))
theorem mt_Arrays_fill_IIV : mtS y_Arrays_fill_IIV prog_18_method_103_code 4 none 2 := ⟨(tb_at (i := 34) (by decide +kernel)), (tb_at (i := 3) (by decide +kernel)), (tb_at (i := 33) (by decide +kernel)), ⟨by decide +kernel, by decide +kernel, by decide +kernel⟩⟩
theorem mt_Sounds_read : mtV y_Sounds_read prog_11_method_4_code 3 none 0 := ⟨(tb_at (i := 459) (by decide +kernel)), (tb_at (i := 7) (by decide +kernel)), (tb_at (i := 458) (by decide +kernel)), (tb_pr (i := 3) (by decide +kernel)), ⟨by decide +kernel, by decide +kernel, by decide +kernel⟩⟩
theorem mt_Sounds_addByte : mtV y_Sounds_addByte prog_11_method_2_code 2 none 1 := ⟨(tb_at (i := 455) (by decide +kernel)), (tb_at (i := 7) (by decide +kernel)), (tb_at (i := 453) (by decide +kernel)), (tb_at (i := 454) (by decide +kernel)), ⟨by decide +kernel, by decide +kernel, by decide +kernel⟩⟩
def y_Sounds_hearAll : MethodName := ⟨"OneSelf$Sounds", "hearAll", "(LOneSelf$Rows;)V"⟩
theorem ml_O_171 : Cond.methodLink "OneSelf" 171 y_Sounds_hearAll ∈ tb_g := (tb_at (i := 471) (by decide +kernel))
theorem fn_Sounds_55 : ("OneSelf$Sounds", 55, "OneSelf$Rows", "many", "I", "OneSelf") ∈ nw_f := by decide +kernel
theorem ml_Sounds_58 : Cond.methodLink "OneSelf$Sounds" 58 y_Sounds_hear ∈ tb_g := (tb_at (i := 475) (by decide +kernel))
theorem mt_Sounds_hearAll : mtV y_Sounds_hearAll prog_11_method_7_code 3 none 1 := ⟨(tb_at (i := 474) (by decide +kernel)), (tb_at (i := 7) (by decide +kernel)), (tb_at (i := 472) (by decide +kernel)), (tb_at (i := 473) (by decide +kernel)), ⟨by decide +kernel, by decide +kernel, by decide +kernel⟩⟩
def y_O_wipe : MethodName := ⟨"OneSelf", "wipe", "()I"⟩
def y_Sounds_empty : MethodName := ⟨"OneSelf$Sounds", "empty", "()V"⟩
theorem ml_O_175 : Cond.methodLink "OneSelf" 175 y_Sounds_empty ∈ tb_g := (tb_at (i := 480) (by decide +kernel))
theorem mt_Sounds_empty : mtV y_Sounds_empty prog_11_method_3_code 1 none 0 := ⟨(tb_at (i := 483) (by decide +kernel)), (tb_at (i := 7) (by decide +kernel)), (tb_at (i := 481) (by decide +kernel)), (tb_at (i := 482) (by decide +kernel)), ⟨by decide +kernel, by decide +kernel, by decide +kernel⟩⟩
def y_O_fault : MethodName := ⟨"OneSelf", "fault", "()I"⟩
theorem fn_O_178 : ("OneSelf", 178, "OneSelf$Sounds", "fault", "I", "OneSelf") ∈ nw_f := by decide +kernel
def y_O_sound : MethodName := ⟨"OneSelf", "sound", "(II)I"⟩
def y_Sounds_lengthOf : MethodName := ⟨"OneSelf$Sounds", "lengthOf", "(I)I"⟩
theorem ml_O_181 : Cond.methodLink "OneSelf" 181 y_Sounds_lengthOf ∈ tb_g := (tb_at (i := 492) (by decide +kernel))
theorem mt_Sounds_lengthOf : mtV y_Sounds_lengthOf prog_11_method_10_code 2 (some .int) 1 := ⟨(tb_at (i := 495) (by decide +kernel)), (tb_at (i := 7) (by decide +kernel)), (tb_at (i := 493) (by decide +kernel)), (tb_at (i := 494) (by decide +kernel)), ⟨by decide +kernel, by decide +kernel, by decide +kernel⟩⟩
def y_Sounds_signAt : MethodName := ⟨"OneSelf$Sounds", "signAt", "(II)I"⟩
theorem ml_O_184 : Cond.methodLink "OneSelf" 184 y_Sounds_signAt ∈ tb_g := (tb_at (i := 496) (by decide +kernel))
theorem mt_Sounds_signAt : mtV y_Sounds_signAt prog_11_method_11_code 3 (some .int) 2 := ⟨(tb_at (i := 499) (by decide +kernel)), (tb_at (i := 7) (by decide +kernel)), (tb_at (i := 497) (by decide +kernel)), (tb_at (i := 498) (by decide +kernel)), ⟨by decide +kernel, by decide +kernel, by decide +kernel⟩⟩
def y_O_slips : MethodName := ⟨"OneSelf", "slips", "(II)I"⟩
def y_Slips_between : MethodName := ⟨"OneSelf$Slips", "between", "(II)I"⟩
theorem ml_O_187 : Cond.methodLink "OneSelf" 187 y_Slips_between ∈ tb_g := (tb_at (i := 504) (by decide +kernel))
theorem mt_Slips_between : mtV y_Slips_between prog_10_method_2_code 3 (some .int) 2 := ⟨(tb_at (i := 507) (by decide +kernel)), (tb_at (i := 6) (by decide +kernel)), (tb_at (i := 505) (by decide +kernel)), (tb_at (i := 506) (by decide +kernel)), ⟨by decide +kernel, by decide +kernel, by decide +kernel⟩⟩
def y_O_level : MethodName := ⟨"OneSelf", "level", "(III)I"⟩
def y_Rows_arePair : MethodName := ⟨"OneSelf$Rows", "arePair", "(II)Z"⟩
theorem ml_O_190 : Cond.methodLink "OneSelf" 190 y_Rows_arePair ∈ tb_g := (tb_at (i := 512) (by decide +kernel))
theorem ml_Rows_29 : Cond.methodLink "OneSelf$Rows" 29 y_Rows_has ∈ tb_g := (tb_at (i := 516) (by decide +kernel))
theorem mt_Rows_arePair : mtV y_Rows_arePair prog_8_method_3_code 3 (some .boolean) 2 := ⟨(tb_at (i := 515) (by decide +kernel)), (tb_at (i := 5) (by decide +kernel)), (tb_at (i := 513) (by decide +kernel)), (tb_at (i := 514) (by decide +kernel)), ⟨by decide +kernel, by decide +kernel, by decide +kernel⟩⟩
theorem fl_O_19 : Cond.fieldLink "OneSelf" 19 "OneSelf" "pairs" "LOneSelf$Pairs;" ∈ tb_g := (tb_at (i := 286) (by decide +kernel))
def y_Pairs_levelOf : MethodName := ⟨"OneSelf$Pairs", "levelOf", "(III)I"⟩
theorem ml_O_193 : Cond.methodLink "OneSelf" 193 y_Pairs_levelOf ∈ tb_g := (tb_at (i := 517) (by decide +kernel))
theorem fl_Pairs_21 : Cond.fieldLink "OneSelf$Pairs" 21 "OneSelf$Pairs" "slips" "LOneSelf$Slips;" ∈ tb_g := (tb_at (i := 167) (by decide +kernel))
theorem ml_Pairs_39 : Cond.methodLink "OneSelf$Pairs" 39 y_Slips_between ∈ tb_g := (tb_at (i := 521) (by decide +kernel))
theorem fl_Pairs_28 : Cond.fieldLink "OneSelf$Pairs" 28 "OneSelf$Pairs" "sounds" "LOneSelf$Sounds;" ∈ tb_g := (tb_at (i := 169) (by decide +kernel))
def y_Sounds_areAlike : MethodName := ⟨"OneSelf$Sounds", "areAlike", "(II)Z"⟩
theorem ml_Pairs_43 : Cond.methodLink "OneSelf$Pairs" 43 y_Sounds_areAlike ∈ tb_g := (tb_at (i := 522) (by decide +kernel))
theorem mt_Sounds_areAlike : mtV y_Sounds_areAlike prog_11_method_12_code 4 (some .boolean) 2 := ⟨(tb_at (i := 525) (by decide +kernel)), (tb_at (i := 7) (by decide +kernel)), (tb_at (i := 523) (by decide +kernel)), (tb_at (i := 524) (by decide +kernel)), ⟨by decide +kernel, by decide +kernel, by decide +kernel⟩⟩
theorem fl_Pairs_12 : Cond.fieldLink "OneSelf$Pairs" 12 "OneSelf$Pairs" "rows" "LOneSelf$Rows;" ∈ tb_g := (tb_at (i := 160) (by decide +kernel))
theorem ml_Pairs_47 : Cond.methodLink "OneSelf$Pairs" 47 y_Rows_fact ∈ tb_g := (tb_at (i := 526) (by decide +kernel))
def y_Math_abs : MethodName := ⟨"java/lang/Math", "abs", "(I)I"⟩
theorem ml_Pairs_50 : Cond.methodLink "OneSelf$Pairs" 50 y_Math_abs ∈ tb_g := (tb_at (i := 527) (by decide +kernel))
theorem mM_abs : Cond.static Lib.Math.abs.name ∈ tb_g ∧ Cond.initialized "java/lang/Math" ∈ tb_g ∧ Cond.code Lib.Math.abs.name Lib.Math.abs.code 1 (some .int) ∈ tb_g := ⟨(tb_at (i := 528) (by decide +kernel)), (tb_at (i := 15) (by decide +kernel)), (tb_at (i := 529) (by decide +kernel))⟩
theorem fl_Pairs_35 : Cond.fieldLink "OneSelf$Pairs" 35 "OneSelf$Pairs" "weights" "LOneSelf$Weights;" ∈ tb_g := (tb_at (i := 171) (by decide +kernel))
def y_Weights_wayBetween : MethodName := ⟨"OneSelf$Weights", "wayBetween", "(II)I"⟩
theorem ml_Pairs_56 : Cond.methodLink "OneSelf$Pairs" 56 y_Weights_wayBetween ∈ tb_g := (tb_at (i := 530) (by decide +kernel))
theorem mt_Weights_wayBetween : mtV y_Weights_wayBetween prog_12_method_3_code 3 (some .int) 2 := ⟨(tb_at (i := 533) (by decide +kernel)), (tb_at (i := 8) (by decide +kernel)), (tb_at (i := 531) (by decide +kernel)), (tb_at (i := 532) (by decide +kernel)), ⟨by decide +kernel, by decide +kernel, by decide +kernel⟩⟩
theorem mt_Pairs_levelOf : mtV y_Pairs_levelOf prog_7_method_2_code 7 (some .int) 3 := ⟨(tb_at (i := 520) (by decide +kernel)), (tb_at (i := 4) (by decide +kernel)), (tb_at (i := 518) (by decide +kernel)), (tb_at (i := 519) (by decide +kernel)), ⟨by decide +kernel, by decide +kernel, by decide +kernel⟩⟩
def y_O_points : MethodName := ⟨"OneSelf", "points", "(III)I"⟩
def y_Weights_tellPoints : MethodName := ⟨"OneSelf$Weights", "tellPoints", "(III)I"⟩
theorem ml_O_196 : Cond.methodLink "OneSelf" 196 y_Weights_tellPoints ∈ tb_g := (tb_at (i := 538) (by decide +kernel))
def y_Weights_pointsFor : MethodName := ⟨"OneSelf$Weights", "pointsFor", "(II)I"⟩
theorem ml_Weights_43 : Cond.methodLink "OneSelf$Weights" 43 y_Weights_pointsFor ∈ tb_g := (tb_at (i := 542) (by decide +kernel))
theorem fl_Weights_15 : Cond.fieldLink "OneSelf$Weights" 15 "OneSelf$Weights" "points" "[I" ∈ tb_g := (tb_at (i := 142) (by decide +kernel))
theorem mt_Weights_pointsFor : mtV y_Weights_pointsFor prog_12_method_5_code 3 (some .int) 2 := ⟨(tb_at (i := 545) (by decide +kernel)), (tb_at (i := 8) (by decide +kernel)), (tb_at (i := 543) (by decide +kernel)), (tb_at (i := 544) (by decide +kernel)), ⟨by decide +kernel, by decide +kernel, by decide +kernel⟩⟩
theorem mt_Weights_tellPoints : mtV y_Weights_tellPoints prog_12_method_4_code 5 (some .int) 3 := ⟨(tb_at (i := 541) (by decide +kernel)), (tb_at (i := 8) (by decide +kernel)), (tb_at (i := 539) (by decide +kernel)), (tb_at (i := 540) (by decide +kernel)), ⟨by decide +kernel, by decide +kernel, by decide +kernel⟩⟩
def y_O_score : MethodName := ⟨"OneSelf", "score", "(II)I"⟩
def y_Pairs_scoreOf : MethodName := ⟨"OneSelf$Pairs", "scoreOf", "(II)I"⟩
theorem ml_O_199 : Cond.methodLink "OneSelf" 199 y_Pairs_scoreOf ∈ tb_g := (tb_at (i := 550) (by decide +kernel))
theorem ml_Pairs_59 : Cond.methodLink "OneSelf$Pairs" 59 y_Pairs_levelOf ∈ tb_g := (tb_at (i := 554) (by decide +kernel))
theorem ml_Pairs_63 : Cond.methodLink "OneSelf$Pairs" 63 y_Weights_pointsFor ∈ tb_g := (tb_at (i := 555) (by decide +kernel))
theorem mt_Pairs_scoreOf : mtV y_Pairs_scoreOf prog_7_method_3_code 6 (some .int) 2 := ⟨(tb_at (i := 553) (by decide +kernel)), (tb_at (i := 4) (by decide +kernel)), (tb_at (i := 551) (by decide +kernel)), (tb_at (i := 552) (by decide +kernel)), ⟨by decide +kernel, by decide +kernel, by decide +kernel⟩⟩
def y_O_chance : MethodName := ⟨"OneSelf", "chance", "(ZIII)I"⟩
def y_Weights_tellChance : MethodName := ⟨"OneSelf$Weights", "tellChance", "(ZIII)I"⟩
theorem ml_O_202 : Cond.methodLink "OneSelf" 202 y_Weights_tellChance ∈ tb_g := (tb_at (i := 560) (by decide +kernel))
def y_Weights_chanceFor : MethodName := ⟨"OneSelf$Weights", "chanceFor", "(ZII)I"⟩
theorem ml_Weights_47 : Cond.methodLink "OneSelf$Weights" 47 y_Weights_chanceFor ∈ tb_g := (tb_at (i := 564) (by decide +kernel))
theorem fl_Weights_21 : Cond.fieldLink "OneSelf$Weights" 21 "OneSelf$Weights" "chancesOfNot" "[I" ∈ tb_g := (tb_at (i := 144) (by decide +kernel))
theorem fl_Weights_18 : Cond.fieldLink "OneSelf$Weights" 18 "OneSelf$Weights" "chancesOfOne" "[I" ∈ tb_g := (tb_at (i := 143) (by decide +kernel))
theorem mt_Weights_chanceFor : mtV y_Weights_chanceFor prog_12_method_7_code 5 (some .int) 3 := ⟨(tb_at (i := 567) (by decide +kernel)), (tb_at (i := 8) (by decide +kernel)), (tb_at (i := 565) (by decide +kernel)), (tb_at (i := 566) (by decide +kernel)), ⟨by decide +kernel, by decide +kernel, by decide +kernel⟩⟩
theorem mt_Weights_tellChance : mtV y_Weights_tellChance prog_12_method_6_code 6 (some .int) 4 := ⟨(tb_at (i := 563) (by decide +kernel)), (tb_at (i := 8) (by decide +kernel)), (tb_at (i := 561) (by decide +kernel)), (tb_at (i := 562) (by decide +kernel)), ⟨by decide +kernel, by decide +kernel, by decide +kernel⟩⟩
def y_O_odds : MethodName := ⟨"OneSelf", "odds", "(III)J"⟩
theorem kc_O_206 : Cond.constantLong "OneSelf" 206 (-9223372036854775808 : Int64) ∈ tb_g := (tb_at (i := 572) (by decide +kernel))
def y_Pairs_chancesOf : MethodName := ⟨"OneSelf$Pairs", "chancesOf", "(IIZ)J"⟩
theorem ml_O_208 : Cond.methodLink "OneSelf" 208 y_Pairs_chancesOf ∈ tb_g := (tb_at (i := 573) (by decide +kernel))
theorem ml_Pairs_66 : Cond.methodLink "OneSelf$Pairs" 66 y_Weights_chanceFor ∈ tb_g := (tb_at (i := 577) (by decide +kernel))
theorem mt_Pairs_chancesOf : mtV y_Pairs_chancesOf prog_7_method_4_code 8 (some .long) 3 := ⟨(tb_at (i := 576) (by decide +kernel)), (tb_at (i := 4) (by decide +kernel)), (tb_at (i := 574) (by decide +kernel)), (tb_at (i := 575) (by decide +kernel)), ⟨by decide +kernel, by decide +kernel, by decide +kernel⟩⟩
def y_Pairs_greatestDivisor : MethodName := ⟨"OneSelf$Pairs", "greatestDivisor", "(JJ)J"⟩
theorem ml_O_212 : Cond.methodLink "OneSelf" 212 y_Pairs_greatestDivisor ∈ tb_g := (tb_at (i := 578) (by decide +kernel))
def y_Math_max_JJJ : MethodName := ⟨"java/lang/Math", "max", "(JJ)J"⟩
theorem ml_Pairs_70 : Cond.methodLink "OneSelf$Pairs" 70 y_Math_max_JJJ ∈ tb_g := (tb_at (i := 581) (by decide +kernel))
theorem mM_max_long : Cond.static Lib.MathLoose.max_long.x ∈ tb_g ∧ Cond.initialized "java/lang/Math" ∈ tb_g ∧ Cond.code Lib.MathLoose.max_long.x Lib.MathLoose.max_long.code 4 (some .long) ∈ tb_g := ⟨(tb_at (i := 582) (by decide +kernel)), (tb_at (i := 15) (by decide +kernel)), (tb_at (i := 583) (by decide +kernel))⟩
theorem mt_Pairs_greatestDivisor : mtS y_Pairs_greatestDivisor prog_7_method_5_code 11 (some .long) 2 := ⟨(tb_at (i := 580) (by decide +kernel)), (tb_at (i := 4) (by decide +kernel)), (tb_at (i := 579) (by decide +kernel)), ⟨by decide +kernel, by decide +kernel, by decide +kernel⟩⟩
def y_O_belief : MethodName := ⟨"OneSelf", "belief", "(IIII)I"⟩
theorem kc_O_216 : Cond.constant "OneSelf" 216 (100000 : Int32) ∈ tb_g := (tb_at (i := 588) (by decide +kernel))
def y_Pairs_millionths : MethodName := ⟨"OneSelf$Pairs", "millionths", "(JJ)I"⟩
theorem ml_O_217 : Cond.methodLink "OneSelf" 217 y_Pairs_millionths ∈ tb_g := (tb_at (i := 589) (by decide +kernel))
theorem kc_Pairs_74 : Cond.constantLong "OneSelf$Pairs" 74 (10 : Int64) ∈ tb_g := (tb_at (i := 592) (by decide +kernel))
theorem mt_Pairs_millionths : mtS y_Pairs_millionths prog_7_method_6_code 8 (some .int) 2 := ⟨(tb_at (i := 591) (by decide +kernel)), (tb_at (i := 4) (by decide +kernel)), (tb_at (i := 590) (by decide +kernel)), ⟨by decide +kernel, by decide +kernel, by decide +kernel⟩⟩
def y_O_line : MethodName := ⟨"OneSelf", "line", "(I)I"⟩
theorem fn_O_221 : ("OneSelf", 221, "OneSelf$Weights", "line", "I", "OneSelf") ∈ nw_f := by decide +kernel
def y_O_links : MethodName := ⟨"OneSelf", "links", "()I"⟩
def y_Pairs_countLinks : MethodName := ⟨"OneSelf$Pairs", "countLinks", "()I"⟩
theorem ml_O_224 : Cond.methodLink "OneSelf" 224 y_Pairs_countLinks ∈ tb_g := (tb_at (i := 601) (by decide +kernel))
theorem fn_Pairs_86 : ("OneSelf$Pairs", 86, "OneSelf$Rows", "many", "I", "OneSelf") ∈ nw_f := by decide +kernel
def y_Pairs_areLinked : MethodName := ⟨"OneSelf$Pairs", "areLinked", "(II)Z"⟩
theorem ml_Pairs_89 : Cond.methodLink "OneSelf$Pairs" 89 y_Pairs_areLinked ∈ tb_g := (tb_at (i := 605) (by decide +kernel))
def y_Rows_areKnown : MethodName := ⟨"OneSelf$Rows", "areKnown", "(II)Z"⟩
theorem ml_Pairs_76 : Cond.methodLink "OneSelf$Pairs" 76 y_Rows_areKnown ∈ tb_g := (tb_at (i := 609) (by decide +kernel))
theorem ml_Rows_43 : Cond.methodLink "OneSelf$Rows" 43 y_Rows_isKnown ∈ tb_g := (tb_at (i := 613) (by decide +kernel))
theorem mt_Rows_areKnown : mtV y_Rows_areKnown prog_8_method_11_code 3 (some .boolean) 2 := ⟨(tb_at (i := 612) (by decide +kernel)), (tb_at (i := 5) (by decide +kernel)), (tb_at (i := 610) (by decide +kernel)), (tb_at (i := 611) (by decide +kernel)), ⟨by decide +kernel, by decide +kernel, by decide +kernel⟩⟩
theorem ml_Pairs_79 : Cond.methodLink "OneSelf$Pairs" 79 y_Pairs_scoreOf ∈ tb_g := (tb_at (i := 614) (by decide +kernel))
theorem fn_Pairs_82 : ("OneSelf$Pairs", 82, "OneSelf$Weights", "line", "I", "OneSelf") ∈ nw_f := by decide +kernel
theorem mt_Pairs_areLinked : mtV y_Pairs_areLinked prog_7_method_7_code 3 (some .boolean) 2 := ⟨(tb_at (i := 608) (by decide +kernel)), (tb_at (i := 4) (by decide +kernel)), (tb_at (i := 606) (by decide +kernel)), (tb_at (i := 607) (by decide +kernel)), ⟨by decide +kernel, by decide +kernel, by decide +kernel⟩⟩
theorem mt_Pairs_countLinks : mtV y_Pairs_countLinks prog_7_method_8_code 4 (some .int) 0 := ⟨(tb_at (i := 604) (by decide +kernel)), (tb_at (i := 4) (by decide +kernel)), (tb_at (i := 602) (by decide +kernel)), (tb_at (i := 603) (by decide +kernel)), ⟨by decide +kernel, by decide +kernel, by decide +kernel⟩⟩
def y_O_laid : MethodName := ⟨"OneSelf", "laid", "(III)I"⟩
theorem fl_O_46 : Cond.fieldLink "OneSelf" 46 "OneSelf" "laying" "LOneSelf$Laying;" ∈ tb_g := (tb_at (i := 291) (by decide +kernel))
def y_Laying_lay : MethodName := ⟨"OneSelf$Laying", "lay", "(LOneSelf$Pairs;II)Z"⟩
theorem ml_O_228 : Cond.methodLink "OneSelf" 228 y_Laying_lay ∈ tb_g := (tb_at (i := 619) (by decide +kernel))
theorem fn_Laying_25 : ("OneSelf$Laying", 25, "OneSelf$Pairs", "rows", "LOneSelf$Rows;", "OneSelf") ∈ nw_f := by decide +kernel
theorem fl_Laying_11 : Cond.fieldLink "OneSelf$Laying" 11 "OneSelf$Laying" "left" "[I" ∈ tb_g := (tb_at (i := 189) (by decide +kernel))
def y_Laying_list : MethodName := ⟨"OneSelf$Laying", "list", "(LOneSelf$Rows;I[I)I"⟩
theorem ml_Laying_31 : Cond.methodLink "OneSelf$Laying" 31 y_Laying_list ∈ tb_g := (tb_at (i := 623) (by decide +kernel))
theorem fn_Laying_63 : ("OneSelf$Laying", 63, "OneSelf$Rows", "many", "I", "OneSelf") ∈ nw_f := by decide +kernel
theorem ml_Laying_68 : Cond.methodLink "OneSelf$Laying" 68 y_Rows_isKnown ∈ tb_g := (tb_at (i := 626) (by decide +kernel))
theorem ml_Laying_72 : Cond.methodLink "OneSelf$Laying" 72 y_Rows_fact ∈ tb_g := (tb_at (i := 627) (by decide +kernel))
theorem mt_Laying_list : mtS y_Laying_list prog_6_method_3_code 5 (some .int) 3 := ⟨(tb_at (i := 625) (by decide +kernel)), (tb_at (i := 9) (by decide +kernel)), (tb_at (i := 624) (by decide +kernel)), ⟨by decide +kernel, by decide +kernel, by decide +kernel⟩⟩
theorem fl_Laying_35 : Cond.fieldLink "OneSelf$Laying" 35 "OneSelf$Laying" "lefts" "I" ∈ tb_g := (tb_at (i := 193) (by decide +kernel))
theorem fl_Laying_15 : Cond.fieldLink "OneSelf$Laying" 15 "OneSelf$Laying" "right" "[I" ∈ tb_g := (tb_at (i := 190) (by decide +kernel))
theorem fl_Laying_39 : Cond.fieldLink "OneSelf$Laying" 39 "OneSelf$Laying" "rights" "I" ∈ tb_g := (tb_at (i := 194) (by decide +kernel))
theorem fl_Laying_22 : Cond.fieldLink "OneSelf$Laying" 22 "OneSelf$Laying" "best" "[J" ∈ tb_g := (tb_at (i := 192) (by decide +kernel))
def y_Arrays_fill_JJV : MethodName := ⟨"java/util/Arrays", "fill", "([JJ)V"⟩
theorem ml_Laying_42 : Cond.methodLink "OneSelf$Laying" 42 y_Arrays_fill_JJV ∈ tb_g := (tb_at (i := 628) (by decide +kernel))
theorem mt_Arrays_fill_JJV : mtS y_Arrays_fill_JJV prog_18_method_101_code 5 none 2 := ⟨(tb_at (i := 630) (by decide +kernel)), (tb_at (i := 3) (by decide +kernel)), (tb_at (i := 629) (by decide +kernel)), ⟨by decide +kernel, by decide +kernel, by decide +kernel⟩⟩
theorem kc_Laying_48 : Cond.constantLong "OneSelf$Laying" 48 (2357947691 : Int64) ∈ tb_g := (tb_at (i := 631) (by decide +kernel))
theorem fl_Laying_59 : Cond.fieldLink "OneSelf$Laying" 59 "OneSelf$Laying" "whole" "J" ∈ tb_g := (tb_at (i := 195) (by decide +kernel))
def y_Laying_weigh : MethodName := ⟨"OneSelf$Laying", "weigh", "(LOneSelf$Pairs;IJ)Z"⟩
theorem ml_Laying_50 : Cond.methodLink "OneSelf$Laying" 50 y_Laying_weigh ∈ tb_g := (tb_at (i := 632) (by decide +kernel))
theorem ml_Laying_76 : Cond.methodLink "OneSelf$Laying" 76 y_Pairs_scoreOf ∈ tb_g := (tb_at (i := 636) (by decide +kernel))
theorem fn_Laying_79 : ("OneSelf$Laying", 79, "OneSelf$Pairs", "weights", "LOneSelf$Weights;", "OneSelf") ∈ nw_f := by decide +kernel
theorem fn_Laying_83 : ("OneSelf$Laying", 83, "OneSelf$Weights", "line", "I", "OneSelf") ∈ nw_f := by decide +kernel
theorem fl_Laying_18 : Cond.fieldLink "OneSelf$Laying" 18 "OneSelf$Laying" "gains" "[J" ∈ tb_g := (tb_at (i := 191) (by decide +kernel))
theorem kc_Laying_88 : Cond.constantLong "OneSelf$Laying" 88 (25937424601 : Int64) ∈ tb_g := (tb_at (i := 637) (by decide +kernel))
theorem mt_Laying_weigh : mtV y_Laying_weigh prog_6_method_4_code 10 (some .boolean) 3 := ⟨(tb_at (i := 635) (by decide +kernel)), (tb_at (i := 9) (by decide +kernel)), (tb_at (i := 634) (by decide +kernel)), (tb_pr (i := 5) (by decide +kernel)), ⟨by decide +kernel, by decide +kernel, by decide +kernel⟩⟩
def y_Laying_improve : MethodName := ⟨"OneSelf$Laying", "improve", "()V"⟩
theorem ml_Laying_54 : Cond.methodLink "OneSelf$Laying" 54 y_Laying_improve ∈ tb_g := (tb_at (i := 638) (by decide +kernel))
theorem ml_Laying_90 : Cond.methodLink "OneSelf$Laying" 90 y_Math_max_JJJ ∈ tb_g := (tb_at (i := 642) (by decide +kernel))
theorem mt_Laying_improve : mtV y_Laying_improve prog_6_method_5_code 4 none 0 := ⟨(tb_at (i := 641) (by decide +kernel)), (tb_at (i := 9) (by decide +kernel)), (tb_at (i := 640) (by decide +kernel)), (tb_pr (i := 6) (by decide +kernel)), ⟨by decide +kernel, by decide +kernel, by decide +kernel⟩⟩
theorem kc_Laying_57 : Cond.constantLong "OneSelf$Laying" 57 (11 : Int64) ∈ tb_g := (tb_at (i := 643) (by decide +kernel))
theorem mt_Laying_lay : mtV y_Laying_lay prog_6_method_2_code 7 (some .boolean) 3 := ⟨(tb_at (i := 622) (by decide +kernel)), (tb_at (i := 9) (by decide +kernel)), (tb_at (i := 620) (by decide +kernel)), (tb_at (i := 621) (by decide +kernel)), ⟨by decide +kernel, by decide +kernel, by decide +kernel⟩⟩
def y_Laying_countMates : MethodName := ⟨"OneSelf$Laying", "countMates", "()I"⟩
theorem ml_O_232 : Cond.methodLink "OneSelf" 232 y_Laying_countMates ∈ tb_g := (tb_at (i := 644) (by decide +kernel))
def y_Laying_figureOf : MethodName := ⟨"OneSelf$Laying", "figureOf", "(I)I"⟩
theorem ml_Laying_96 : Cond.methodLink "OneSelf$Laying" 96 y_Laying_figureOf ∈ tb_g := (tb_at (i := 648) (by decide +kernel))
theorem mt_Laying_figureOf : mtV y_Laying_figureOf prog_6_method_9_code 5 (some .int) 1 := ⟨(tb_at (i := 651) (by decide +kernel)), (tb_at (i := 9) (by decide +kernel)), (tb_at (i := 650) (by decide +kernel)), (tb_pr (i := 7) (by decide +kernel)), ⟨by decide +kernel, by decide +kernel, by decide +kernel⟩⟩
theorem mt_Laying_countMates : mtV y_Laying_countMates prog_6_method_7_code 3 (some .int) 0 := ⟨(tb_at (i := 647) (by decide +kernel)), (tb_at (i := 9) (by decide +kernel)), (tb_at (i := 645) (by decide +kernel)), (tb_at (i := 646) (by decide +kernel)), ⟨by decide +kernel, by decide +kernel, by decide +kernel⟩⟩
def y_Laying_sumOfAll : MethodName := ⟨"OneSelf$Laying", "sumOfAll", "()I"⟩
theorem ml_O_235 : Cond.methodLink "OneSelf" 235 y_Laying_sumOfAll ∈ tb_g := (tb_at (i := 652) (by decide +kernel))
theorem mt_Laying_sumOfAll : mtV y_Laying_sumOfAll prog_6_method_6_code 1 (some .int) 0 := ⟨(tb_at (i := 655) (by decide +kernel)), (tb_at (i := 9) (by decide +kernel)), (tb_at (i := 653) (by decide +kernel)), (tb_at (i := 654) (by decide +kernel)), ⟨by decide +kernel, by decide +kernel, by decide +kernel⟩⟩
def y_O_mate : MethodName := ⟨"OneSelf", "mate", "(II)I"⟩
def y_Laying_mateOf : MethodName := ⟨"OneSelf$Laying", "mateOf", "(I)I"⟩
theorem ml_O_238 : Cond.methodLink "OneSelf" 238 y_Laying_mateOf ∈ tb_g := (tb_at (i := 660) (by decide +kernel))
theorem mt_Laying_mateOf : mtV y_Laying_mateOf prog_6_method_8_code 4 (some .int) 1 := ⟨(tb_at (i := 663) (by decide +kernel)), (tb_at (i := 9) (by decide +kernel)), (tb_at (i := 661) (by decide +kernel)), (tb_at (i := 662) (by decide +kernel)), ⟨by decide +kernel, by decide +kernel, by decide +kernel⟩⟩
def y_O_bundle : MethodName := ⟨"OneSelf", "bundle", "(I)I"⟩
theorem fl_O_53 : Cond.fieldLink "OneSelf" 53 "OneSelf" "bundles" "LOneSelf$Bundles;" ∈ tb_g := (tb_at (i := 292) (by decide +kernel))
def y_Bundles_gather : MethodName := ⟨"OneSelf$Bundles", "gather", "(LOneSelf$Pairs;)V"⟩
theorem ml_O_241 : Cond.methodLink "OneSelf" 241 y_Bundles_gather ∈ tb_g := (tb_at (i := 668) (by decide +kernel))
theorem fn_Bundles_15 : ("OneSelf$Bundles", 15, "OneSelf$Pairs", "rows", "LOneSelf$Rows;", "OneSelf") ∈ nw_f := by decide +kernel
theorem fn_Bundles_21 : ("OneSelf$Bundles", 21, "OneSelf$Rows", "many", "I", "OneSelf") ∈ nw_f := by decide +kernel
theorem fl_Bundles_27 : Cond.fieldLink "OneSelf$Bundles" 27 "OneSelf$Bundles" "many" "I" ∈ tb_g := (tb_at (i := 219) (by decide +kernel))
theorem fl_Bundles_9 : Cond.fieldLink "OneSelf$Bundles" 9 "OneSelf$Bundles" "numbers" "[I" ∈ tb_g := (tb_at (i := 218) (by decide +kernel))
theorem ml_Bundles_28 : Cond.methodLink "OneSelf$Bundles" 28 y_Rows_isKnown ∈ tb_g := (tb_at (i := 672) (by decide +kernel))
theorem ml_Bundles_32 : Cond.methodLink "OneSelf$Bundles" 32 y_Pairs_areLinked ∈ tb_g := (tb_at (i := 673) (by decide +kernel))
def y_Bundles_join : MethodName := ⟨"OneSelf$Bundles", "join", "(II)V"⟩
theorem ml_Bundles_36 : Cond.methodLink "OneSelf$Bundles" 36 y_Bundles_join ∈ tb_g := (tb_at (i := 674) (by decide +kernel))
theorem ml_Bundles_40 : Cond.methodLink "OneSelf$Bundles" 40 y_Math_min ∈ tb_g := (tb_at (i := 678) (by decide +kernel))
def y_Math_max_III : MethodName := ⟨"java/lang/Math", "max", "(II)I"⟩
theorem ml_Bundles_46 : Cond.methodLink "OneSelf$Bundles" 46 y_Math_max_III ∈ tb_g := (tb_at (i := 679) (by decide +kernel))
theorem mM_max : Cond.static Lib.Math.max.name ∈ tb_g ∧ Cond.initialized "java/lang/Math" ∈ tb_g ∧ Cond.code Lib.Math.max.name Lib.Math.max.code 2 (some .int) ∈ tb_g := ⟨(tb_at (i := 680) (by decide +kernel)), (tb_at (i := 15) (by decide +kernel)), (tb_at (i := 681) (by decide +kernel))⟩
theorem mt_Bundles_join : mtV y_Bundles_join prog_2_method_3_code 6 none 2 := ⟨(tb_at (i := 677) (by decide +kernel)), (tb_at (i := 10) (by decide +kernel)), (tb_at (i := 676) (by decide +kernel)), (tb_pr (i := 8) (by decide +kernel)), ⟨by decide +kernel, by decide +kernel, by decide +kernel⟩⟩
theorem mt_Bundles_gather : mtV y_Bundles_gather prog_2_method_2_code 4 none 1 := ⟨(tb_at (i := 671) (by decide +kernel)), (tb_at (i := 10) (by decide +kernel)), (tb_at (i := 669) (by decide +kernel)), (tb_at (i := 670) (by decide +kernel)), ⟨by decide +kernel, by decide +kernel, by decide +kernel⟩⟩
def y_Bundles_numberOf : MethodName := ⟨"OneSelf$Bundles", "numberOf", "(I)I"⟩
theorem ml_O_245 : Cond.methodLink "OneSelf" 245 y_Bundles_numberOf ∈ tb_g := (tb_at (i := 682) (by decide +kernel))
theorem mt_Bundles_numberOf : mtV y_Bundles_numberOf prog_2_method_4_code 2 (some .int) 1 := ⟨(tb_at (i := 685) (by decide +kernel)), (tb_at (i := 10) (by decide +kernel)), (tb_at (i := 683) (by decide +kernel)), (tb_at (i := 684) (by decide +kernel)), ⟨by decide +kernel, by decide +kernel, by decide +kernel⟩⟩
def y_O_bundles : MethodName := ⟨"OneSelf", "bundles", "(I)I"⟩
def y_Bundles_greatest : MethodName := ⟨"OneSelf$Bundles", "greatest", "()I"⟩
theorem ml_O_248 : Cond.methodLink "OneSelf" 248 y_Bundles_greatest ∈ tb_g := (tb_at (i := 690) (by decide +kernel))
def y_Bundles_sizeOf : MethodName := ⟨"OneSelf$Bundles", "sizeOf", "(I)I"⟩
theorem ml_Bundles_49 : Cond.methodLink "OneSelf$Bundles" 49 y_Bundles_sizeOf ∈ tb_g := (tb_at (i := 694) (by decide +kernel))
theorem mt_Bundles_sizeOf : mtV y_Bundles_sizeOf prog_2_method_5_code 4 (some .int) 1 := ⟨(tb_at (i := 697) (by decide +kernel)), (tb_at (i := 10) (by decide +kernel)), (tb_at (i := 695) (by decide +kernel)), (tb_at (i := 696) (by decide +kernel)), ⟨by decide +kernel, by decide +kernel, by decide +kernel⟩⟩
theorem mt_Bundles_greatest : mtV y_Bundles_greatest prog_2_method_6_code 3 (some .int) 0 := ⟨(tb_at (i := 693) (by decide +kernel)), (tb_at (i := 10) (by decide +kernel)), (tb_at (i := 691) (by decide +kernel)), (tb_at (i := 692) (by decide +kernel)), ⟨by decide +kernel, by decide +kernel, by decide +kernel⟩⟩
def y_Bundles_countAll : MethodName := ⟨"OneSelf$Bundles", "countAll", "(LOneSelf$Rows;Z)I"⟩
theorem ml_O_251 : Cond.methodLink "OneSelf" 251 y_Bundles_countAll ∈ tb_g := (tb_at (i := 698) (by decide +kernel))
def y_Bundles_isTorn : MethodName := ⟨"OneSelf$Bundles", "isTorn", "(LOneSelf$Rows;I)Z"⟩
theorem ml_Bundles_53 : Cond.methodLink "OneSelf$Bundles" 53 y_Bundles_isTorn ∈ tb_g := (tb_at (i := 702) (by decide +kernel))
theorem ml_Bundles_57 : Cond.methodLink "OneSelf$Bundles" 57 y_Rows_fact ∈ tb_g := (tb_at (i := 706) (by decide +kernel))
theorem mt_Bundles_isTorn : mtV y_Bundles_isTorn prog_2_method_8_code 8 (some .boolean) 2 := ⟨(tb_at (i := 705) (by decide +kernel)), (tb_at (i := 10) (by decide +kernel)), (tb_at (i := 703) (by decide +kernel)), (tb_at (i := 704) (by decide +kernel)), ⟨by decide +kernel, by decide +kernel, by decide +kernel⟩⟩
theorem mt_Bundles_countAll : mtV y_Bundles_countAll prog_2_method_7_code 5 (some .int) 2 := ⟨(tb_at (i := 701) (by decide +kernel)), (tb_at (i := 10) (by decide +kernel)), (tb_at (i := 699) (by decide +kernel)), (tb_at (i := 700) (by decide +kernel)), ⟨by decide +kernel, by decide +kernel, by decide +kernel⟩⟩
def y_O_torn : MethodName := ⟨"OneSelf", "torn", "(I)I"⟩
theorem ml_O_255 : Cond.methodLink "OneSelf" 255 y_Bundles_isTorn ∈ tb_g := (tb_at (i := 711) (by decide +kernel))
def y_O_cut : MethodName := ⟨"OneSelf", "cut", "(II)I"⟩
theorem ml_O_259 : Cond.methodLink "OneSelf" 259 y_Rows_areKnown ∈ tb_g := (tb_at (i := 716) (by decide +kernel))
theorem ml_O_262 : Cond.methodLink "OneSelf" 262 y_Bundles_sizeOf ∈ tb_g := (tb_at (i := 717) (by decide +kernel))
theorem fl_O_60 : Cond.fieldLink "OneSelf" 60 "OneSelf" "cut" "LOneSelf$Cut;" ∈ tb_g := (tb_at (i := 293) (by decide +kernel))
def y_Cut_enter : MethodName := ⟨"OneSelf$Cut", "enter", "(LOneSelf$Pairs;LOneSelf$Bundles;I)V"⟩
theorem ml_O_265 : Cond.methodLink "OneSelf" 265 y_Cut_enter ∈ tb_g := (tb_at (i := 718) (by decide +kernel))
theorem fl_Cut_24 : Cond.fieldLink "OneSelf$Cut" 24 "OneSelf$Cut" "many" "I" ∈ tb_g := (tb_at (i := 235) (by decide +kernel))
theorem fn_Cut_28 : ("OneSelf$Cut", 28, "OneSelf$Pairs", "rows", "LOneSelf$Rows;", "OneSelf") ∈ nw_f := by decide +kernel
theorem fn_Cut_34 : ("OneSelf$Cut", 34, "OneSelf$Rows", "many", "I", "OneSelf") ∈ nw_f := by decide +kernel
theorem ml_Cut_37 : Cond.methodLink "OneSelf$Cut" 37 y_Bundles_numberOf ∈ tb_g := (tb_at (i := 722) (by decide +kernel))
theorem fl_Cut_9 : Cond.fieldLink "OneSelf$Cut" 9 "OneSelf$Cut" "members" "[I" ∈ tb_g := (tb_at (i := 231) (by decide +kernel))
theorem ml_Cut_43 : Cond.methodLink "OneSelf$Cut" 43 y_Pairs_areLinked ∈ tb_g := (tb_at (i := 723) (by decide +kernel))
theorem fl_Cut_15 : Cond.fieldLink "OneSelf$Cut" 15 "OneSelf$Cut" "room" "[I" ∈ tb_g := (tb_at (i := 232) (by decide +kernel))
theorem mt_Cut_enter : mtV y_Cut_enter prog_4_method_2_code 7 none 3 := ⟨(tb_at (i := 721) (by decide +kernel)), (tb_at (i := 11) (by decide +kernel)), (tb_at (i := 719) (by decide +kernel)), (tb_at (i := 720) (by decide +kernel)), ⟨by decide +kernel, by decide +kernel, by decide +kernel⟩⟩
def y_Cut_fewest : MethodName := ⟨"OneSelf$Cut", "fewest", "(II)I"⟩
theorem ml_O_269 : Cond.methodLink "OneSelf" 269 y_Cut_fewest ∈ tb_g := (tb_at (i := 724) (by decide +kernel))
def y_Cut_placeOf : MethodName := ⟨"OneSelf$Cut", "placeOf", "(I)I"⟩
theorem ml_Cut_47 : Cond.methodLink "OneSelf$Cut" 47 y_Cut_placeOf ∈ tb_g := (tb_at (i := 728) (by decide +kernel))
theorem mt_Cut_placeOf : mtV y_Cut_placeOf prog_4_method_4_code 3 (some .int) 1 := ⟨(tb_at (i := 731) (by decide +kernel)), (tb_at (i := 11) (by decide +kernel)), (tb_at (i := 730) (by decide +kernel)), (tb_pr (i := 9) (by decide +kernel)), ⟨by decide +kernel, by decide +kernel, by decide +kernel⟩⟩
def y_Cut_findWay : MethodName := ⟨"OneSelf$Cut", "findWay", "(II)Z"⟩
theorem ml_Cut_50 : Cond.methodLink "OneSelf$Cut" 50 y_Cut_findWay ∈ tb_g := (tb_at (i := 732) (by decide +kernel))
theorem fl_Cut_21 : Cond.fieldLink "OneSelf$Cut" 21 "OneSelf$Cut" "cameFrom" "[I" ∈ tb_g := (tb_at (i := 234) (by decide +kernel))
theorem ml_Cut_57 : Cond.methodLink "OneSelf$Cut" 57 y_Arrays_fill_IIV ∈ tb_g := (tb_at (i := 736) (by decide +kernel))
theorem fl_Cut_18 : Cond.fieldLink "OneSelf$Cut" 18 "OneSelf$Cut" "reached" "[I" ∈ tb_g := (tb_at (i := 233) (by decide +kernel))
theorem mt_Cut_findWay : mtV y_Cut_findWay prog_4_method_5_code 7 (some .boolean) 2 := ⟨(tb_at (i := 735) (by decide +kernel)), (tb_at (i := 11) (by decide +kernel)), (tb_at (i := 734) (by decide +kernel)), (tb_pr (i := 10) (by decide +kernel)), ⟨by decide +kernel, by decide +kernel, by decide +kernel⟩⟩
def y_Cut_goWay : MethodName := ⟨"OneSelf$Cut", "goWay", "(II)V"⟩
theorem ml_Cut_53 : Cond.methodLink "OneSelf$Cut" 53 y_Cut_goWay ∈ tb_g := (tb_at (i := 737) (by decide +kernel))
theorem mt_Cut_goWay : mtV y_Cut_goWay prog_4_method_6_code 6 none 2 := ⟨(tb_at (i := 740) (by decide +kernel)), (tb_at (i := 11) (by decide +kernel)), (tb_at (i := 739) (by decide +kernel)), (tb_pr (i := 11) (by decide +kernel)), ⟨by decide +kernel, by decide +kernel, by decide +kernel⟩⟩
theorem mt_Cut_fewest : mtV y_Cut_fewest prog_4_method_3_code 6 (some .int) 2 := ⟨(tb_at (i := 727) (by decide +kernel)), (tb_at (i := 11) (by decide +kernel)), (tb_at (i := 725) (by decide +kernel)), (tb_at (i := 726) (by decide +kernel)), ⟨by decide +kernel, by decide +kernel, by decide +kernel⟩⟩
def y_O_check : MethodName := ⟨"OneSelf", "check", "(IIZ)I"⟩
theorem fl_O_67 : Cond.fieldLink "OneSelf" 67 "OneSelf" "checks" "LOneSelf$Checks;" ∈ tb_g := (tb_at (i := 294) (by decide +kernel))
def y_Checks_hasRoomFor : MethodName := ⟨"OneSelf$Checks", "hasRoomFor", "(II)Z"⟩
theorem ml_O_272 : Cond.methodLink "OneSelf" 272 y_Checks_hasRoomFor ∈ tb_g := (tb_at (i := 745) (by decide +kernel))
def y_Checks_find : MethodName := ⟨"OneSelf$Checks", "find", "(II)I"⟩
theorem ml_Checks_35 : Cond.methodLink "OneSelf$Checks" 35 y_Checks_find ∈ tb_g := (tb_at (i := 749) (by decide +kernel))
theorem ml_Checks_22 : Cond.methodLink "OneSelf$Checks" 22 y_Math_min ∈ tb_g := (tb_at (i := 753) (by decide +kernel))
theorem ml_Checks_28 : Cond.methodLink "OneSelf$Checks" 28 y_Math_max_III ∈ tb_g := (tb_at (i := 754) (by decide +kernel))
theorem fl_Checks_31 : Cond.fieldLink "OneSelf$Checks" 31 "OneSelf$Checks" "many" "I" ∈ tb_g := (tb_at (i := 259) (by decide +kernel))
theorem fl_Checks_9 : Cond.fieldLink "OneSelf$Checks" 9 "OneSelf$Checks" "firsts" "[I" ∈ tb_g := (tb_at (i := 253) (by decide +kernel))
theorem fl_Checks_15 : Cond.fieldLink "OneSelf$Checks" 15 "OneSelf$Checks" "seconds" "[I" ∈ tb_g := (tb_at (i := 255) (by decide +kernel))
theorem mt_Checks_find : mtV y_Checks_find prog_3_method_2_code 6 (some .int) 2 := ⟨(tb_at (i := 752) (by decide +kernel)), (tb_at (i := 12) (by decide +kernel)), (tb_at (i := 751) (by decide +kernel)), (tb_pr (i := 12) (by decide +kernel)), ⟨by decide +kernel, by decide +kernel, by decide +kernel⟩⟩
theorem mt_Checks_hasRoomFor : mtV y_Checks_hasRoomFor prog_3_method_3_code 3 (some .boolean) 2 := ⟨(tb_at (i := 748) (by decide +kernel)), (tb_at (i := 12) (by decide +kernel)), (tb_at (i := 746) (by decide +kernel)), (tb_at (i := 747) (by decide +kernel)), ⟨by decide +kernel, by decide +kernel, by decide +kernel⟩⟩
def y_Checks_note : MethodName := ⟨"OneSelf$Checks", "note", "(IIZ)V"⟩
theorem ml_O_275 : Cond.methodLink "OneSelf" 275 y_Checks_note ∈ tb_g := (tb_at (i := 755) (by decide +kernel))
theorem fl_Checks_18 : Cond.fieldLink "OneSelf$Checks" 18 "OneSelf$Checks" "ones" "[Z" ∈ tb_g := (tb_at (i := 257) (by decide +kernel))
theorem mt_Checks_note : mtV y_Checks_note prog_3_method_4_code 5 none 3 := ⟨(tb_at (i := 758) (by decide +kernel)), (tb_at (i := 12) (by decide +kernel)), (tb_at (i := 756) (by decide +kernel)), (tb_at (i := 757) (by decide +kernel)), ⟨by decide +kernel, by decide +kernel, by decide +kernel⟩⟩
theorem fn_O_279 : ("OneSelf", 279, "OneSelf$Checks", "many", "I", "OneSelf") ∈ nw_f := by decide +kernel
def y_O_checked : MethodName := ⟨"OneSelf", "checked", "(I)I"⟩
def y_Checks_countOne : MethodName := ⟨"OneSelf$Checks", "countOne", "()I"⟩
theorem ml_O_280 : Cond.methodLink "OneSelf" 280 y_Checks_countOne ∈ tb_g := (tb_at (i := 763) (by decide +kernel))
theorem mt_Checks_countOne : mtV y_Checks_countOne prog_3_method_5_code 3 (some .int) 0 := ⟨(tb_at (i := 766) (by decide +kernel)), (tb_at (i := 12) (by decide +kernel)), (tb_at (i := 764) (by decide +kernel)), (tb_at (i := 765) (by decide +kernel)), ⟨by decide +kernel, by decide +kernel, by decide +kernel⟩⟩
def y_Checks_countLinks : MethodName := ⟨"OneSelf$Checks", "countLinks", "(LOneSelf$Pairs;Z)I"⟩
theorem ml_O_283 : Cond.methodLink "OneSelf" 283 y_Checks_countLinks ∈ tb_g := (tb_at (i := 767) (by decide +kernel))
theorem ml_Checks_38 : Cond.methodLink "OneSelf$Checks" 38 y_Pairs_areLinked ∈ tb_g := (tb_at (i := 771) (by decide +kernel))
theorem mt_Checks_countLinks : mtV y_Checks_countLinks prog_3_method_6_code 5 (some .int) 2 := ⟨(tb_at (i := 770) (by decide +kernel)), (tb_at (i := 12) (by decide +kernel)), (tb_at (i := 768) (by decide +kernel)), (tb_at (i := 769) (by decide +kernel)), ⟨by decide +kernel, by decide +kernel, by decide +kernel⟩⟩
def y_O_bound : MethodName := ⟨"OneSelf", "bound", "(I)I"⟩
def y_Checks_leastFalse : MethodName := ⟨"OneSelf$Checks", "leastFalse", "(III)I"⟩
theorem ml_O_286 : Cond.methodLink "OneSelf" 286 y_Checks_leastFalse ∈ tb_g := (tb_at (i := 776) (by decide +kernel))
def y_Checks_isLikely : MethodName := ⟨"OneSelf$Checks", "isLikely", "(IIII)Z"⟩
theorem ml_Checks_57 : Cond.methodLink "OneSelf$Checks" 57 y_Checks_isLikely ∈ tb_g := (tb_at (i := 779) (by decide +kernel))
def y_Checks_waysToChoose : MethodName := ⟨"OneSelf$Checks", "waysToChoose", "(II)J"⟩
theorem ml_Checks_61 : Cond.methodLink "OneSelf$Checks" 61 y_Checks_waysToChoose ∈ tb_g := (tb_at (i := 782) (by decide +kernel))
theorem mt_Checks_waysToChoose : mtS y_Checks_waysToChoose prog_3_method_12_code 6 (some .long) 2 := ⟨(tb_at (i := 784) (by decide +kernel)), (tb_at (i := 12) (by decide +kernel)), (tb_at (i := 783) (by decide +kernel)), ⟨by decide +kernel, by decide +kernel, by decide +kernel⟩⟩
theorem kc_Checks_65 : Cond.constantLong "OneSelf$Checks" 65 (40 : Int64) ∈ tb_g := (tb_at (i := 785) (by decide +kernel))
theorem mt_Checks_isLikely : mtS y_Checks_isLikely prog_3_method_11_code 11 (some .boolean) 4 := ⟨(tb_at (i := 781) (by decide +kernel)), (tb_at (i := 12) (by decide +kernel)), (tb_at (i := 780) (by decide +kernel)), ⟨by decide +kernel, by decide +kernel, by decide +kernel⟩⟩
theorem mt_Checks_leastFalse : mtS y_Checks_leastFalse prog_3_method_9_code 4 (some .int) 3 := ⟨(tb_at (i := 778) (by decide +kernel)), (tb_at (i := 12) (by decide +kernel)), (tb_at (i := 777) (by decide +kernel)), ⟨by decide +kernel, by decide +kernel, by decide +kernel⟩⟩
def y_Checks_mostFalse : MethodName := ⟨"OneSelf$Checks", "mostFalse", "(III)I"⟩
theorem ml_O_289 : Cond.methodLink "OneSelf" 289 y_Checks_mostFalse ∈ tb_g := (tb_at (i := 786) (by decide +kernel))
theorem mt_Checks_mostFalse : mtS y_Checks_mostFalse prog_3_method_10_code 4 (some .int) 3 := ⟨(tb_at (i := 788) (by decide +kernel)), (tb_at (i := 12) (by decide +kernel)), (tb_at (i := 787) (by decide +kernel)), ⟨by decide +kernel, by decide +kernel, by decide +kernel⟩⟩
def y_O_learnt : MethodName := ⟨"OneSelf", "learnt", "(ZII)I"⟩
def y_Checks_countLevel : MethodName := ⟨"OneSelf$Checks", "countLevel", "(LOneSelf$Pairs;ZII)I"⟩
theorem ml_O_292 : Cond.methodLink "OneSelf" 292 y_Checks_countLevel ∈ tb_g := (tb_at (i := 793) (by decide +kernel))
theorem fn_Checks_44 : ("OneSelf$Checks", 44, "OneSelf$Pairs", "rows", "LOneSelf$Rows;", "OneSelf") ∈ nw_f := by decide +kernel
theorem ml_Checks_48 : Cond.methodLink "OneSelf$Checks" 48 y_Rows_areKnown ∈ tb_g := (tb_at (i := 797) (by decide +kernel))
theorem ml_Checks_53 : Cond.methodLink "OneSelf$Checks" 53 y_Pairs_levelOf ∈ tb_g := (tb_at (i := 798) (by decide +kernel))
theorem mt_Checks_countLevel : mtV y_Checks_countLevel prog_3_method_7_code 9 (some .int) 4 := ⟨(tb_at (i := 796) (by decide +kernel)), (tb_at (i := 12) (by decide +kernel)), (tb_at (i := 794) (by decide +kernel)), (tb_at (i := 795) (by decide +kernel)), ⟨by decide +kernel, by decide +kernel, by decide +kernel⟩⟩
def y_Checks_thousandths : MethodName := ⟨"OneSelf$Checks", "thousandths", "(II)I"⟩
theorem ml_O_296 : Cond.methodLink "OneSelf" 296 y_Checks_thousandths ∈ tb_g := (tb_at (i := 799) (by decide +kernel))
theorem mt_Checks_thousandths : mtS y_Checks_thousandths prog_3_method_8_code 3 (some .int) 2 := ⟨(tb_at (i := 801) (by decide +kernel)), (tb_at (i := 12) (by decide +kernel)), (tb_at (i := 800) (by decide +kernel)), ⟨by decide +kernel, by decide +kernel, by decide +kernel⟩⟩
def y_O_meet : MethodName := ⟨"OneSelf", "meet", "(III)I"⟩
def y_Rows_areOfUnlikeRegisters : MethodName := ⟨"OneSelf$Rows", "areOfUnlikeRegisters", "(II)Z"⟩
theorem ml_O_299 : Cond.methodLink "OneSelf" 299 y_Rows_areOfUnlikeRegisters ∈ tb_g := (tb_at (i := 806) (by decide +kernel))
theorem mt_Rows_areOfUnlikeRegisters : mtV y_Rows_areOfUnlikeRegisters prog_8_method_12_code 3 (some .boolean) 2 := ⟨(tb_at (i := 809) (by decide +kernel)), (tb_at (i := 5) (by decide +kernel)), (tb_at (i := 807) (by decide +kernel)), (tb_at (i := 808) (by decide +kernel)), ⟨by decide +kernel, by decide +kernel, by decide +kernel⟩⟩
def y_Pairs_alikeBy : MethodName := ⟨"OneSelf$Pairs", "alikeBy", "(II)I"⟩
theorem ml_O_302 : Cond.methodLink "OneSelf" 302 y_Pairs_alikeBy ∈ tb_g := (tb_at (i := 810) (by decide +kernel))
theorem ml_Pairs_92 : Cond.methodLink "OneSelf$Pairs" 92 y_Rows_letterAt ∈ tb_g := (tb_at (i := 814) (by decide +kernel))
def y_Pairs_areOfOneDecade : MethodName := ⟨"OneSelf$Pairs", "areOfOneDecade", "(II)Z"⟩
theorem ml_Pairs_95 : Cond.methodLink "OneSelf$Pairs" 95 y_Pairs_areOfOneDecade ∈ tb_g := (tb_at (i := 815) (by decide +kernel))
theorem mt_Pairs_areOfOneDecade : mtV y_Pairs_areOfOneDecade prog_7_method_10_code 5 (some .boolean) 2 := ⟨(tb_at (i := 818) (by decide +kernel)), (tb_at (i := 4) (by decide +kernel)), (tb_at (i := 817) (by decide +kernel)), (tb_pr (i := 13) (by decide +kernel)), ⟨by decide +kernel, by decide +kernel, by decide +kernel⟩⟩
def y_Rows_areAlikeIn : MethodName := ⟨"OneSelf$Rows", "areAlikeIn", "(III)Z"⟩
theorem ml_Pairs_98 : Cond.methodLink "OneSelf$Pairs" 98 y_Rows_areAlikeIn ∈ tb_g := (tb_at (i := 819) (by decide +kernel))
theorem mt_Rows_areAlikeIn : mtV y_Rows_areAlikeIn prog_8_method_13_code 4 (some .boolean) 3 := ⟨(tb_at (i := 822) (by decide +kernel)), (tb_at (i := 5) (by decide +kernel)), (tb_at (i := 820) (by decide +kernel)), (tb_at (i := 821) (by decide +kernel)), ⟨by decide +kernel, by decide +kernel, by decide +kernel⟩⟩
def y_Rows_lastLetter : MethodName := ⟨"OneSelf$Rows", "lastLetter", "(I)I"⟩
theorem ml_Pairs_102 : Cond.methodLink "OneSelf$Pairs" 102 y_Rows_lastLetter ∈ tb_g := (tb_at (i := 823) (by decide +kernel))
theorem ml_Rows_40 : Cond.methodLink "OneSelf$Rows" 40 y_Rows_letterAt ∈ tb_g := (tb_at (i := 827) (by decide +kernel))
theorem mt_Rows_lastLetter : mtV y_Rows_lastLetter prog_8_method_9_code 2 (some .int) 1 := ⟨(tb_at (i := 826) (by decide +kernel)), (tb_at (i := 5) (by decide +kernel)), (tb_at (i := 824) (by decide +kernel)), (tb_at (i := 825) (by decide +kernel)), ⟨by decide +kernel, by decide +kernel, by decide +kernel⟩⟩
theorem mt_Pairs_alikeBy : mtV y_Pairs_alikeBy prog_7_method_9_code 5 (some .int) 2 := ⟨(tb_at (i := 813) (by decide +kernel)), (tb_at (i := 4) (by decide +kernel)), (tb_at (i := 811) (by decide +kernel)), (tb_at (i := 812) (by decide +kernel)), ⟨by decide +kernel, by decide +kernel, by decide +kernel⟩⟩
def y_O_pairs : MethodName := ⟨"OneSelf", "pairs", "(I)I"⟩
theorem fl_O_74 : Cond.fieldLink "OneSelf" 74 "OneSelf" "keys" "LOneSelf$Keys;" ∈ tb_g := (tb_at (i := 295) (by decide +kernel))
def y_Keys_tally : MethodName := ⟨"OneSelf$Keys", "tally", "(LOneSelf$Pairs;)V"⟩
theorem ml_O_305 : Cond.methodLink "OneSelf" 305 y_Keys_tally ∈ tb_g := (tb_at (i := 832) (by decide +kernel))
theorem fl_Keys_9 : Cond.fieldLink "OneSelf$Keys" 9 "OneSelf$Keys" "tallies" "[I" ∈ tb_g := (tb_at (i := 278) (by decide +kernel))
theorem ml_Keys_19 : Cond.methodLink "OneSelf$Keys" 19 y_Arrays_fill_IIV ∈ tb_g := (tb_at (i := 836) (by decide +kernel))
theorem fn_Keys_25 : ("OneSelf$Keys", 25, "OneSelf$Pairs", "rows", "LOneSelf$Rows;", "OneSelf") ∈ nw_f := by decide +kernel
theorem fn_Keys_31 : ("OneSelf$Keys", 31, "OneSelf$Rows", "many", "I", "OneSelf") ∈ nw_f := by decide +kernel
theorem ml_Keys_37 : Cond.methodLink "OneSelf$Keys" 37 y_Rows_areOfUnlikeRegisters ∈ tb_g := (tb_at (i := 837) (by decide +kernel))
theorem ml_Keys_41 : Cond.methodLink "OneSelf$Keys" 41 y_Rows_areKnown ∈ tb_g := (tb_at (i := 838) (by decide +kernel))
theorem ml_Keys_44 : Cond.methodLink "OneSelf$Keys" 44 y_Pairs_alikeBy ∈ tb_g := (tb_at (i := 839) (by decide +kernel))
theorem mt_Keys_tally : mtV y_Keys_tally prog_5_method_2_code 5 none 1 := ⟨(tb_at (i := 835) (by decide +kernel)), (tb_at (i := 13) (by decide +kernel)), (tb_at (i := 833) (by decide +kernel)), (tb_at (i := 834) (by decide +kernel)), ⟨by decide +kernel, by decide +kernel, by decide +kernel⟩⟩
def y_Keys_pairsBy : MethodName := ⟨"OneSelf$Keys", "pairsBy", "(I)I"⟩
theorem ml_O_308 : Cond.methodLink "OneSelf" 308 y_Keys_pairsBy ∈ tb_g := (tb_at (i := 840) (by decide +kernel))
theorem mt_Keys_pairsBy : mtV y_Keys_pairsBy prog_5_method_4_code 4 (some .int) 1 := ⟨(tb_at (i := 843) (by decide +kernel)), (tb_at (i := 13) (by decide +kernel)), (tb_at (i := 841) (by decide +kernel)), (tb_at (i := 842) (by decide +kernel)), ⟨by decide +kernel, by decide +kernel, by decide +kernel⟩⟩
def y_O_keys : MethodName := ⟨"OneSelf", "keys", "()I"⟩
def y_Keys_demand : MethodName := ⟨"OneSelf$Keys", "demand", "(LOneSelf$Pairs;LOneSelf$Checks;)V"⟩
theorem ml_O_311 : Cond.methodLink "OneSelf" 311 y_Keys_demand ∈ tb_g := (tb_at (i := 848) (by decide +kernel))
theorem fl_Keys_15 : Cond.fieldLink "OneSelf$Keys" 15 "OneSelf$Keys" "demanded" "[Z" ∈ tb_g := (tb_at (i := 279) (by decide +kernel))
theorem fn_Keys_48 : ("OneSelf$Keys", 48, "OneSelf$Checks", "many", "I", "OneSelf") ∈ nw_f := by decide +kernel
theorem fn_Keys_51 : ("OneSelf$Keys", 51, "OneSelf$Checks", "firsts", "[I", "OneSelf") ∈ nw_f := by decide +kernel
theorem fn_Keys_54 : ("OneSelf$Keys", 54, "OneSelf$Checks", "seconds", "[I", "OneSelf") ∈ nw_f := by decide +kernel
theorem fn_Keys_57 : ("OneSelf$Keys", 57, "OneSelf$Checks", "ones", "[Z", "OneSelf") ∈ nw_f := by decide +kernel
theorem mt_Keys_demand : mtV y_Keys_demand prog_5_method_3_code 6 none 2 := ⟨(tb_at (i := 851) (by decide +kernel)), (tb_at (i := 13) (by decide +kernel)), (tb_at (i := 849) (by decide +kernel)), (tb_at (i := 850) (by decide +kernel)), ⟨by decide +kernel, by decide +kernel, by decide +kernel⟩⟩
def y_Keys_best : MethodName := ⟨"OneSelf$Keys", "best", "()I"⟩
theorem ml_O_315 : Cond.methodLink "OneSelf" 315 y_Keys_best ∈ tb_g := (tb_at (i := 852) (by decide +kernel))
def y_Keys_missNone : MethodName := ⟨"OneSelf$Keys", "missNone", "(I)Z"⟩
theorem ml_Keys_60 : Cond.methodLink "OneSelf$Keys" 60 y_Keys_missNone ∈ tb_g := (tb_at (i := 856) (by decide +kernel))
theorem mt_Keys_missNone : mtV y_Keys_missNone prog_5_method_5_code 3 (some .boolean) 1 := ⟨(tb_at (i := 859) (by decide +kernel)), (tb_at (i := 13) (by decide +kernel)), (tb_at (i := 858) (by decide +kernel)), (tb_pr (i := 14) (by decide +kernel)), ⟨by decide +kernel, by decide +kernel, by decide +kernel⟩⟩
def y_Keys_isBetter : MethodName := ⟨"OneSelf$Keys", "isBetter", "(II)Z"⟩
theorem ml_Keys_64 : Cond.methodLink "OneSelf$Keys" 64 y_Keys_isBetter ∈ tb_g := (tb_at (i := 860) (by decide +kernel))
theorem ml_Keys_67 : Cond.methodLink "OneSelf$Keys" 67 y_Keys_pairsBy ∈ tb_g := (tb_at (i := 864) (by decide +kernel))
def y_Integer_bitCount : MethodName := ⟨"java/lang/Integer", "bitCount", "(I)I"⟩
theorem ml_Keys_71 : Cond.methodLink "OneSelf$Keys" 71 y_Integer_bitCount ∈ tb_g := (tb_at (i := 865) (by decide +kernel))
theorem kc_Integer_265 : Cond.constant "java/lang/Integer" 265 (1431655765 : Int32) ∈ tb_g := (tb_at (i := 868) (by decide +kernel))
theorem kc_Integer_266 : Cond.constant "java/lang/Integer" 266 (858993459 : Int32) ∈ tb_g := (tb_at (i := 869) (by decide +kernel))
theorem kc_Integer_267 : Cond.constant "java/lang/Integer" 267 (252645135 : Int32) ∈ tb_g := (tb_at (i := 870) (by decide +kernel))
theorem mt_Integer_bitCount : mtS y_Integer_bitCount prog_15_method_49_code 1 (some .int) 1 := ⟨(tb_at (i := 867) (by decide +kernel)), (tb_at (i := 16) (by decide +kernel)), (tb_at (i := 866) (by decide +kernel)), ⟨by decide +kernel, by decide +kernel, by decide +kernel⟩⟩
theorem mt_Keys_isBetter : mtV y_Keys_isBetter prog_5_method_7_code 4 (some .boolean) 2 := ⟨(tb_at (i := 863) (by decide +kernel)), (tb_at (i := 13) (by decide +kernel)), (tb_at (i := 862) (by decide +kernel)), (tb_pr (i := 15) (by decide +kernel)), ⟨by decide +kernel, by decide +kernel, by decide +kernel⟩⟩
theorem mt_Keys_best : mtV y_Keys_best prog_5_method_6_code 3 (some .int) 0 := ⟨(tb_at (i := 855) (by decide +kernel)), (tb_at (i := 13) (by decide +kernel)), (tb_at (i := 853) (by decide +kernel)), (tb_at (i := 854) (by decide +kernel)), ⟨by decide +kernel, by decide +kernel, by decide +kernel⟩⟩
def y_O_sheet : MethodName := ⟨"OneSelf", "sheet", "(III)I"⟩
def y_Sheets_isType : MethodName := ⟨"OneSelf$Sheets", "isType", "(I)Z"⟩
theorem ml_O_318 : Cond.methodLink "OneSelf" 318 y_Sheets_isType ∈ tb_g := (tb_at (i := 875) (by decide +kernel))
theorem mt_Sheets_isType : mtS y_Sheets_isType prog_9_method_3_code 1 (some .boolean) 1 := ⟨(tb_at (i := 877) (by decide +kernel)), (tb_at (i := 2) (by decide +kernel)), (tb_at (i := 876) (by decide +kernel)), ⟨by decide +kernel, by decide +kernel, by decide +kernel⟩⟩
def y_Sheets_renew : MethodName := ⟨"OneSelf$Sheets", "renew", "(III)V"⟩
theorem ml_O_321 : Cond.methodLink "OneSelf" 321 y_Sheets_renew ∈ tb_g := (tb_at (i := 878) (by decide +kernel))
theorem mt_Sheets_renew : mtV y_Sheets_renew prog_9_method_14_code 5 none 3 := ⟨(tb_at (i := 881) (by decide +kernel)), (tb_at (i := 2) (by decide +kernel)), (tb_at (i := 879) (by decide +kernel)), (tb_at (i := 880) (by decide +kernel)), ⟨by decide +kernel, by decide +kernel, by decide +kernel⟩⟩
def y_O_lose : MethodName := ⟨"OneSelf", "lose", "(I)I"⟩
def y_Sheets_forget : MethodName := ⟨"OneSelf$Sheets", "forget", "(I)I"⟩
theorem ml_O_325 : Cond.methodLink "OneSelf" 325 y_Sheets_forget ∈ tb_g := (tb_at (i := 886) (by decide +kernel))
theorem mt_Sheets_forget : mtV y_Sheets_forget prog_9_method_15_code 2 (some .int) 1 := ⟨(tb_at (i := 889) (by decide +kernel)), (tb_at (i := 2) (by decide +kernel)), (tb_at (i := 887) (by decide +kernel)), (tb_at (i := 888) (by decide +kernel)), ⟨by decide +kernel, by decide +kernel, by decide +kernel⟩⟩
def y_O_put : MethodName := ⟨"OneSelf", "put", "(IIII)I"⟩
def y_Sheets_hindrance : MethodName := ⟨"OneSelf$Sheets", "hindrance", "(III)I"⟩
theorem ml_O_328 : Cond.methodLink "OneSelf" 328 y_Sheets_hindrance ∈ tb_g := (tb_at (i := 894) (by decide +kernel))
theorem ml_Sheets_39 : Cond.methodLink "OneSelf$Sheets" 39 y_Sheets_isLost ∈ tb_g := (tb_at (i := 898) (by decide +kernel))
theorem mt_Sheets_hindrance : mtV y_Sheets_hindrance prog_9_method_9_code 4 (some .int) 3 := ⟨(tb_at (i := 897) (by decide +kernel)), (tb_at (i := 2) (by decide +kernel)), (tb_at (i := 895) (by decide +kernel)), (tb_at (i := 896) (by decide +kernel)), ⟨by decide +kernel, by decide +kernel, by decide +kernel⟩⟩
def y_Sheets_setItem : MethodName := ⟨"OneSelf$Sheets", "setItem", "(III)V"⟩
theorem ml_O_331 : Cond.methodLink "OneSelf" 331 y_Sheets_setItem ∈ tb_g := (tb_at (i := 899) (by decide +kernel))
theorem mt_Sheets_setItem : mtV y_Sheets_setItem prog_9_method_12_code 5 none 3 := ⟨(tb_at (i := 902) (by decide +kernel)), (tb_at (i := 2) (by decide +kernel)), (tb_at (i := 900) (by decide +kernel)), (tb_at (i := 901) (by decide +kernel)), ⟨by decide +kernel, by decide +kernel, by decide +kernel⟩⟩
def y_O_get : MethodName := ⟨"OneSelf", "get", "(III)I"⟩
theorem kc_O_334 : Cond.constant "OneSelf" 334 (-2147483648 : Int32) ∈ tb_g := (tb_at (i := 907) (by decide +kernel))
def y_O_copy : MethodName := ⟨"OneSelf", "copy", "(IIIII)I"⟩
def y_Sheets_areOfOneType : MethodName := ⟨"OneSelf$Sheets", "areOfOneType", "(II)Z"⟩
theorem ml_O_335 : Cond.methodLink "OneSelf" 335 y_Sheets_areOfOneType ∈ tb_g := (tb_at (i := 912) (by decide +kernel))
theorem mt_Sheets_areOfOneType : mtV y_Sheets_areOfOneType prog_9_method_5_code 3 (some .boolean) 2 := ⟨(tb_at (i := 915) (by decide +kernel)), (tb_at (i := 2) (by decide +kernel)), (tb_at (i := 913) (by decide +kernel)), (tb_at (i := 914) (by decide +kernel)), ⟨by decide +kernel, by decide +kernel, by decide +kernel⟩⟩
def y_Sheets_moveItems : MethodName := ⟨"OneSelf$Sheets", "moveItems", "(IIIII)V"⟩
theorem ml_O_338 : Cond.methodLink "OneSelf" 338 y_Sheets_moveItems ∈ tb_g := (tb_at (i := 916) (by decide +kernel))
def y_System_arraycopy : MethodName := ⟨"java/lang/System", "arraycopy", "(Ljava/lang/Object;ILjava/lang/Object;II)V"⟩
theorem ml_Sheets_46 : Cond.methodLink "OneSelf$Sheets" 46 y_System_arraycopy ∈ tb_g := (tb_at (i := 920) (by decide +kernel))
theorem ac_nat : Cond.native arraycopyName ∈ tb_g ∧ Cond.static arraycopyName ∈ tb_g ∧ Cond.initialized "java/lang/System" ∈ tb_g := ⟨(tb_at (i := 922) (by decide +kernel)), (tb_at (i := 921) (by decide +kernel)), (tb_at (i := 17) (by decide +kernel))⟩
theorem mt_Sheets_moveItems : mtV y_Sheets_moveItems prog_9_method_13_code 6 none 5 := ⟨(tb_at (i := 919) (by decide +kernel)), (tb_at (i := 2) (by decide +kernel)), (tb_at (i := 917) (by decide +kernel)), (tb_at (i := 918) (by decide +kernel)), ⟨by decide +kernel, by decide +kernel, by decide +kernel⟩⟩
def y_O_write : MethodName := ⟨"OneSelf", "write", "(II)I"⟩
def y_Sheets_sizeOf : MethodName := ⟨"OneSelf$Sheets", "sizeOf", "(I)I"⟩
theorem ml_O_342 : Cond.methodLink "OneSelf" 342 y_Sheets_sizeOf ∈ tb_g := (tb_at (i := 927) (by decide +kernel))
theorem mt_Sheets_sizeOf : mtV y_Sheets_sizeOf prog_9_method_6_code 2 (some .int) 1 := ⟨(tb_at (i := 930) (by decide +kernel)), (tb_at (i := 2) (by decide +kernel)), (tb_at (i := 928) (by decide +kernel)), (tb_at (i := 929) (by decide +kernel)), ⟨by decide +kernel, by decide +kernel, by decide +kernel⟩⟩
theorem ml_O_343 : Cond.methodLink "OneSelf" 343 y_Math_min ∈ tb_g := (tb_at (i := 931) (by decide +kernel))
def y_O_count : MethodName := ⟨"OneSelf", "count", "(I)I"⟩
def y_Rows_countKnown : MethodName := ⟨"OneSelf$Rows", "countKnown", "()I"⟩
theorem ml_O_348 : Cond.methodLink "OneSelf" 348 y_Rows_countKnown ∈ tb_g := (tb_at (i := 936) (by decide +kernel))
theorem mt_Rows_countKnown : mtV y_Rows_countKnown prog_8_method_14_code 3 (some .int) 0 := ⟨(tb_at (i := 939) (by decide +kernel)), (tb_at (i := 5) (by decide +kernel)), (tb_at (i := 937) (by decide +kernel)), (tb_at (i := 938) (by decide +kernel)), ⟨by decide +kernel, by decide +kernel, by decide +kernel⟩⟩
def y_Rows_countKnownOf : MethodName := ⟨"OneSelf$Rows", "countKnownOf", "(I)I"⟩
theorem ml_O_351 : Cond.methodLink "OneSelf" 351 y_Rows_countKnownOf ∈ tb_g := (tb_at (i := 940) (by decide +kernel))
theorem mt_Rows_countKnownOf : mtV y_Rows_countKnownOf prog_8_method_15_code 4 (some .int) 1 := ⟨(tb_at (i := 943) (by decide +kernel)), (tb_at (i := 5) (by decide +kernel)), (tb_at (i := 941) (by decide +kernel)), (tb_at (i := 942) (by decide +kernel)), ⟨by decide +kernel, by decide +kernel, by decide +kernel⟩⟩
theorem fn_O_354 : ("OneSelf", 354, "OneSelf$Sheets", "latest", "I", "OneSelf") ∈ nw_f := by decide +kernel
def y_O_digest : MethodName := ⟨"OneSelf", "digest", "()J"⟩
theorem kc_O_357 : Cond.constantLong "OneSelf" 357 (17 : Int64) ∈ tb_g := (tb_at (i := 948) (by decide +kernel))
theorem kc_O_359 : Cond.constantLong "OneSelf" 359 (31 : Int64) ∈ tb_g := (tb_at (i := 949) (by decide +kernel))
theorem ml_O_361 : Cond.methodLink "OneSelf" 361 y_O_count ∈ tb_g := (tb_at (i := 950) (by decide +kernel))
theorem mt_O_count : mtV y_O_count prog_1_method_41_code 2 (some .int) 1 := ⟨(tb_at (i := 935) (by decide +kernel)), (tb_at (i := 1) (by decide +kernel)), (tb_at (i := 933) (by decide +kernel)), (tb_at (i := 934) (by decide +kernel)), ⟨by decide +kernel, by decide +kernel, by decide +kernel⟩⟩
theorem ml_O_367 : Cond.methodLink "OneSelf" 367 y_O_fault ∈ tb_g := (tb_at (i := 952) (by decide +kernel))
theorem mt_O_fault : mtV y_O_fault prog_1_method_11_code 1 (some .int) 0 := ⟨(tb_at (i := 487) (by decide +kernel)), (tb_at (i := 1) (by decide +kernel)), (tb_at (i := 485) (by decide +kernel)), (tb_at (i := 486) (by decide +kernel)), ⟨by decide +kernel, by decide +kernel, by decide +kernel⟩⟩
theorem ml_O_369 : Cond.methodLink "OneSelf" 369 y_O_links ∈ tb_g := (tb_at (i := 953) (by decide +kernel))
theorem mt_O_links : mtV y_O_links prog_1_method_21_code 1 (some .int) 0 := ⟨(tb_at (i := 600) (by decide +kernel)), (tb_at (i := 1) (by decide +kernel)), (tb_at (i := 598) (by decide +kernel)), (tb_at (i := 599) (by decide +kernel)), ⟨by decide +kernel, by decide +kernel, by decide +kernel⟩⟩
theorem ml_O_372 : Cond.methodLink "OneSelf" 372 y_O_bundles ∈ tb_g := (tb_at (i := 954) (by decide +kernel))
theorem mt_O_bundles : mtV y_O_bundles prog_1_method_25_code 2 (some .int) 1 := ⟨(tb_at (i := 689) (by decide +kernel)), (tb_at (i := 1) (by decide +kernel)), (tb_at (i := 687) (by decide +kernel)), (tb_at (i := 688) (by decide +kernel)), ⟨by decide +kernel, by decide +kernel, by decide +kernel⟩⟩
theorem ml_O_364 : Cond.methodLink "OneSelf" 364 y_O_about ∈ tb_g := (tb_at (i := 951) (by decide +kernel))
theorem mt_O_about : mtV y_O_about prog_1_method_5_code 3 (some .int) 2 := ⟨(tb_at (i := 423) (by decide +kernel)), (tb_at (i := 1) (by decide +kernel)), (tb_at (i := 421) (by decide +kernel)), (tb_at (i := 422) (by decide +kernel)), ⟨by decide +kernel, by decide +kernel, by decide +kernel⟩⟩
theorem ml_O_377 : Cond.methodLink "OneSelf" 377 y_O_pairs ∈ tb_g := (tb_at (i := 956) (by decide +kernel))
theorem mt_O_pairs : mtV y_O_pairs prog_1_method_33_code 2 (some .int) 1 := ⟨(tb_at (i := 831) (by decide +kernel)), (tb_at (i := 1) (by decide +kernel)), (tb_at (i := 829) (by decide +kernel)), (tb_at (i := 830) (by decide +kernel)), ⟨by decide +kernel, by decide +kernel, by decide +kernel⟩⟩
theorem ml_O_379 : Cond.methodLink "OneSelf" 379 y_O_laid ∈ tb_g := (tb_at (i := 957) (by decide +kernel))
theorem mt_O_laid : mtV y_O_laid prog_1_method_22_code 4 (some .int) 3 := ⟨(tb_at (i := 618) (by decide +kernel)), (tb_at (i := 1) (by decide +kernel)), (tb_at (i := 616) (by decide +kernel)), (tb_at (i := 617) (by decide +kernel)), ⟨by decide +kernel, by decide +kernel, by decide +kernel⟩⟩
theorem ml_O_374 : Cond.methodLink "OneSelf" 374 y_O_checked ∈ tb_g := (tb_at (i := 955) (by decide +kernel))
theorem mt_O_checked : mtV y_O_checked prog_1_method_29_code 2 (some .int) 1 := ⟨(tb_at (i := 762) (by decide +kernel)), (tb_at (i := 1) (by decide +kernel)), (tb_at (i := 760) (by decide +kernel)), (tb_at (i := 761) (by decide +kernel)), ⟨by decide +kernel, by decide +kernel, by decide +kernel⟩⟩
