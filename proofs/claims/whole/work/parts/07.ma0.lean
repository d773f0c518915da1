def y_M_pass : MethodName := ⟨"OneSelfModel", "pass", "(I)I"⟩
def y_M_in : MethodName := ⟨"OneSelfModel", "in", "(III)Z"⟩
theorem ml_M_133 : Cond.methodLink "OneSelfModel" 133 y_M_in ∈ tb_g := (tb_at (i := 1125) (by decide +kernel))
theorem mt_M_in : mtS y_M_in prog_14_method_3_code 3 (some .boolean) 3 := ⟨(tb_at (i := 1127) (by decide +kernel)), (tb_at (i := 14) (by decide +kernel)), (tb_at (i := 1126) (by decide +kernel)), ⟨by decide +kernel, by decide +kernel, by decide +kernel⟩⟩
theorem fl_M_137 : Cond.fieldLink "OneSelfModel" 137 "OneSelfModel" "day" "I" ∈ tb_g := (tb_at (i := 964) (by decide +kernel))
def y_M_row : MethodName := ⟨"OneSelfModel", "row", "(IIIIIII)I"⟩
def y_M_isSheet : MethodName := ⟨"OneSelfModel", "isSheet", "(I)Z"⟩
theorem ml_M_140 : Cond.methodLink "OneSelfModel" 140 y_M_isSheet ∈ tb_g := (tb_at (i := 1132) (by decide +kernel))
theorem mt_M_isSheet : mtS y_M_isSheet prog_14_method_74_code 1 (some .boolean) 1 := ⟨(tb_at (i := 1134) (by decide +kernel)), (tb_at (i := 14) (by decide +kernel)), (tb_at (i := 1133) (by decide +kernel)), ⟨by decide +kernel, by decide +kernel, by decide +kernel⟩⟩
theorem fl_M_115 : Cond.fieldLink "OneSelfModel" 115 "OneSelfModel" "isThere" "[Z" ∈ tb_g := (tb_at (i := 1010) (by decide +kernel))
def y_M_meets : MethodName := ⟨"OneSelfModel", "meets", "(I)I"⟩
theorem ml_M_144 : Cond.methodLink "OneSelfModel" 144 y_M_meets ∈ tb_g := (tb_at (i := 1135) (by decide +kernel))
theorem fl_M_301 : Cond.fieldLink "OneSelfModel" 301 "OneSelfModel" "finding" "I" ∈ tb_g := (tb_at (i := 1015) (by decide +kernel))
theorem mt_M_meets : mtV y_M_meets prog_14_method_73_code 2 (some .int) 1 := ⟨(tb_at (i := 1138) (by decide +kernel)), (tb_at (i := 14) (by decide +kernel)), (tb_at (i := 1137) (by decide +kernel)), (tb_pr (i := 16) (by decide +kernel)), ⟨by decide +kernel, by decide +kernel, by decide +kernel⟩⟩
theorem fl_M_121 : Cond.fieldLink "OneSelfModel" 121 "OneSelfModel" "sizes" "[I" ∈ tb_g := (tb_at (i := 1012) (by decide +kernel))
theorem fl_M_130 : Cond.fieldLink "OneSelfModel" 130 "OneSelfModel" "rows" "I" ∈ tb_g := (tb_at (i := 965) (by decide +kernel))
theorem fl_M_124 : Cond.fieldLink "OneSelfModel" 124 "OneSelfModel" "items" "[I" ∈ tb_g := (tb_at (i := 1013) (by decide +kernel))
theorem fl_M_16 : Cond.fieldLink "OneSelfModel" 16 "OneSelfModel" "lengths" "[I" ∈ tb_g := (tb_at (i := 968) (by decide +kernel))
theorem fl_M_7 : Cond.fieldLink "OneSelfModel" 7 "OneSelfModel" "registerOf" "[I" ∈ tb_g := (tb_at (i := 966) (by decide +kernel))
theorem fl_M_19 : Cond.fieldLink "OneSelfModel" 19 "OneSelfModel" "yearOf" "[I" ∈ tb_g := (tb_at (i := 969) (by decide +kernel))
theorem fl_M_22 : Cond.fieldLink "OneSelfModel" 22 "OneSelfModel" "placeOf" "[I" ∈ tb_g := (tb_at (i := 970) (by decide +kernel))
theorem fl_M_25 : Cond.fieldLink "OneSelfModel" 25 "OneSelfModel" "sortOf" "[I" ∈ tb_g := (tb_at (i := 971) (by decide +kernel))
theorem fl_M_28 : Cond.fieldLink "OneSelfModel" 28 "OneSelfModel" "told" "[I" ∈ tb_g := (tb_at (i := 972) (by decide +kernel))
theorem fl_M_31 : Cond.fieldLink "OneSelfModel" 31 "OneSelfModel" "back" "[I" ∈ tb_g := (tb_at (i := 973) (by decide +kernel))
theorem fl_M_13 : Cond.fieldLink "OneSelfModel" 13 "OneSelfModel" "letters" "[I" ∈ tb_g := (tb_at (i := 967) (by decide +kernel))
def y_M_takeBack : MethodName := ⟨"OneSelfModel", "takeBack", "(I)I"⟩
def y_M_isRow : MethodName := ⟨"OneSelfModel", "isRow", "(I)Z"⟩
theorem ml_M_148 : Cond.methodLink "OneSelfModel" 148 y_M_isRow ∈ tb_g := (tb_at (i := 1143) (by decide +kernel))
theorem mt_M_isRow : mtV y_M_isRow prog_14_method_5_code 2 (some .boolean) 1 := ⟨(tb_at (i := 1146) (by decide +kernel)), (tb_at (i := 14) (by decide +kernel)), (tb_at (i := 1145) (by decide +kernel)), (tb_pr (i := 17) (by decide +kernel)), ⟨by decide +kernel, by decide +kernel, by decide +kernel⟩⟩
def y_M_about : MethodName := ⟨"OneSelfModel", "about", "(II)I"⟩
def y_M_aboutOf : MethodName := ⟨"OneSelfModel", "aboutOf", "(II)I"⟩
theorem ml_M_154 : Cond.methodLink "OneSelfModel" 154 y_M_aboutOf ∈ tb_g := (tb_at (i := 1151) (by decide +kernel))
def y_M_isKnown : MethodName := ⟨"OneSelfModel", "isKnown", "(I)Z"⟩
theorem ml_M_151 : Cond.methodLink "OneSelfModel" 151 y_M_isKnown ∈ tb_g := (tb_at (i := 1155) (by decide +kernel))
theorem fl_M_34 : Cond.fieldLink "OneSelfModel" 34 "OneSelfModel" "knownTo" "I" ∈ tb_g := (tb_at (i := 974) (by decide +kernel))
theorem mt_M_isKnown : mtV y_M_isKnown prog_14_method_6_code 3 (some .boolean) 1 := ⟨(tb_at (i := 1158) (by decide +kernel)), (tb_at (i := 14) (by decide +kernel)), (tb_at (i := 1157) (by decide +kernel)), (tb_pr (i := 19) (by decide +kernel)), ⟨by decide +kernel, by decide +kernel, by decide +kernel⟩⟩
theorem mt_M_aboutOf : mtV y_M_aboutOf prog_14_method_10_code 3 (some .int) 2 := ⟨(tb_at (i := 1154) (by decide +kernel)), (tb_at (i := 14) (by decide +kernel)), (tb_at (i := 1153) (by decide +kernel)), (tb_pr (i := 18) (by decide +kernel)), ⟨by decide +kernel, by decide +kernel, by decide +kernel⟩⟩
def y_M_letter : MethodName := ⟨"OneSelfModel", "letter", "(II)I"⟩
def y_M_asOf : MethodName := ⟨"OneSelfModel", "asOf", "(I)I"⟩
def y_M_way : MethodName := ⟨"OneSelfModel", "way", "(III)I"⟩
theorem fl_M_38 : Cond.fieldLink "OneSelfModel" 38 "OneSelfModel" "ways" "[I" ∈ tb_g := (tb_at (i := 975) (by decide +kernel))
def y_M_type : MethodName := ⟨"OneSelfModel", "type", "(I)I"⟩
theorem fl_M_158 : Cond.fieldLink "OneSelfModel" 158 "OneSelfModel" "typed" "I" ∈ tb_g := (tb_at (i := 976) (by decide +kernel))
theorem fl_M_41 : Cond.fieldLink "OneSelfModel" 41 "OneSelfModel" "text" "[I" ∈ tb_g := (tb_at (i := 977) (by decide +kernel))
theorem fl_M_161 : Cond.fieldLink "OneSelfModel" 161 "OneSelfModel" "isRead" "Z" ∈ tb_g := (tb_at (i := 979) (by decide +kernel))
def y_M_wipe : MethodName := ⟨"OneSelfModel", "wipe", "()I"⟩
def y_M_fault : MethodName := ⟨"OneSelfModel", "fault", "()I"⟩
def y_M_reads : MethodName := ⟨"OneSelfModel", "reads", "()V"⟩
theorem ml_M_174 : Cond.methodLink "OneSelfModel" 174 y_M_reads ∈ tb_g := (tb_at (i := 1183) (by decide +kernel))
theorem fl_M_168 : Cond.fieldLink "OneSelfModel" 168 "OneSelfModel" "faultNow" "I" ∈ tb_g := (tb_at (i := 980) (by decide +kernel))
def y_M_group : MethodName := ⟨"OneSelfModel", "group", "(I)I"⟩
theorem ml_M_171 : Cond.methodLink "OneSelfModel" 171 y_M_group ∈ tb_g := (tb_at (i := 1187) (by decide +kernel))
def y_M_byteAt : MethodName := ⟨"OneSelfModel", "byteAt", "(I)I"⟩
theorem ml_M_165 : Cond.methodLink "OneSelfModel" 165 y_M_byteAt ∈ tb_g := (tb_at (i := 1191) (by decide +kernel))
theorem mt_M_byteAt : mtV y_M_byteAt prog_14_method_17_code 2 (some .int) 1 := ⟨(tb_at (i := 1194) (by decide +kernel)), (tb_at (i := 14) (by decide +kernel)), (tb_at (i := 1193) (by decide +kernel)), (tb_pr (i := 22) (by decide +kernel)), ⟨by decide +kernel, by decide +kernel, by decide +kernel⟩⟩
theorem fl_M_44 : Cond.fieldLink "OneSelfModel" 44 "OneSelfModel" "figureOf" "[I" ∈ tb_g := (tb_at (i := 978) (by decide +kernel))
theorem mt_M_group : mtV y_M_group prog_14_method_18_code 5 (some .int) 1 := ⟨(tb_at (i := 1190) (by decide +kernel)), (tb_at (i := 14) (by decide +kernel)), (tb_at (i := 1189) (by decide +kernel)), (tb_pr (i := 21) (by decide +kernel)), ⟨by decide +kernel, by decide +kernel, by decide +kernel⟩⟩
theorem mt_M_reads : mtV y_M_reads prog_14_method_19_code 3 none 0 := ⟨(tb_at (i := 1186) (by decide +kernel)), (tb_at (i := 14) (by decide +kernel)), (tb_at (i := 1185) (by decide +kernel)), (tb_pr (i := 20) (by decide +kernel)), ⟨by decide +kernel, by decide +kernel, by decide +kernel⟩⟩
def y_M_sound : MethodName := ⟨"OneSelfModel", "sound", "(II)I"⟩
def y_M_soundOf : MethodName := ⟨"OneSelfModel", "soundOf", "(II)V"⟩
theorem ml_M_177 : Cond.methodLink "OneSelfModel" 177 y_M_soundOf ∈ tb_g := (tb_at (i := 1199) (by decide +kernel))
theorem fl_M_50 : Cond.fieldLink "OneSelfModel" 50 "OneSelfModel" "soundMany" "[I" ∈ tb_g := (tb_at (i := 982) (by decide +kernel))
theorem fl_M_47 : Cond.fieldLink "OneSelfModel" 47 "OneSelfModel" "sounds" "[I" ∈ tb_g := (tb_at (i := 981) (by decide +kernel))
theorem mt_M_soundOf : mtV y_M_soundOf prog_14_method_21_code 9 none 2 := ⟨(tb_at (i := 1202) (by decide +kernel)), (tb_at (i := 14) (by decide +kernel)), (tb_at (i := 1201) (by decide +kernel)), (tb_pr (i := 23) (by decide +kernel)), ⟨by decide +kernel, by decide +kernel, by decide +kernel⟩⟩
def y_M_slips : MethodName := ⟨"OneSelfModel", "slips", "(II)I"⟩
def y_M_slipsOf : MethodName := ⟨"OneSelfModel", "slipsOf", "(II)I"⟩
theorem ml_M_181 : Cond.methodLink "OneSelfModel" 181 y_M_slipsOf ∈ tb_g := (tb_at (i := 1207) (by decide +kernel))
theorem fl_M_53 : Cond.fieldLink "OneSelfModel" 53 "OneSelfModel" "costs" "[I" ∈ tb_g := (tb_at (i := 983) (by decide +kernel))
theorem mt_M_slipsOf : mtV y_M_slipsOf prog_14_method_24_code 9 (some .int) 2 := ⟨(tb_at (i := 1210) (by decide +kernel)), (tb_at (i := 14) (by decide +kernel)), (tb_at (i := 1209) (by decide +kernel)), (tb_pr (i := 24) (by decide +kernel)), ⟨by decide +kernel, by decide +kernel, by decide +kernel⟩⟩
def y_M_level : MethodName := ⟨"OneSelfModel", "level", "(III)I"⟩
def y_M_areTwo : MethodName := ⟨"OneSelfModel", "areTwo", "(II)Z"⟩
theorem ml_M_194 : Cond.methodLink "OneSelfModel" 194 y_M_areTwo ∈ tb_g := (tb_at (i := 1215) (by decide +kernel))
theorem mt_M_areTwo : mtV y_M_areTwo prog_14_method_28_code 3 (some .boolean) 2 := ⟨(tb_at (i := 1218) (by decide +kernel)), (tb_at (i := 14) (by decide +kernel)), (tb_at (i := 1217) (by decide +kernel)), (tb_pr (i := 25) (by decide +kernel)), ⟨by decide +kernel, by decide +kernel, by decide +kernel⟩⟩
def y_M_levelOf : MethodName := ⟨"OneSelfModel", "levelOf", "(III)I"⟩
theorem ml_M_197 : Cond.methodLink "OneSelfModel" 197 y_M_levelOf ∈ tb_g := (tb_at (i := 1219) (by decide +kernel))
def y_M_nameLevel : MethodName := ⟨"OneSelfModel", "nameLevel", "(II)I"⟩
theorem ml_M_188 : Cond.methodLink "OneSelfModel" 188 y_M_nameLevel ∈ tb_g := (tb_at (i := 1223) (by decide +kernel))
def y_M_soundAlike : MethodName := ⟨"OneSelfModel", "soundAlike", "(II)Z"⟩
theorem ml_M_184 : Cond.methodLink "OneSelfModel" 184 y_M_soundAlike ∈ tb_g := (tb_at (i := 1227) (by decide +kernel))
theorem mt_M_soundAlike : mtV y_M_soundAlike prog_14_method_23_code 4 (some .boolean) 2 := ⟨(tb_at (i := 1230) (by decide +kernel)), (tb_at (i := 14) (by decide +kernel)), (tb_at (i := 1229) (by decide +kernel)), (tb_pr (i := 28) (by decide +kernel)), ⟨by decide +kernel, by decide +kernel, by decide +kernel⟩⟩
theorem mt_M_nameLevel : mtV y_M_nameLevel prog_14_method_26_code 4 (some .int) 2 := ⟨(tb_at (i := 1226) (by decide +kernel)), (tb_at (i := 14) (by decide +kernel)), (tb_at (i := 1225) (by decide +kernel)), (tb_pr (i := 27) (by decide +kernel)), ⟨by decide +kernel, by decide +kernel, by decide +kernel⟩⟩
def y_M_amount : MethodName := ⟨"OneSelfModel", "amount", "(I)I"⟩
theorem ml_M_191 : Cond.methodLink "OneSelfModel" 191 y_M_amount ∈ tb_g := (tb_at (i := 1231) (by decide +kernel))
theorem mt_M_amount : mtS y_M_amount prog_14_method_4_code 1 (some .int) 1 := ⟨(tb_at (i := 1233) (by decide +kernel)), (tb_at (i := 14) (by decide +kernel)), (tb_at (i := 1232) (by decide +kernel)), ⟨by decide +kernel, by decide +kernel, by decide +kernel⟩⟩
theorem mt_M_levelOf : mtV y_M_levelOf prog_14_method_27_code 7 (some .int) 3 := ⟨(tb_at (i := 1222) (by decide +kernel)), (tb_at (i := 14) (by decide +kernel)), (tb_at (i := 1221) (by decide +kernel)), (tb_pr (i := 26) (by decide +kernel)), ⟨by decide +kernel, by decide +kernel, by decide +kernel⟩⟩
def y_M_points : MethodName := ⟨"OneSelfModel", "points", "(III)I"⟩
theorem fl_M_56 : Cond.fieldLink "OneSelfModel" 56 "OneSelfModel" "pointsOf" "[I" ∈ tb_g := (tb_at (i := 984) (by decide +kernel))
def y_M_score : MethodName := ⟨"OneSelfModel", "score", "(II)I"⟩
def y_M_scoreOf : MethodName := ⟨"OneSelfModel", "scoreOf", "(II)I"⟩
theorem ml_M_201 : Cond.methodLink "OneSelfModel" 201 y_M_scoreOf ∈ tb_g := (tb_at (i := 1242) (by decide +kernel))
theorem mt_M_scoreOf : mtV y_M_scoreOf prog_14_method_31_code 6 (some .int) 2 := ⟨(tb_at (i := 1245) (by decide +kernel)), (tb_at (i := 14) (by decide +kernel)), (tb_at (i := 1244) (by decide +kernel)), (tb_pr (i := 29) (by decide +kernel)), ⟨by decide +kernel, by decide +kernel, by decide +kernel⟩⟩
def y_M_chance : MethodName := ⟨"OneSelfModel", "chance", "(ZIII)I"⟩
theorem fl_M_59 : Cond.fieldLink "OneSelfModel" 59 "OneSelfModel" "chances" "[I" ∈ tb_g := (tb_at (i := 985) (by decide +kernel))
def y_M_odds : MethodName := ⟨"OneSelfModel", "odds", "(III)J"⟩
theorem kc_M_215 : Cond.constantLong "OneSelfModel" 215 (-9223372036854775808 : Int64) ∈ tb_g := (tb_at (i := 1254) (by decide +kernel))
def y_M_oddsOf : MethodName := ⟨"OneSelfModel", "oddsOf", "(II)V"⟩
theorem ml_M_217 : Cond.methodLink "OneSelfModel" 217 y_M_oddsOf ∈ tb_g := (tb_at (i := 1255) (by decide +kernel))
theorem fl_M_204 : Cond.fieldLink "OneSelfModel" 204 "OneSelfModel" "oddsTop" "J" ∈ tb_g := (tb_at (i := 986) (by decide +kernel))
theorem fl_M_208 : Cond.fieldLink "OneSelfModel" 208 "OneSelfModel" "oddsBottom" "J" ∈ tb_g := (tb_at (i := 987) (by decide +kernel))
def y_M_divisor : MethodName := ⟨"OneSelfModel", "divisor", "(JJ)J"⟩
theorem ml_M_211 : Cond.methodLink "OneSelfModel" 211 y_M_divisor ∈ tb_g := (tb_at (i := 1259) (by decide +kernel))
theorem mt_M_divisor : mtS y_M_divisor prog_14_method_34_code 10 (some .long) 2 := ⟨(tb_at (i := 1261) (by decide +kernel)), (tb_at (i := 14) (by decide +kernel)), (tb_at (i := 1260) (by decide +kernel)), ⟨by decide +kernel, by decide +kernel, by decide +kernel⟩⟩
theorem mt_M_oddsOf : mtV y_M_oddsOf prog_14_method_35_code 5 none 2 := ⟨(tb_at (i := 1258) (by decide +kernel)), (tb_at (i := 14) (by decide +kernel)), (tb_at (i := 1257) (by decide +kernel)), (tb_pr (i := 30) (by decide +kernel)), ⟨by decide +kernel, by decide +kernel, by decide +kernel⟩⟩
def y_M_belief : MethodName := ⟨"OneSelfModel", "belief", "(IIII)I"⟩
theorem kc_M_220 : Cond.constant "OneSelfModel" 220 (100000 : Int32) ∈ tb_g := (tb_at (i := 1266) (by decide +kernel))
theorem kc_M_221 : Cond.constantLong "OneSelfModel" 221 (10 : Int64) ∈ tb_g := (tb_at (i := 1267) (by decide +kernel))
def y_M_line : MethodName := ⟨"OneSelfModel", "line", "(I)I"⟩
theorem fl_M_62 : Cond.fieldLink "OneSelfModel" 62 "OneSelfModel" "lineNow" "I" ∈ tb_g := (tb_at (i := 988) (by decide +kernel))
def y_M_links : MethodName := ⟨"OneSelfModel", "links", "()I"⟩
def y_M_looks : MethodName := ⟨"OneSelfModel", "looks", "()V"⟩
theorem ml_M_226 : Cond.methodLink "OneSelfModel" 226 y_M_looks ∈ tb_g := (tb_at (i := 1276) (by decide +kernel))
theorem fl_M_223 : Cond.fieldLink "OneSelfModel" 223 "OneSelfModel" "linkMany" "I" ∈ tb_g := (tb_at (i := 990) (by decide +kernel))
theorem fl_M_65 : Cond.fieldLink "OneSelfModel" 65 "OneSelfModel" "isLink" "[Z" ∈ tb_g := (tb_at (i := 989) (by decide +kernel))
theorem mt_M_looks : mtV y_M_looks prog_14_method_39_code 4 none 0 := ⟨(tb_at (i := 1279) (by decide +kernel)), (tb_at (i := 14) (by decide +kernel)), (tb_at (i := 1278) (by decide +kernel)), (tb_pr (i := 31) (by decide +kernel)), ⟨by decide +kernel, by decide +kernel, by decide +kernel⟩⟩
def y_M_laid : MethodName := ⟨"OneSelfModel", "laid", "(III)I"⟩
def y_M_areRegisters : MethodName := ⟨"OneSelfModel", "areRegisters", "(II)Z"⟩
theorem ml_M_244 : Cond.methodLink "OneSelfModel" 244 y_M_areRegisters ∈ tb_g := (tb_at (i := 1284) (by decide +kernel))
theorem mt_M_areRegisters : mtS y_M_areRegisters prog_14_method_44_code 2 (some .boolean) 2 := ⟨(tb_at (i := 1286) (by decide +kernel)), (tb_at (i := 14) (by decide +kernel)), (tb_at (i := 1285) (by decide +kernel)), ⟨by decide +kernel, by decide +kernel, by decide +kernel⟩⟩
def y_M_lays : MethodName := ⟨"OneSelfModel", "lays", "(II)Z"⟩
theorem ml_M_247 : Cond.methodLink "OneSelfModel" 247 y_M_lays ∈ tb_g := (tb_at (i := 1287) (by decide +kernel))
def y_M_knownOf : MethodName := ⟨"OneSelfModel", "knownOf", "(I)I"⟩
theorem ml_M_229 : Cond.methodLink "OneSelfModel" 229 y_M_knownOf ∈ tb_g := (tb_at (i := 1291) (by decide +kernel))
theorem mt_M_knownOf : mtV y_M_knownOf prog_14_method_41_code 4 (some .int) 1 := ⟨(tb_at (i := 1294) (by decide +kernel)), (tb_at (i := 14) (by decide +kernel)), (tb_at (i := 1293) (by decide +kernel)), (tb_pr (i := 33) (by decide +kernel)), ⟨by decide +kernel, by decide +kernel, by decide +kernel⟩⟩
theorem fl_M_232 : Cond.fieldLink "OneSelfModel" 232 "OneSelfModel" "ofA" "I" ∈ tb_g := (tb_at (i := 991) (by decide +kernel))
theorem fl_M_235 : Cond.fieldLink "OneSelfModel" 235 "OneSelfModel" "ofB" "I" ∈ tb_g := (tb_at (i := 992) (by decide +kernel))
theorem fl_M_69 : Cond.fieldLink "OneSelfModel" 69 "OneSelfModel" "rowsA" "[I" ∈ tb_g := (tb_at (i := 993) (by decide +kernel))
theorem fl_M_72 : Cond.fieldLink "OneSelfModel" 72 "OneSelfModel" "rowsB" "[I" ∈ tb_g := (tb_at (i := 994) (by decide +kernel))
def y_M_follows : MethodName := ⟨"OneSelfModel", "follows", "()V"⟩
theorem ml_M_238 : Cond.methodLink "OneSelfModel" 238 y_M_follows ∈ tb_g := (tb_at (i := 1295) (by decide +kernel))
theorem fl_M_241 : Cond.fieldLink "OneSelfModel" 241 "OneSelfModel" "laidMany" "I" ∈ tb_g := (tb_at (i := 998) (by decide +kernel))
theorem fl_M_81 : Cond.fieldLink "OneSelfModel" 81 "OneSelfModel" "mates" "[I" ∈ tb_g := (tb_at (i := 997) (by decide +kernel))
theorem fl_M_75 : Cond.fieldLink "OneSelfModel" 75 "OneSelfModel" "worths" "[I" ∈ tb_g := (tb_at (i := 995) (by decide +kernel))
theorem fl_M_78 : Cond.fieldLink "OneSelfModel" 78 "OneSelfModel" "bests" "[I" ∈ tb_g := (tb_at (i := 996) (by decide +kernel))
theorem mt_M_follows : mtV y_M_follows prog_14_method_43_code 5 none 0 := ⟨(tb_at (i := 1298) (by decide +kernel)), (tb_at (i := 14) (by decide +kernel)), (tb_at (i := 1297) (by decide +kernel)), (tb_pr (i := 34) (by decide +kernel)), ⟨by decide +kernel, by decide +kernel, by decide +kernel⟩⟩
theorem mt_M_lays : mtV y_M_lays prog_14_method_42_code 8 (some .boolean) 2 := ⟨(tb_at (i := 1290) (by decide +kernel)), (tb_at (i := 14) (by decide +kernel)), (tb_at (i := 1289) (by decide +kernel)), (tb_pr (i := 32) (by decide +kernel)), ⟨by decide +kernel, by decide +kernel, by decide +kernel⟩⟩
def y_M_mate : MethodName := ⟨"OneSelfModel", "mate", "(II)I"⟩
def y_M_bundle : MethodName := ⟨"OneSelfModel", "bundle", "(I)I"⟩
def y_M_binds : MethodName := ⟨"OneSelfModel", "binds", "()V"⟩
theorem ml_M_250 : Cond.methodLink "OneSelfModel" 250 y_M_binds ∈ tb_g := (tb_at (i := 1307) (by decide +kernel))
theorem fl_M_84 : Cond.fieldLink "OneSelfModel" 84 "OneSelfModel" "bundleOf" "[I" ∈ tb_g := (tb_at (i := 999) (by decide +kernel))
theorem mt_M_binds : mtV y_M_binds prog_14_method_47_code 4 none 0 := ⟨(tb_at (i := 1310) (by decide +kernel)), (tb_at (i := 14) (by decide +kernel)), (tb_at (i := 1309) (by decide +kernel)), (tb_pr (i := 35) (by decide +kernel)), ⟨by decide +kernel, by decide +kernel, by decide +kernel⟩⟩
def y_M_bundles : MethodName := ⟨"OneSelfModel", "bundles", "(I)I"⟩
def y_M_bundlesOf : MethodName := ⟨"OneSelfModel", "bundlesOf", "(I)I"⟩
theorem ml_M_259 : Cond.methodLink "OneSelfModel" 259 y_M_bundlesOf ∈ tb_g := (tb_at (i := 1315) (by decide +kernel))
def y_M_sizeOf : MethodName := ⟨"OneSelfModel", "sizeOf", "(I)I"⟩
theorem ml_M_253 : Cond.methodLink "OneSelfModel" 253 y_M_sizeOf ∈ tb_g := (tb_at (i := 1319) (by decide +kernel))
theorem mt_M_sizeOf : mtV y_M_sizeOf prog_14_method_50_code 4 (some .int) 1 := ⟨(tb_at (i := 1322) (by decide +kernel)), (tb_at (i := 14) (by decide +kernel)), (tb_at (i := 1321) (by decide +kernel)), (tb_pr (i := 37) (by decide +kernel)), ⟨by decide +kernel, by decide +kernel, by decide +kernel⟩⟩
def y_M_isTorn : MethodName := ⟨"OneSelfModel", "isTorn", "(I)Z"⟩
theorem ml_M_256 : Cond.methodLink "OneSelfModel" 256 y_M_isTorn ∈ tb_g := (tb_at (i := 1323) (by decide +kernel))
theorem mt_M_isTorn : mtV y_M_isTorn prog_14_method_49_code 6 (some .boolean) 1 := ⟨(tb_at (i := 1326) (by decide +kernel)), (tb_at (i := 14) (by decide +kernel)), (tb_at (i := 1325) (by decide +kernel)), (tb_pr (i := 38) (by decide +kernel)), ⟨by decide +kernel, by decide +kernel, by decide +kernel⟩⟩
theorem mt_M_bundlesOf : mtV y_M_bundlesOf prog_14_method_51_code 5 (some .int) 1 := ⟨(tb_at (i := 1318) (by decide +kernel)), (tb_at (i := 14) (by decide +kernel)), (tb_at (i := 1317) (by decide +kernel)), (tb_pr (i := 36) (by decide +kernel)), ⟨by decide +kernel, by decide +kernel, by decide +kernel⟩⟩
def y_M_torn : MethodName := ⟨"OneSelfModel", "torn", "(I)I"⟩
def y_M_cut : MethodName := ⟨"OneSelfModel", "cut", "(II)I"⟩
theorem fl_M_87 : Cond.fieldLink "OneSelfModel" 87 "OneSelfModel" "hang" "[I" ∈ tb_g := (tb_at (i := 1000) (by decide +kernel))
def y_M_crossing : MethodName := ⟨"OneSelfModel", "crossing", "(II)I"⟩
theorem ml_M_262 : Cond.methodLink "OneSelfModel" 262 y_M_crossing ∈ tb_g := (tb_at (i := 1335) (by decide +kernel))
theorem mt_M_crossing : mtV y_M_crossing prog_14_method_55_code 6 (some .int) 2 := ⟨(tb_at (i := 1338) (by decide +kernel)), (tb_at (i := 14) (by decide +kernel)), (tb_at (i := 1337) (by decide +kernel)), (tb_pr (i := 39) (by decide +kernel)), ⟨by decide +kernel, by decide +kernel, by decide +kernel⟩⟩
def y_M_check : MethodName := ⟨"OneSelfModel", "check", "(IIZ)I"⟩
theorem fl_M_265 : Cond.fieldLink "OneSelfModel" 265 "OneSelfModel" "checks" "I" ∈ tb_g := (tb_at (i := 1001) (by decide +kernel))
theorem fl_M_90 : Cond.fieldLink "OneSelfModel" 90 "OneSelfModel" "checkA" "[I" ∈ tb_g := (tb_at (i := 1002) (by decide +kernel))
theorem fl_M_93 : Cond.fieldLink "OneSelfModel" 93 "OneSelfModel" "checkB" "[I" ∈ tb_g := (tb_at (i := 1003) (by decide +kernel))
theorem fl_M_96 : Cond.fieldLink "OneSelfModel" 96 "OneSelfModel" "checkOne" "[Z" ∈ tb_g := (tb_at (i := 1004) (by decide +kernel))
def y_M_checked : MethodName := ⟨"OneSelfModel", "checked", "(I)I"⟩
def y_M_checkedOf : MethodName := ⟨"OneSelfModel", "checkedOf", "(I)I"⟩
theorem ml_M_271 : Cond.methodLink "OneSelfModel" 271 y_M_checkedOf ∈ tb_g := (tb_at (i := 1347) (by decide +kernel))
def y_M_isCheckedLink : MethodName := ⟨"OneSelfModel", "isCheckedLink", "(I)Z"⟩
theorem ml_M_268 : Cond.methodLink "OneSelfModel" 268 y_M_isCheckedLink ∈ tb_g := (tb_at (i := 1351) (by decide +kernel))
theorem mt_M_isCheckedLink : mtV y_M_isCheckedLink prog_14_method_57_code 4 (some .boolean) 1 := ⟨(tb_at (i := 1354) (by decide +kernel)), (tb_at (i := 14) (by decide +kernel)), (tb_at (i := 1353) (by decide +kernel)), (tb_pr (i := 41) (by decide +kernel)), ⟨by decide +kernel, by decide +kernel, by decide +kernel⟩⟩
theorem mt_M_checkedOf : mtV y_M_checkedOf prog_14_method_58_code 4 (some .int) 1 := ⟨(tb_at (i := 1350) (by decide +kernel)), (tb_at (i := 14) (by decide +kernel)), (tb_at (i := 1349) (by decide +kernel)), (tb_pr (i := 40) (by decide +kernel)), ⟨by decide +kernel, by decide +kernel, by decide +kernel⟩⟩
def y_M_bound : MethodName := ⟨"OneSelfModel", "bound", "(I)I"⟩
def y_M_isLikely : MethodName := ⟨"OneSelfModel", "isLikely", "(III)Z"⟩
theorem ml_M_274 : Cond.methodLink "OneSelfModel" 274 y_M_isLikely ∈ tb_g := (tb_at (i := 1359) (by decide +kernel))
theorem fl_M_99 : Cond.fieldLink "OneSelfModel" 99 "OneSelfModel" "falseRow" "[J" ∈ tb_g := (tb_at (i := 1005) (by decide +kernel))
def y_M_waysOf : MethodName := ⟨"OneSelfModel", "waysOf", "([JI)V"⟩
theorem ml_M_277 : Cond.methodLink "OneSelfModel" 277 y_M_waysOf ∈ tb_g := (tb_at (i := 1363) (by decide +kernel))
theorem mt_M_waysOf : mtS y_M_waysOf prog_14_method_60_code 4 none 2 := ⟨(tb_at (i := 1365) (by decide +kernel)), (tb_at (i := 14) (by decide +kernel)), (tb_at (i := 1364) (by decide +kernel)), ⟨by decide +kernel, by decide +kernel, by decide +kernel⟩⟩
theorem fl_M_103 : Cond.fieldLink "OneSelfModel" 103 "OneSelfModel" "trueRow" "[J" ∈ tb_g := (tb_at (i := 1006) (by decide +kernel))
theorem fl_M_106 : Cond.fieldLink "OneSelfModel" 106 "OneSelfModel" "wayRow" "[J" ∈ tb_g := (tb_at (i := 1007) (by decide +kernel))
theorem kc_M_281 : Cond.constantLong "OneSelfModel" 281 (40 : Int64) ∈ tb_g := (tb_at (i := 1366) (by decide +kernel))
theorem mt_M_isLikely : mtV y_M_isLikely prog_14_method_62_code 11 (some .boolean) 3 := ⟨(tb_at (i := 1362) (by decide +kernel)), (tb_at (i := 14) (by decide +kernel)), (tb_at (i := 1361) (by decide +kernel)), (tb_pr (i := 42) (by decide +kernel)), ⟨by decide +kernel, by decide +kernel, by decide +kernel⟩⟩
def y_M_learnt : MethodName := ⟨"OneSelfModel", "learnt", "(ZII)I"⟩
def y_M_meet : MethodName := ⟨"OneSelfModel", "meet", "(III)I"⟩
def y_M_mayMeet : MethodName := ⟨"OneSelfModel", "mayMeet", "(II)Z"⟩
theorem ml_M_283 : Cond.methodLink "OneSelfModel" 283 y_M_mayMeet ∈ tb_g := (tb_at (i := 1375) (by decide +kernel))
theorem mt_M_mayMeet : mtV y_M_mayMeet prog_14_method_65_code 3 (some .boolean) 2 := ⟨(tb_at (i := 1378) (by decide +kernel)), (tb_at (i := 14) (by decide +kernel)), (tb_at (i := 1377) (by decide +kernel)), (tb_pr (i := 43) (by decide +kernel)), ⟨by decide +kernel, by decide +kernel, by decide +kernel⟩⟩
def y_M_alikeBy : MethodName := ⟨"OneSelfModel", "alikeBy", "(II)I"⟩
theorem ml_M_286 : Cond.methodLink "OneSelfModel" 286 y_M_alikeBy ∈ tb_g := (tb_at (i := 1379) (by decide +kernel))
theorem mt_M_alikeBy : mtV y_M_alikeBy prog_14_method_64_code 5 (some .int) 2 := ⟨(tb_at (i := 1382) (by decide +kernel)), (tb_at (i := 14) (by decide +kernel)), (tb_at (i := 1381) (by decide +kernel)), (tb_pr (i := 44) (by decide +kernel)), ⟨by decide +kernel, by decide +kernel, by decide +kernel⟩⟩
def y_M_pairs : MethodName := ⟨"OneSelfModel", "pairs", "(I)I"⟩
def y_M_counts : MethodName := ⟨"OneSelfModel", "counts", "()V"⟩
theorem ml_M_289 : Cond.methodLink "OneSelfModel" 289 y_M_counts ∈ tb_g := (tb_at (i := 1387) (by decide +kernel))
theorem fl_M_109 : Cond.fieldLink "OneSelfModel" 109 "OneSelfModel" "alikes" "[I" ∈ tb_g := (tb_at (i := 1008) (by decide +kernel))
theorem fl_M_112 : Cond.fieldLink "OneSelfModel" 112 "OneSelfModel" "isTrue" "[Z" ∈ tb_g := (tb_at (i := 1009) (by decide +kernel))
theorem mt_M_counts : mtV y_M_counts prog_14_method_67_code 3 none 0 := ⟨(tb_at (i := 1390) (by decide +kernel)), (tb_at (i := 14) (by decide +kernel)), (tb_at (i := 1389) (by decide +kernel)), (tb_pr (i := 45) (by decide +kernel)), ⟨by decide +kernel, by decide +kernel, by decide +kernel⟩⟩
def y_M_pairsOf : MethodName := ⟨"OneSelfModel", "pairsOf", "(I)I"⟩
theorem ml_M_292 : Cond.methodLink "OneSelfModel" 292 y_M_pairsOf ∈ tb_g := (tb_at (i := 1391) (by decide +kernel))
theorem mt_M_pairsOf : mtV y_M_pairsOf prog_14_method_68_code 4 (some .int) 1 := ⟨(tb_at (i := 1394) (by decide +kernel)), (tb_at (i := 14) (by decide +kernel)), (tb_at (i := 1393) (by decide +kernel)), (tb_pr (i := 46) (by decide +kernel)), ⟨by decide +kernel, by decide +kernel, by decide +kernel⟩⟩
def y_M_keys : MethodName := ⟨"OneSelfModel", "keys", "()I"⟩
def y_M_missesNone : MethodName := ⟨"OneSelfModel", "missesNone", "(I)Z"⟩
theorem ml_M_295 : Cond.methodLink "OneSelfModel" 295 y_M_missesNone ∈ tb_g := (tb_at (i := 1399) (by decide +kernel))
theorem mt_M_missesNone : mtV y_M_missesNone prog_14_method_71_code 3 (some .boolean) 1 := ⟨(tb_at (i := 1402) (by decide +kernel)), (tb_at (i := 14) (by decide +kernel)), (tb_at (i := 1401) (by decide +kernel)), (tb_pr (i := 47) (by decide +kernel)), ⟨by decide +kernel, by decide +kernel, by decide +kernel⟩⟩
def y_M_ones : MethodName := ⟨"OneSelfModel", "ones", "(I)I"⟩
theorem ml_M_298 : Cond.methodLink "OneSelfModel" 298 y_M_ones ∈ tb_g := (tb_at (i := 1403) (by decide +kernel))
theorem mt_M_ones : mtS y_M_ones prog_14_method_70_code 3 (some .int) 1 := ⟨(tb_at (i := 1405) (by decide +kernel)), (tb_at (i := 14) (by decide +kernel)), (tb_at (i := 1404) (by decide +kernel)), ⟨by decide +kernel, by decide +kernel, by decide +kernel⟩⟩
def y_M_sheet : MethodName := ⟨"OneSelfModel", "sheet", "(III)I"⟩
theorem fl_M_118 : Cond.fieldLink "OneSelfModel" 118 "OneSelfModel" "types" "[I" ∈ tb_g := (tb_at (i := 1011) (by decide +kernel))
def y_M_lose : MethodName := ⟨"OneSelfModel", "lose", "(I)I"⟩
def y_M_put : MethodName := ⟨"OneSelfModel", "put", "(IIII)I"⟩
def y_M_lacks : MethodName := ⟨"OneSelfModel", "lacks", "(III)I"⟩
theorem ml_M_304 : Cond.methodLink "OneSelfModel" 304 y_M_lacks ∈ tb_g := (tb_at (i := 1418) (by decide +kernel))
theorem mt_M_lacks : mtV y_M_lacks prog_14_method_77_code 4 (some .int) 3 := ⟨(tb_at (i := 1421) (by decide +kernel)), (tb_at (i := 14) (by decide +kernel)), (tb_at (i := 1420) (by decide +kernel)), (tb_pr (i := 48) (by decide +kernel)), ⟨by decide +kernel, by decide +kernel, by decide +kernel⟩⟩
def y_M_lay : MethodName := ⟨"OneSelfModel", "lay", "(III)V"⟩
theorem ml_M_307 : Cond.methodLink "OneSelfModel" 307 y_M_lay ∈ tb_g := (tb_at (i := 1422) (by decide +kernel))
theorem mt_M_lay : mtV y_M_lay prog_14_method_78_code 4 none 3 := ⟨(tb_at (i := 1425) (by decide +kernel)), (tb_at (i := 14) (by decide +kernel)), (tb_at (i := 1424) (by decide +kernel)), (tb_pr (i := 49) (by decide +kernel)), ⟨by decide +kernel, by decide +kernel, by decide +kernel⟩⟩
def y_M_get : MethodName := ⟨"OneSelfModel", "get", "(III)I"⟩
theorem kc_M_311 : Cond.constant "OneSelfModel" 311 (-2147483648 : Int32) ∈ tb_g := (tb_at (i := 1430) (by decide +kernel))
def y_M_copy : MethodName := ⟨"OneSelfModel", "copy", "(IIIII)I"⟩
theorem fl_M_127 : Cond.fieldLink "OneSelfModel" 127 "OneSelfModel" "moved" "[I" ∈ tb_g := (tb_at (i := 1014) (by decide +kernel))
def y_M_write : MethodName := ⟨"OneSelfModel", "write", "(II)I"⟩
def y_M_count : MethodName := ⟨"OneSelfModel", "count", "(I)I"⟩
def y_M_digest : MethodName := ⟨"OneSelfModel", "digest", "()J"⟩
theorem kc_M_312 : Cond.constantLong "OneSelfModel" 312 (17 : Int64) ∈ tb_g := (tb_at (i := 1447) (by decide +kernel))
theorem kc_M_314 : Cond.constantLong "OneSelfModel" 314 (31 : Int64) ∈ tb_g := (tb_at (i := 1448) (by decide +kernel))
theorem ml_M_316 : Cond.methodLink "OneSelfModel" 316 y_M_count ∈ tb_g := (tb_at (i := 1449) (by decide +kernel))
theorem mt_M_count : mtV y_M_count prog_14_method_83_code 3 (some .int) 1 := ⟨(tb_at (i := 1442) (by decide +kernel)), (tb_at (i := 14) (by decide +kernel)), (tb_at (i := 1440) (by decide +kernel)), (tb_at (i := 1441) (by decide +kernel)), ⟨by decide +kernel, by decide +kernel, by decide +kernel⟩⟩
