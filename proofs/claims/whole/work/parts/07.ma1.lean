theorem d_M_pass_0 : decode prog_14_method_7_code 0 = .ok (.iload_n 1, 1) := by decide +kernel
theorem d_M_pass_1 : decode prog_14_method_7_code 1 = .ok (.iconst 1, 1) := by decide +kernel
theorem d_M_pass_2 : decode prog_14_method_7_code 2 = .ok (.bipush 100, 2) := by decide +kernel
theorem d_M_pass_4 : decode prog_14_method_7_code 4 = .ok (.invokestatic 133, 3) := by decide +kernel
theorem d_M_in_0 : decode prog_14_method_3_code 0 = .ok (.iload_n 0, 1) := by decide +kernel
theorem d_M_in_1 : decode prog_14_method_3_code 1 = .ok (.iload_n 1, 1) := by decide +kernel
theorem d_M_in_2 : decode prog_14_method_3_code 2 = .ok (.if_icmp .lt 12, 3) := by decide +kernel
theorem d_M_in_14 : decode prog_14_method_3_code 14 = .ok (.iconst 0, 1) := by decide +kernel
theorem d_M_in_15 : decode prog_14_method_3_code 15 = .ok (.ireturn, 1) := by decide +kernel
theorem d_M_in_5 : decode prog_14_method_3_code 5 = .ok (.iload_n 0, 1) := by decide +kernel
theorem d_M_in_6 : decode prog_14_method_3_code 6 = .ok (.iload_n 2, 1) := by decide +kernel
theorem d_M_in_7 : decode prog_14_method_3_code 7 = .ok (.if_icmp .gt 7, 3) := by decide +kernel
theorem d_M_in_10 : decode prog_14_method_3_code 10 = .ok (.iconst 1, 1) := by decide +kernel
theorem d_M_in_11 : decode prog_14_method_3_code 11 = .ok (.goto 4, 3) := by decide +kernel
theorem d_M_pass_7 : decode prog_14_method_7_code 7 = .ok (.ifCond .eq 15, 3) := by decide +kernel
theorem d_M_pass_22 : decode prog_14_method_7_code 22 = .ok (.bipush (-2), 2) := by decide +kernel
theorem d_M_pass_24 : decode prog_14_method_7_code 24 = .ok (.ireturn, 1) := by decide +kernel
theorem d_M_pass_10 : decode prog_14_method_7_code 10 = .ok (.aload_n 0, 1) := by decide +kernel
theorem d_M_pass_11 : decode prog_14_method_7_code 11 = .ok (.getfield 137, 3) := by decide +kernel
theorem d_M_pass_14 : decode prog_14_method_7_code 14 = .ok (.iload_n 1, 1) := by decide +kernel
theorem d_M_pass_15 : decode prog_14_method_7_code 15 = .ok (.iadd, 1) := by decide +kernel
theorem d_M_pass_16 : decode prog_14_method_7_code 16 = .ok (.sipush 399, 3) := by decide +kernel
theorem d_M_pass_19 : decode prog_14_method_7_code 19 = .ok (.if_icmp .le 6, 3) := by decide +kernel
theorem d_M_pass_25 : decode prog_14_method_7_code 25 = .ok (.aload_n 0, 1) := by decide +kernel
theorem d_M_pass_26 : decode prog_14_method_7_code 26 = .ok (.dup, 1) := by decide +kernel
theorem d_M_pass_27 : decode prog_14_method_7_code 27 = .ok (.getfield 137, 3) := by decide +kernel
theorem d_M_pass_30 : decode prog_14_method_7_code 30 = .ok (.iload_n 1, 1) := by decide +kernel
theorem d_M_pass_31 : decode prog_14_method_7_code 31 = .ok (.iadd, 1) := by decide +kernel
theorem d_M_pass_32 : decode prog_14_method_7_code 32 = .ok (.putfield 137, 3) := by decide +kernel
theorem d_M_pass_35 : decode prog_14_method_7_code 35 = .ok (.aload_n 0, 1) := by decide +kernel
theorem d_M_pass_36 : decode prog_14_method_7_code 36 = .ok (.getfield 137, 3) := by decide +kernel
theorem d_M_pass_39 : decode prog_14_method_7_code 39 = .ok (.ireturn, 1) := by decide +kernel
theorem d_M_row_0 : decode prog_14_method_8_code 0 = .ok (.iload_n 1, 1) := by decide +kernel
theorem d_M_row_1 : decode prog_14_method_8_code 1 = .ok (.iconst 0, 1) := by decide +kernel
theorem d_M_row_2 : decode prog_14_method_8_code 2 = .ok (.iconst 2, 1) := by decide +kernel
theorem d_M_row_3 : decode prog_14_method_8_code 3 = .ok (.invokestatic 133, 3) := by decide +kernel
theorem d_M_row_6 : decode prog_14_method_8_code 6 = .ok (.ifCond .eq 66, 3) := by decide +kernel
theorem d_M_row_72 : decode prog_14_method_8_code 72 = .ok (.bipush (-2), 2) := by decide +kernel
theorem d_M_row_74 : decode prog_14_method_8_code 74 = .ok (.ireturn, 1) := by decide +kernel
theorem d_M_row_9 : decode prog_14_method_8_code 9 = .ok (.iload_n 2, 1) := by decide +kernel
theorem d_M_row_10 : decode prog_14_method_8_code 10 = .ok (.invokestatic 140, 3) := by decide +kernel
theorem d_M_isSheet_0 : decode prog_14_method_74_code 0 = .ok (.iload_n 0, 1) := by decide +kernel
theorem d_M_isSheet_1 : decode prog_14_method_74_code 1 = .ok (.iconst 0, 1) := by decide +kernel
theorem d_M_isSheet_2 : decode prog_14_method_74_code 2 = .ok (.iconst 3, 1) := by decide +kernel
theorem d_M_isSheet_3 : decode prog_14_method_74_code 3 = .ok (.invokestatic 133, 3) := by decide +kernel
theorem d_M_isSheet_6 : decode prog_14_method_74_code 6 = .ok (.ireturn, 1) := by decide +kernel
theorem d_M_row_13 : decode prog_14_method_8_code 13 = .ok (.ifCond .eq 59, 3) := by decide +kernel
theorem d_M_row_16 : decode prog_14_method_8_code 16 = .ok (.iload_n 3, 1) := by decide +kernel
theorem d_M_row_17 : decode prog_14_method_8_code 17 = .ok (.ifCond .lt 55, 3) := by decide +kernel
theorem d_M_row_20 : decode prog_14_method_8_code 20 = .ok (.iload 4, 2) := by decide +kernel
theorem d_M_row_22 : decode prog_14_method_8_code 22 = .ok (.iconst 1, 1) := by decide +kernel
theorem d_M_row_23 : decode prog_14_method_8_code 23 = .ok (.bipush 10, 2) := by decide +kernel
theorem d_M_row_25 : decode prog_14_method_8_code 25 = .ok (.invokestatic 133, 3) := by decide +kernel
theorem d_M_row_28 : decode prog_14_method_8_code 28 = .ok (.ifCond .eq 44, 3) := by decide +kernel
theorem d_M_row_31 : decode prog_14_method_8_code 31 = .ok (.iload 5, 2) := by decide +kernel
theorem d_M_row_33 : decode prog_14_method_8_code 33 = .ok (.iconst (-1), 1) := by decide +kernel
theorem d_M_row_34 : decode prog_14_method_8_code 34 = .ok (.if_icmp .eq 17, 3) := by decide +kernel
theorem d_M_row_37 : decode prog_14_method_8_code 37 = .ok (.iload 5, 2) := by decide +kernel
theorem d_M_row_39 : decode prog_14_method_8_code 39 = .ok (.sipush 1500, 3) := by decide +kernel
theorem d_M_row_42 : decode prog_14_method_8_code 42 = .ok (.sipush 1999, 3) := by decide +kernel
theorem d_M_row_45 : decode prog_14_method_8_code 45 = .ok (.invokestatic 133, 3) := by decide +kernel
theorem d_M_row_48 : decode prog_14_method_8_code 48 = .ok (.ifCond .eq 24, 3) := by decide +kernel
theorem d_M_row_51 : decode prog_14_method_8_code 51 = .ok (.iload 6, 2) := by decide +kernel
theorem d_M_row_53 : decode prog_14_method_8_code 53 = .ok (.iconst (-1), 1) := by decide +kernel
theorem d_M_row_54 : decode prog_14_method_8_code 54 = .ok (.bipush 7, 2) := by decide +kernel
theorem d_M_row_56 : decode prog_14_method_8_code 56 = .ok (.invokestatic 133, 3) := by decide +kernel
theorem d_M_row_59 : decode prog_14_method_8_code 59 = .ok (.ifCond .eq 13, 3) := by decide +kernel
theorem d_M_row_62 : decode prog_14_method_8_code 62 = .ok (.iload 7, 2) := by decide +kernel
theorem d_M_row_64 : decode prog_14_method_8_code 64 = .ok (.iconst (-1), 1) := by decide +kernel
theorem d_M_row_65 : decode prog_14_method_8_code 65 = .ok (.iconst 1, 1) := by decide +kernel
theorem d_M_row_66 : decode prog_14_method_8_code 66 = .ok (.invokestatic 133, 3) := by decide +kernel
theorem d_M_row_69 : decode prog_14_method_8_code 69 = .ok (.ifCond .ne 6, 3) := by decide +kernel
theorem d_M_row_75 : decode prog_14_method_8_code 75 = .ok (.aload_n 0, 1) := by decide +kernel
theorem d_M_row_76 : decode prog_14_method_8_code 76 = .ok (.getfield 115, 3) := by decide +kernel
theorem d_M_row_79 : decode prog_14_method_8_code 79 = .ok (.iload_n 2, 1) := by decide +kernel
theorem d_M_row_80 : decode prog_14_method_8_code 80 = .ok (.baload, 1) := by decide +kernel
theorem d_M_row_81 : decode prog_14_method_8_code 81 = .ok (.ifCond .ne 9, 3) := by decide +kernel
theorem d_M_row_84 : decode prog_14_method_8_code 84 = .ok (.aload_n 0, 1) := by decide +kernel
theorem d_M_row_85 : decode prog_14_method_8_code 85 = .ok (.iconst 1, 1) := by decide +kernel
theorem d_M_row_86 : decode prog_14_method_8_code 86 = .ok (.invokevirtual 144, 3) := by decide +kernel
theorem d_M_meets_0 : decode prog_14_method_73_code 0 = .ok (.aload_n 0, 1) := by decide +kernel
theorem d_M_meets_1 : decode prog_14_method_73_code 1 = .ok (.iload_n 1, 1) := by decide +kernel
theorem d_M_meets_2 : decode prog_14_method_73_code 2 = .ok (.putfield 301, 3) := by decide +kernel
theorem d_M_meets_5 : decode prog_14_method_73_code 5 = .ok (.bipush (-10), 2) := by decide +kernel
theorem d_M_meets_7 : decode prog_14_method_73_code 7 = .ok (.iload_n 1, 1) := by decide +kernel
theorem d_M_meets_8 : decode prog_14_method_73_code 8 = .ok (.isub, 1) := by decide +kernel
theorem d_M_meets_9 : decode prog_14_method_73_code 9 = .ok (.ireturn, 1) := by decide +kernel
theorem d_M_row_89 : decode prog_14_method_8_code 89 = .ok (.ireturn, 1) := by decide +kernel
theorem d_M_row_90 : decode prog_14_method_8_code 90 = .ok (.iload_n 3, 1) := by decide +kernel
theorem d_M_row_91 : decode prog_14_method_8_code 91 = .ok (.aload_n 0, 1) := by decide +kernel
theorem d_M_row_92 : decode prog_14_method_8_code 92 = .ok (.getfield 121, 3) := by decide +kernel
theorem d_M_row_95 : decode prog_14_method_8_code 95 = .ok (.iload_n 2, 1) := by decide +kernel
theorem d_M_row_96 : decode prog_14_method_8_code 96 = .ok (.iaload, 1) := by decide +kernel
theorem d_M_row_97 : decode prog_14_method_8_code 97 = .ok (.iload 4, 2) := by decide +kernel
theorem d_M_row_99 : decode prog_14_method_8_code 99 = .ok (.isub, 1) := by decide +kernel
theorem d_M_row_100 : decode prog_14_method_8_code 100 = .ok (.if_icmp .le 9, 3) := by decide +kernel
theorem d_M_row_109 : decode prog_14_method_8_code 109 = .ok (.iconst 0, 1) := by decide +kernel
theorem d_M_row_110 : decode prog_14_method_8_code 110 = .ok (.istore 8, 2) := by decide +kernel
theorem d_M_row_103 : decode prog_14_method_8_code 103 = .ok (.aload_n 0, 1) := by decide +kernel
theorem d_M_row_104 : decode prog_14_method_8_code 104 = .ok (.iconst 2, 1) := by decide +kernel
theorem d_M_row_105 : decode prog_14_method_8_code 105 = .ok (.invokevirtual 144, 3) := by decide +kernel
theorem d_M_row_108 : decode prog_14_method_8_code 108 = .ok (.ireturn, 1) := by decide +kernel
theorem d_M_row_112 : decode prog_14_method_8_code 112 = .ok (.iload 8, 2) := by decide +kernel
theorem d_M_row_114 : decode prog_14_method_8_code 114 = .ok (.iload 4, 2) := by decide +kernel
theorem d_M_row_116 : decode prog_14_method_8_code 116 = .ok (.if_icmp .ge 36, 3) := by decide +kernel
theorem d_M_row_152 : decode prog_14_method_8_code 152 = .ok (.aload_n 0, 1) := by decide +kernel
theorem d_M_row_153 : decode prog_14_method_8_code 153 = .ok (.getfield 130, 3) := by decide +kernel
theorem d_M_row_156 : decode prog_14_method_8_code 156 = .ok (.bipush 36, 2) := by decide +kernel
theorem d_M_row_158 : decode prog_14_method_8_code 158 = .ok (.if_icmp .ne 6, 3) := by decide +kernel
theorem d_M_row_161 : decode prog_14_method_8_code 161 = .ok (.bipush (-4), 2) := by decide +kernel
theorem d_M_row_163 : decode prog_14_method_8_code 163 = .ok (.ireturn, 1) := by decide +kernel
theorem d_M_row_164 : decode prog_14_method_8_code 164 = .ok (.iconst 0, 1) := by decide +kernel
theorem d_M_row_165 : decode prog_14_method_8_code 165 = .ok (.istore 8, 2) := by decide +kernel
theorem d_M_row_119 : decode prog_14_method_8_code 119 = .ok (.aload_n 0, 1) := by decide +kernel
theorem d_M_row_120 : decode prog_14_method_8_code 120 = .ok (.getfield 124, 3) := by decide +kernel
theorem d_M_row_123 : decode prog_14_method_8_code 123 = .ok (.bipush 40, 2) := by decide +kernel
theorem d_M_row_125 : decode prog_14_method_8_code 125 = .ok (.iload_n 2, 1) := by decide +kernel
theorem d_M_row_126 : decode prog_14_method_8_code 126 = .ok (.imul, 1) := by decide +kernel
theorem d_M_row_127 : decode prog_14_method_8_code 127 = .ok (.iload_n 3, 1) := by decide +kernel
theorem d_M_row_128 : decode prog_14_method_8_code 128 = .ok (.iadd, 1) := by decide +kernel
theorem d_M_row_129 : decode prog_14_method_8_code 129 = .ok (.iload 8, 2) := by decide +kernel
theorem d_M_row_131 : decode prog_14_method_8_code 131 = .ok (.iadd, 1) := by decide +kernel
theorem d_M_row_132 : decode prog_14_method_8_code 132 = .ok (.iaload, 1) := by decide +kernel
theorem d_M_row_133 : decode prog_14_method_8_code 133 = .ok (.bipush 97, 2) := by decide +kernel
theorem d_M_row_135 : decode prog_14_method_8_code 135 = .ok (.bipush 122, 2) := by decide +kernel
theorem d_M_row_137 : decode prog_14_method_8_code 137 = .ok (.invokestatic 133, 3) := by decide +kernel
theorem d_M_row_140 : decode prog_14_method_8_code 140 = .ok (.ifCond .ne 6, 3) := by decide +kernel
theorem d_M_row_143 : decode prog_14_method_8_code 143 = .ok (.bipush (-3), 2) := by decide +kernel
theorem d_M_row_145 : decode prog_14_method_8_code 145 = .ok (.ireturn, 1) := by decide +kernel
theorem d_M_row_146 : decode prog_14_method_8_code 146 = .ok (.iinc 8 1, 3) := by decide +kernel
theorem d_M_row_149 : decode prog_14_method_8_code 149 = .ok (.goto (-37), 3) := by decide +kernel
theorem d_M_row_167 : decode prog_14_method_8_code 167 = .ok (.iload 8, 2) := by decide +kernel
theorem d_M_row_169 : decode prog_14_method_8_code 169 = .ok (.iload 4, 2) := by decide +kernel
theorem d_M_row_171 : decode prog_14_method_8_code 171 = .ok (.if_icmp .ge 38, 3) := by decide +kernel
theorem d_M_row_209 : decode prog_14_method_8_code 209 = .ok (.aload_n 0, 1) := by decide +kernel
theorem d_M_row_210 : decode prog_14_method_8_code 210 = .ok (.getfield 16, 3) := by decide +kernel
theorem d_M_row_213 : decode prog_14_method_8_code 213 = .ok (.aload_n 0, 1) := by decide +kernel
theorem d_M_row_214 : decode prog_14_method_8_code 214 = .ok (.getfield 130, 3) := by decide +kernel
theorem d_M_row_217 : decode prog_14_method_8_code 217 = .ok (.iload 4, 2) := by decide +kernel
theorem d_M_row_219 : decode prog_14_method_8_code 219 = .ok (.iastore, 1) := by decide +kernel
theorem d_M_row_220 : decode prog_14_method_8_code 220 = .ok (.aload_n 0, 1) := by decide +kernel
theorem d_M_row_221 : decode prog_14_method_8_code 221 = .ok (.getfield 7, 3) := by decide +kernel
theorem d_M_row_224 : decode prog_14_method_8_code 224 = .ok (.aload_n 0, 1) := by decide +kernel
theorem d_M_row_225 : decode prog_14_method_8_code 225 = .ok (.getfield 130, 3) := by decide +kernel
theorem d_M_row_228 : decode prog_14_method_8_code 228 = .ok (.iload_n 1, 1) := by decide +kernel
theorem d_M_row_229 : decode prog_14_method_8_code 229 = .ok (.iastore, 1) := by decide +kernel
theorem d_M_row_230 : decode prog_14_method_8_code 230 = .ok (.aload_n 0, 1) := by decide +kernel
theorem d_M_row_231 : decode prog_14_method_8_code 231 = .ok (.getfield 19, 3) := by decide +kernel
theorem d_M_row_234 : decode prog_14_method_8_code 234 = .ok (.aload_n 0, 1) := by decide +kernel
theorem d_M_row_235 : decode prog_14_method_8_code 235 = .ok (.getfield 130, 3) := by decide +kernel
theorem d_M_row_238 : decode prog_14_method_8_code 238 = .ok (.iload 5, 2) := by decide +kernel
theorem d_M_row_240 : decode prog_14_method_8_code 240 = .ok (.iastore, 1) := by decide +kernel
theorem d_M_row_241 : decode prog_14_method_8_code 241 = .ok (.aload_n 0, 1) := by decide +kernel
theorem d_M_row_242 : decode prog_14_method_8_code 242 = .ok (.getfield 22, 3) := by decide +kernel
theorem d_M_row_245 : decode prog_14_method_8_code 245 = .ok (.aload_n 0, 1) := by decide +kernel
theorem d_M_row_246 : decode prog_14_method_8_code 246 = .ok (.getfield 130, 3) := by decide +kernel
theorem d_M_row_249 : decode prog_14_method_8_code 249 = .ok (.iload 6, 2) := by decide +kernel
theorem d_M_row_251 : decode prog_14_method_8_code 251 = .ok (.iastore, 1) := by decide +kernel
theorem d_M_row_252 : decode prog_14_method_8_code 252 = .ok (.aload_n 0, 1) := by decide +kernel
theorem d_M_row_253 : decode prog_14_method_8_code 253 = .ok (.getfield 25, 3) := by decide +kernel
theorem d_M_row_256 : decode prog_14_method_8_code 256 = .ok (.aload_n 0, 1) := by decide +kernel
theorem d_M_row_257 : decode prog_14_method_8_code 257 = .ok (.getfield 130, 3) := by decide +kernel
theorem d_M_row_260 : decode prog_14_method_8_code 260 = .ok (.iload 7, 2) := by decide +kernel
theorem d_M_row_262 : decode prog_14_method_8_code 262 = .ok (.iastore, 1) := by decide +kernel
theorem d_M_row_263 : decode prog_14_method_8_code 263 = .ok (.aload_n 0, 1) := by decide +kernel
theorem d_M_row_264 : decode prog_14_method_8_code 264 = .ok (.getfield 28, 3) := by decide +kernel
theorem d_M_row_267 : decode prog_14_method_8_code 267 = .ok (.aload_n 0, 1) := by decide +kernel
theorem d_M_row_268 : decode prog_14_method_8_code 268 = .ok (.getfield 130, 3) := by decide +kernel
theorem d_M_row_271 : decode prog_14_method_8_code 271 = .ok (.aload_n 0, 1) := by decide +kernel
theorem d_M_row_272 : decode prog_14_method_8_code 272 = .ok (.getfield 137, 3) := by decide +kernel
theorem d_M_row_275 : decode prog_14_method_8_code 275 = .ok (.iastore, 1) := by decide +kernel
theorem d_M_row_276 : decode prog_14_method_8_code 276 = .ok (.aload_n 0, 1) := by decide +kernel
theorem d_M_row_277 : decode prog_14_method_8_code 277 = .ok (.getfield 31, 3) := by decide +kernel
theorem d_M_row_280 : decode prog_14_method_8_code 280 = .ok (.aload_n 0, 1) := by decide +kernel
theorem d_M_row_281 : decode prog_14_method_8_code 281 = .ok (.getfield 130, 3) := by decide +kernel
theorem d_M_row_284 : decode prog_14_method_8_code 284 = .ok (.iconst (-1), 1) := by decide +kernel
theorem d_M_row_285 : decode prog_14_method_8_code 285 = .ok (.iastore, 1) := by decide +kernel
theorem d_M_row_286 : decode prog_14_method_8_code 286 = .ok (.aload_n 0, 1) := by decide +kernel
theorem d_M_row_287 : decode prog_14_method_8_code 287 = .ok (.dup, 1) := by decide +kernel
theorem d_M_row_288 : decode prog_14_method_8_code 288 = .ok (.getfield 130, 3) := by decide +kernel
theorem d_M_row_291 : decode prog_14_method_8_code 291 = .ok (.iconst 1, 1) := by decide +kernel
theorem d_M_row_292 : decode prog_14_method_8_code 292 = .ok (.iadd, 1) := by decide +kernel
theorem d_M_row_293 : decode prog_14_method_8_code 293 = .ok (.putfield 130, 3) := by decide +kernel
theorem d_M_row_296 : decode prog_14_method_8_code 296 = .ok (.aload_n 0, 1) := by decide +kernel
theorem d_M_row_297 : decode prog_14_method_8_code 297 = .ok (.getfield 130, 3) := by decide +kernel
theorem d_M_row_300 : decode prog_14_method_8_code 300 = .ok (.iconst 1, 1) := by decide +kernel
theorem d_M_row_301 : decode prog_14_method_8_code 301 = .ok (.isub, 1) := by decide +kernel
theorem d_M_row_302 : decode prog_14_method_8_code 302 = .ok (.ireturn, 1) := by decide +kernel
theorem d_M_row_174 : decode prog_14_method_8_code 174 = .ok (.aload_n 0, 1) := by decide +kernel
theorem d_M_row_175 : decode prog_14_method_8_code 175 = .ok (.getfield 13, 3) := by decide +kernel
theorem d_M_row_178 : decode prog_14_method_8_code 178 = .ok (.bipush 10, 2) := by decide +kernel
theorem d_M_row_180 : decode prog_14_method_8_code 180 = .ok (.aload_n 0, 1) := by decide +kernel
theorem d_M_row_181 : decode prog_14_method_8_code 181 = .ok (.getfield 130, 3) := by decide +kernel
theorem d_M_row_184 : decode prog_14_method_8_code 184 = .ok (.imul, 1) := by decide +kernel
theorem d_M_row_185 : decode prog_14_method_8_code 185 = .ok (.iload 8, 2) := by decide +kernel
theorem d_M_row_187 : decode prog_14_method_8_code 187 = .ok (.iadd, 1) := by decide +kernel
theorem d_M_row_188 : decode prog_14_method_8_code 188 = .ok (.aload_n 0, 1) := by decide +kernel
theorem d_M_row_189 : decode prog_14_method_8_code 189 = .ok (.getfield 124, 3) := by decide +kernel
theorem d_M_row_192 : decode prog_14_method_8_code 192 = .ok (.bipush 40, 2) := by decide +kernel
theorem d_M_row_194 : decode prog_14_method_8_code 194 = .ok (.iload_n 2, 1) := by decide +kernel
theorem d_M_row_195 : decode prog_14_method_8_code 195 = .ok (.imul, 1) := by decide +kernel
theorem d_M_row_196 : decode prog_14_method_8_code 196 = .ok (.iload_n 3, 1) := by decide +kernel
theorem d_M_row_197 : decode prog_14_method_8_code 197 = .ok (.iadd, 1) := by decide +kernel
theorem d_M_row_198 : decode prog_14_method_8_code 198 = .ok (.iload 8, 2) := by decide +kernel
theorem d_M_row_200 : decode prog_14_method_8_code 200 = .ok (.iadd, 1) := by decide +kernel
theorem d_M_row_201 : decode prog_14_method_8_code 201 = .ok (.iaload, 1) := by decide +kernel
theorem d_M_row_202 : decode prog_14_method_8_code 202 = .ok (.iastore, 1) := by decide +kernel
theorem d_M_row_203 : decode prog_14_method_8_code 203 = .ok (.iinc 8 1, 3) := by decide +kernel
theorem d_M_row_206 : decode prog_14_method_8_code 206 = .ok (.goto (-39), 3) := by decide +kernel
theorem d_M_takeBack_0 : decode prog_14_method_9_code 0 = .ok (.aload_n 0, 1) := by decide +kernel
theorem d_M_takeBack_1 : decode prog_14_method_9_code 1 = .ok (.iload_n 1, 1) := by decide +kernel
theorem d_M_takeBack_2 : decode prog_14_method_9_code 2 = .ok (.invokevirtual 148, 3) := by decide +kernel
theorem d_M_isRow_0 : decode prog_14_method_5_code 0 = .ok (.iload_n 1, 1) := by decide +kernel
theorem d_M_isRow_1 : decode prog_14_method_5_code 1 = .ok (.iconst 0, 1) := by decide +kernel
theorem d_M_isRow_2 : decode prog_14_method_5_code 2 = .ok (.aload_n 0, 1) := by decide +kernel
theorem d_M_isRow_3 : decode prog_14_method_5_code 3 = .ok (.getfield 130, 3) := by decide +kernel
theorem d_M_isRow_6 : decode prog_14_method_5_code 6 = .ok (.iconst 1, 1) := by decide +kernel
theorem d_M_isRow_7 : decode prog_14_method_5_code 7 = .ok (.isub, 1) := by decide +kernel
theorem d_M_isRow_8 : decode prog_14_method_5_code 8 = .ok (.invokestatic 133, 3) := by decide +kernel
theorem d_M_isRow_11 : decode prog_14_method_5_code 11 = .ok (.ireturn, 1) := by decide +kernel
theorem d_M_takeBack_5 : decode prog_14_method_9_code 5 = .ok (.ifCond .ne 6, 3) := by decide +kernel
theorem d_M_takeBack_8 : decode prog_14_method_9_code 8 = .ok (.bipush (-2), 2) := by decide +kernel
theorem d_M_takeBack_10 : decode prog_14_method_9_code 10 = .ok (.ireturn, 1) := by decide +kernel
theorem d_M_takeBack_11 : decode prog_14_method_9_code 11 = .ok (.aload_n 0, 1) := by decide +kernel
theorem d_M_takeBack_12 : decode prog_14_method_9_code 12 = .ok (.getfield 31, 3) := by decide +kernel
theorem d_M_takeBack_15 : decode prog_14_method_9_code 15 = .ok (.iload_n 1, 1) := by decide +kernel
theorem d_M_takeBack_16 : decode prog_14_method_9_code 16 = .ok (.iaload, 1) := by decide +kernel
theorem d_M_takeBack_17 : decode prog_14_method_9_code 17 = .ok (.iconst (-1), 1) := by decide +kernel
theorem d_M_takeBack_18 : decode prog_14_method_9_code 18 = .ok (.if_icmp .eq 6, 3) := by decide +kernel
theorem d_M_takeBack_24 : decode prog_14_method_9_code 24 = .ok (.aload_n 0, 1) := by decide +kernel
theorem d_M_takeBack_25 : decode prog_14_method_9_code 25 = .ok (.getfield 31, 3) := by decide +kernel
theorem d_M_takeBack_28 : decode prog_14_method_9_code 28 = .ok (.iload_n 1, 1) := by decide +kernel
theorem d_M_takeBack_29 : decode prog_14_method_9_code 29 = .ok (.aload_n 0, 1) := by decide +kernel
theorem d_M_takeBack_30 : decode prog_14_method_9_code 30 = .ok (.getfield 137, 3) := by decide +kernel
theorem d_M_takeBack_33 : decode prog_14_method_9_code 33 = .ok (.iastore, 1) := by decide +kernel
theorem d_M_takeBack_34 : decode prog_14_method_9_code 34 = .ok (.iconst 1, 1) := by decide +kernel
theorem d_M_takeBack_35 : decode prog_14_method_9_code 35 = .ok (.ireturn, 1) := by decide +kernel
theorem d_M_takeBack_21 : decode prog_14_method_9_code 21 = .ok (.bipush (-3), 2) := by decide +kernel
theorem d_M_takeBack_23 : decode prog_14_method_9_code 23 = .ok (.ireturn, 1) := by decide +kernel
theorem d_M_about_0 : decode prog_14_method_11_code 0 = .ok (.aload_n 0, 1) := by decide +kernel
theorem d_M_about_1 : decode prog_14_method_11_code 1 = .ok (.iload_n 1, 1) := by decide +kernel
theorem d_M_about_2 : decode prog_14_method_11_code 2 = .ok (.invokevirtual 148, 3) := by decide +kernel
theorem d_M_about_5 : decode prog_14_method_11_code 5 = .ok (.ifCond .eq 12, 3) := by decide +kernel
theorem d_M_about_17 : decode prog_14_method_11_code 17 = .ok (.bipush (-2), 2) := by decide +kernel
theorem d_M_about_19 : decode prog_14_method_11_code 19 = .ok (.ireturn, 1) := by decide +kernel
theorem d_M_about_8 : decode prog_14_method_11_code 8 = .ok (.aload_n 0, 1) := by decide +kernel
theorem d_M_about_9 : decode prog_14_method_11_code 9 = .ok (.iload_n 1, 1) := by decide +kernel
theorem d_M_about_10 : decode prog_14_method_11_code 10 = .ok (.iload_n 2, 1) := by decide +kernel
theorem d_M_about_11 : decode prog_14_method_11_code 11 = .ok (.invokevirtual 154, 3) := by decide +kernel
theorem d_M_aboutOf_0 : decode prog_14_method_10_code 0 = .ok (.iload_n 2, 1) := by decide +kernel
theorem d_M_aboutOf_1 : decode prog_14_method_10_code 1 = .ok (.tableswitch 110 0 7 #[47, 54, 61, 68, 75, 82, 89, 96], 47) := by decide +kernel
theorem d_M_aboutOf_48 : decode prog_14_method_10_code 48 = .ok (.aload_n 0, 1) := by decide +kernel
theorem d_M_aboutOf_49 : decode prog_14_method_10_code 49 = .ok (.getfield 7, 3) := by decide +kernel
theorem d_M_aboutOf_52 : decode prog_14_method_10_code 52 = .ok (.iload_n 1, 1) := by decide +kernel
theorem d_M_aboutOf_53 : decode prog_14_method_10_code 53 = .ok (.iaload, 1) := by decide +kernel
theorem d_M_aboutOf_54 : decode prog_14_method_10_code 54 = .ok (.ireturn, 1) := by decide +kernel
theorem d_M_aboutOf_55 : decode prog_14_method_10_code 55 = .ok (.aload_n 0, 1) := by decide +kernel
theorem d_M_aboutOf_56 : decode prog_14_method_10_code 56 = .ok (.getfield 19, 3) := by decide +kernel
theorem d_M_aboutOf_59 : decode prog_14_method_10_code 59 = .ok (.iload_n 1, 1) := by decide +kernel
theorem d_M_aboutOf_60 : decode prog_14_method_10_code 60 = .ok (.iaload, 1) := by decide +kernel
theorem d_M_aboutOf_61 : decode prog_14_method_10_code 61 = .ok (.ireturn, 1) := by decide +kernel
theorem d_M_aboutOf_62 : decode prog_14_method_10_code 62 = .ok (.aload_n 0, 1) := by decide +kernel
theorem d_M_aboutOf_63 : decode prog_14_method_10_code 63 = .ok (.getfield 22, 3) := by decide +kernel
theorem d_M_aboutOf_66 : decode prog_14_method_10_code 66 = .ok (.iload_n 1, 1) := by decide +kernel
theorem d_M_aboutOf_67 : decode prog_14_method_10_code 67 = .ok (.iaload, 1) := by decide +kernel
theorem d_M_aboutOf_68 : decode prog_14_method_10_code 68 = .ok (.ireturn, 1) := by decide +kernel
theorem d_M_aboutOf_69 : decode prog_14_method_10_code 69 = .ok (.aload_n 0, 1) := by decide +kernel
theorem d_M_aboutOf_70 : decode prog_14_method_10_code 70 = .ok (.getfield 25, 3) := by decide +kernel
theorem d_M_aboutOf_73 : decode prog_14_method_10_code 73 = .ok (.iload_n 1, 1) := by decide +kernel
theorem d_M_aboutOf_74 : decode prog_14_method_10_code 74 = .ok (.iaload, 1) := by decide +kernel
theorem d_M_aboutOf_75 : decode prog_14_method_10_code 75 = .ok (.ireturn, 1) := by decide +kernel
theorem d_M_aboutOf_76 : decode prog_14_method_10_code 76 = .ok (.aload_n 0, 1) := by decide +kernel
theorem d_M_aboutOf_77 : decode prog_14_method_10_code 77 = .ok (.getfield 16, 3) := by decide +kernel
theorem d_M_aboutOf_80 : decode prog_14_method_10_code 80 = .ok (.iload_n 1, 1) := by decide +kernel
theorem d_M_aboutOf_81 : decode prog_14_method_10_code 81 = .ok (.iaload, 1) := by decide +kernel
theorem d_M_aboutOf_82 : decode prog_14_method_10_code 82 = .ok (.ireturn, 1) := by decide +kernel
theorem d_M_aboutOf_83 : decode prog_14_method_10_code 83 = .ok (.aload_n 0, 1) := by decide +kernel
theorem d_M_aboutOf_84 : decode prog_14_method_10_code 84 = .ok (.getfield 28, 3) := by decide +kernel
theorem d_M_aboutOf_87 : decode prog_14_method_10_code 87 = .ok (.iload_n 1, 1) := by decide +kernel
theorem d_M_aboutOf_88 : decode prog_14_method_10_code 88 = .ok (.iaload, 1) := by decide +kernel
theorem d_M_aboutOf_89 : decode prog_14_method_10_code 89 = .ok (.ireturn, 1) := by decide +kernel
theorem d_M_aboutOf_90 : decode prog_14_method_10_code 90 = .ok (.aload_n 0, 1) := by decide +kernel
theorem d_M_aboutOf_91 : decode prog_14_method_10_code 91 = .ok (.getfield 31, 3) := by decide +kernel
theorem d_M_aboutOf_94 : decode prog_14_method_10_code 94 = .ok (.iload_n 1, 1) := by decide +kernel
theorem d_M_aboutOf_95 : decode prog_14_method_10_code 95 = .ok (.iaload, 1) := by decide +kernel
theorem d_M_aboutOf_96 : decode prog_14_method_10_code 96 = .ok (.ireturn, 1) := by decide +kernel
theorem d_M_aboutOf_97 : decode prog_14_method_10_code 97 = .ok (.aload_n 0, 1) := by decide +kernel
theorem d_M_aboutOf_98 : decode prog_14_method_10_code 98 = .ok (.iload_n 1, 1) := by decide +kernel
theorem d_M_aboutOf_99 : decode prog_14_method_10_code 99 = .ok (.invokevirtual 151, 3) := by decide +kernel
theorem d_M_isKnown_0 : decode prog_14_method_6_code 0 = .ok (.aload_n 0, 1) := by decide +kernel
theorem d_M_isKnown_1 : decode prog_14_method_6_code 1 = .ok (.getfield 34, 3) := by decide +kernel
theorem d_M_isKnown_4 : decode prog_14_method_6_code 4 = .ok (.iconst (-1), 1) := by decide +kernel
theorem d_M_isKnown_5 : decode prog_14_method_6_code 5 = .ok (.if_icmp .ne 10, 3) := by decide +kernel
theorem d_M_isKnown_8 : decode prog_14_method_6_code 8 = .ok (.aload_n 0, 1) := by decide +kernel
theorem d_M_isKnown_9 : decode prog_14_method_6_code 9 = .ok (.getfield 137, 3) := by decide +kernel
theorem d_M_isKnown_12 : decode prog_14_method_6_code 12 = .ok (.goto 7, 3) := by decide +kernel
theorem d_M_isKnown_15 : decode prog_14_method_6_code 15 = .ok (.aload_n 0, 1) := by decide +kernel
theorem d_M_isKnown_16 : decode prog_14_method_6_code 16 = .ok (.getfield 34, 3) := by decide +kernel
theorem d_M_isKnown_19 : decode prog_14_method_6_code 19 = .ok (.istore_n 2, 1) := by decide +kernel
theorem d_M_isKnown_20 : decode prog_14_method_6_code 20 = .ok (.aload_n 0, 1) := by decide +kernel
theorem d_M_isKnown_21 : decode prog_14_method_6_code 21 = .ok (.getfield 28, 3) := by decide +kernel
theorem d_M_isKnown_24 : decode prog_14_method_6_code 24 = .ok (.iload_n 1, 1) := by decide +kernel
theorem d_M_isKnown_25 : decode prog_14_method_6_code 25 = .ok (.iaload, 1) := by decide +kernel
theorem d_M_isKnown_26 : decode prog_14_method_6_code 26 = .ok (.iload_n 2, 1) := by decide +kernel
theorem d_M_isKnown_27 : decode prog_14_method_6_code 27 = .ok (.if_icmp .gt 27, 3) := by decide +kernel
theorem d_M_isKnown_54 : decode prog_14_method_6_code 54 = .ok (.iconst 0, 1) := by decide +kernel
theorem d_M_isKnown_55 : decode prog_14_method_6_code 55 = .ok (.ireturn, 1) := by decide +kernel
theorem d_M_isKnown_30 : decode prog_14_method_6_code 30 = .ok (.aload_n 0, 1) := by decide +kernel
theorem d_M_isKnown_31 : decode prog_14_method_6_code 31 = .ok (.getfield 31, 3) := by decide +kernel
theorem d_M_isKnown_34 : decode prog_14_method_6_code 34 = .ok (.iload_n 1, 1) := by decide +kernel
theorem d_M_isKnown_35 : decode prog_14_method_6_code 35 = .ok (.iaload, 1) := by decide +kernel
theorem d_M_isKnown_36 : decode prog_14_method_6_code 36 = .ok (.iconst (-1), 1) := by decide +kernel
theorem d_M_isKnown_37 : decode prog_14_method_6_code 37 = .ok (.if_icmp .eq 13, 3) := by decide +kernel
theorem d_M_isKnown_40 : decode prog_14_method_6_code 40 = .ok (.aload_n 0, 1) := by decide +kernel
theorem d_M_isKnown_41 : decode prog_14_method_6_code 41 = .ok (.getfield 31, 3) := by decide +kernel
theorem d_M_isKnown_44 : decode prog_14_method_6_code 44 = .ok (.iload_n 1, 1) := by decide +kernel
theorem d_M_isKnown_45 : decode prog_14_method_6_code 45 = .ok (.iaload, 1) := by decide +kernel
theorem d_M_isKnown_46 : decode prog_14_method_6_code 46 = .ok (.iload_n 2, 1) := by decide +kernel
theorem d_M_isKnown_47 : decode prog_14_method_6_code 47 = .ok (.if_icmp .le 7, 3) := by decide +kernel
theorem d_M_isKnown_50 : decode prog_14_method_6_code 50 = .ok (.iconst 1, 1) := by decide +kernel
theorem d_M_isKnown_51 : decode prog_14_method_6_code 51 = .ok (.goto 4, 3) := by decide +kernel
theorem d_M_aboutOf_102 : decode prog_14_method_10_code 102 = .ok (.ifCond .eq 7, 3) := by decide +kernel
theorem d_M_aboutOf_109 : decode prog_14_method_10_code 109 = .ok (.iconst 0, 1) := by decide +kernel
theorem d_M_aboutOf_110 : decode prog_14_method_10_code 110 = .ok (.ireturn, 1) := by decide +kernel
theorem d_M_aboutOf_105 : decode prog_14_method_10_code 105 = .ok (.iconst 1, 1) := by decide +kernel
theorem d_M_aboutOf_106 : decode prog_14_method_10_code 106 = .ok (.goto 4, 3) := by decide +kernel
theorem d_M_aboutOf_111 : decode prog_14_method_10_code 111 = .ok (.bipush (-2), 2) := by decide +kernel
theorem d_M_aboutOf_113 : decode prog_14_method_10_code 113 = .ok (.ireturn, 1) := by decide +kernel
theorem d_M_about_14 : decode prog_14_method_11_code 14 = .ok (.goto 5, 3) := by decide +kernel
theorem d_M_letter_0 : decode prog_14_method_12_code 0 = .ok (.aload_n 0, 1) := by decide +kernel
theorem d_M_letter_1 : decode prog_14_method_12_code 1 = .ok (.iload_n 1, 1) := by decide +kernel
theorem d_M_letter_2 : decode prog_14_method_12_code 2 = .ok (.invokevirtual 148, 3) := by decide +kernel
theorem d_M_letter_5 : decode prog_14_method_12_code 5 = .ok (.ifCond .eq 7, 3) := by decide +kernel
theorem d_M_letter_12 : decode prog_14_method_12_code 12 = .ok (.bipush (-2), 2) := by decide +kernel
theorem d_M_letter_14 : decode prog_14_method_12_code 14 = .ok (.ireturn, 1) := by decide +kernel
theorem d_M_letter_8 : decode prog_14_method_12_code 8 = .ok (.iload_n 2, 1) := by decide +kernel
theorem d_M_letter_9 : decode prog_14_method_12_code 9 = .ok (.ifCond .ge 6, 3) := by decide +kernel
theorem d_M_letter_15 : decode prog_14_method_12_code 15 = .ok (.iload_n 2, 1) := by decide +kernel
theorem d_M_letter_16 : decode prog_14_method_12_code 16 = .ok (.aload_n 0, 1) := by decide +kernel
theorem d_M_letter_17 : decode prog_14_method_12_code 17 = .ok (.getfield 16, 3) := by decide +kernel
theorem d_M_letter_20 : decode prog_14_method_12_code 20 = .ok (.iload_n 1, 1) := by decide +kernel
theorem d_M_letter_21 : decode prog_14_method_12_code 21 = .ok (.iaload, 1) := by decide +kernel
theorem d_M_letter_22 : decode prog_14_method_12_code 22 = .ok (.if_icmp .ge 17, 3) := by decide +kernel
theorem d_M_letter_39 : decode prog_14_method_12_code 39 = .ok (.iconst (-1), 1) := by decide +kernel
theorem d_M_letter_40 : decode prog_14_method_12_code 40 = .ok (.ireturn, 1) := by decide +kernel
theorem d_M_letter_25 : decode prog_14_method_12_code 25 = .ok (.aload_n 0, 1) := by decide +kernel
theorem d_M_letter_26 : decode prog_14_method_12_code 26 = .ok (.getfield 13, 3) := by decide +kernel
theorem d_M_letter_29 : decode prog_14_method_12_code 29 = .ok (.bipush 10, 2) := by decide +kernel
theorem d_M_letter_31 : decode prog_14_method_12_code 31 = .ok (.iload_n 1, 1) := by decide +kernel
theorem d_M_letter_32 : decode prog_14_method_12_code 32 = .ok (.imul, 1) := by decide +kernel
theorem d_M_letter_33 : decode prog_14_method_12_code 33 = .ok (.iload_n 2, 1) := by decide +kernel
theorem d_M_letter_34 : decode prog_14_method_12_code 34 = .ok (.iadd, 1) := by decide +kernel
theorem d_M_letter_35 : decode prog_14_method_12_code 35 = .ok (.iaload, 1) := by decide +kernel
theorem d_M_letter_36 : decode prog_14_method_12_code 36 = .ok (.goto 4, 3) := by decide +kernel
theorem d_M_asOf_0 : decode prog_14_method_13_code 0 = .ok (.iload_n 1, 1) := by decide +kernel
theorem d_M_asOf_1 : decode prog_14_method_13_code 1 = .ok (.iconst (-1), 1) := by decide +kernel
theorem d_M_asOf_2 : decode prog_14_method_13_code 2 = .ok (.aload_n 0, 1) := by decide +kernel
theorem d_M_asOf_3 : decode prog_14_method_13_code 3 = .ok (.getfield 137, 3) := by decide +kernel
theorem d_M_asOf_6 : decode prog_14_method_13_code 6 = .ok (.invokestatic 133, 3) := by decide +kernel
theorem d_M_asOf_9 : decode prog_14_method_13_code 9 = .ok (.ifCond .ne 6, 3) := by decide +kernel
theorem d_M_asOf_12 : decode prog_14_method_13_code 12 = .ok (.bipush (-2), 2) := by decide +kernel
theorem d_M_asOf_14 : decode prog_14_method_13_code 14 = .ok (.ireturn, 1) := by decide +kernel
theorem d_M_asOf_15 : decode prog_14_method_13_code 15 = .ok (.aload_n 0, 1) := by decide +kernel
theorem d_M_asOf_16 : decode prog_14_method_13_code 16 = .ok (.getfield 34, 3) := by decide +kernel
theorem d_M_asOf_19 : decode prog_14_method_13_code 19 = .ok (.istore_n 2, 1) := by decide +kernel
theorem d_M_asOf_20 : decode prog_14_method_13_code 20 = .ok (.aload_n 0, 1) := by decide +kernel
theorem d_M_asOf_21 : decode prog_14_method_13_code 21 = .ok (.iload_n 1, 1) := by decide +kernel
theorem d_M_asOf_22 : decode prog_14_method_13_code 22 = .ok (.putfield 34, 3) := by decide +kernel
theorem d_M_asOf_25 : decode prog_14_method_13_code 25 = .ok (.iload_n 2, 1) := by decide +kernel
theorem d_M_asOf_26 : decode prog_14_method_13_code 26 = .ok (.ireturn, 1) := by decide +kernel
theorem d_M_way_0 : decode prog_14_method_14_code 0 = .ok (.iload_n 1, 1) := by decide +kernel
theorem d_M_way_1 : decode prog_14_method_14_code 1 = .ok (.iconst 0, 1) := by decide +kernel
theorem d_M_way_2 : decode prog_14_method_14_code 2 = .ok (.bipush 7, 2) := by decide +kernel
theorem d_M_way_4 : decode prog_14_method_14_code 4 = .ok (.invokestatic 133, 3) := by decide +kernel
theorem d_M_way_7 : decode prog_14_method_14_code 7 = .ok (.ifCond .eq 28, 3) := by decide +kernel
theorem d_M_way_35 : decode prog_14_method_14_code 35 = .ok (.bipush (-2), 2) := by decide +kernel
theorem d_M_way_37 : decode prog_14_method_14_code 37 = .ok (.ireturn, 1) := by decide +kernel
theorem d_M_way_10 : decode prog_14_method_14_code 10 = .ok (.iload_n 2, 1) := by decide +kernel
theorem d_M_way_11 : decode prog_14_method_14_code 11 = .ok (.iconst 0, 1) := by decide +kernel
theorem d_M_way_12 : decode prog_14_method_14_code 12 = .ok (.bipush 7, 2) := by decide +kernel
theorem d_M_way_14 : decode prog_14_method_14_code 14 = .ok (.invokestatic 133, 3) := by decide +kernel
theorem d_M_way_17 : decode prog_14_method_14_code 17 = .ok (.ifCond .eq 18, 3) := by decide +kernel
theorem d_M_way_20 : decode prog_14_method_14_code 20 = .ok (.iload_n 1, 1) := by decide +kernel
theorem d_M_way_21 : decode prog_14_method_14_code 21 = .ok (.iload_n 2, 1) := by decide +kernel
theorem d_M_way_22 : decode prog_14_method_14_code 22 = .ok (.if_icmp .eq 13, 3) := by decide +kernel
theorem d_M_way_25 : decode prog_14_method_14_code 25 = .ok (.iload_n 3, 1) := by decide +kernel
theorem d_M_way_26 : decode prog_14_method_14_code 26 = .ok (.iconst 0, 1) := by decide +kernel
theorem d_M_way_27 : decode prog_14_method_14_code 27 = .ok (.bipush 99, 2) := by decide +kernel
theorem d_M_way_29 : decode prog_14_method_14_code 29 = .ok (.invokestatic 133, 3) := by decide +kernel
theorem d_M_way_32 : decode prog_14_method_14_code 32 = .ok (.ifCond .ne 6, 3) := by decide +kernel
theorem d_M_way_38 : decode prog_14_method_14_code 38 = .ok (.aload_n 0, 1) := by decide +kernel
theorem d_M_way_39 : decode prog_14_method_14_code 39 = .ok (.getfield 38, 3) := by decide +kernel
theorem d_M_way_42 : decode prog_14_method_14_code 42 = .ok (.bipush 8, 2) := by decide +kernel
theorem d_M_way_44 : decode prog_14_method_14_code 44 = .ok (.iload_n 1, 1) := by decide +kernel
theorem d_M_way_45 : decode prog_14_method_14_code 45 = .ok (.imul, 1) := by decide +kernel
theorem d_M_way_46 : decode prog_14_method_14_code 46 = .ok (.iload_n 2, 1) := by decide +kernel
theorem d_M_way_47 : decode prog_14_method_14_code 47 = .ok (.iadd, 1) := by decide +kernel
theorem d_M_way_48 : decode prog_14_method_14_code 48 = .ok (.iaload, 1) := by decide +kernel
theorem d_M_way_49 : decode prog_14_method_14_code 49 = .ok (.istore 4, 2) := by decide +kernel
theorem d_M_way_51 : decode prog_14_method_14_code 51 = .ok (.aload_n 0, 1) := by decide +kernel
theorem d_M_way_52 : decode prog_14_method_14_code 52 = .ok (.getfield 38, 3) := by decide +kernel
theorem d_M_way_55 : decode prog_14_method_14_code 55 = .ok (.bipush 8, 2) := by decide +kernel
theorem d_M_way_57 : decode prog_14_method_14_code 57 = .ok (.iload_n 1, 1) := by decide +kernel
theorem d_M_way_58 : decode prog_14_method_14_code 58 = .ok (.imul, 1) := by decide +kernel
theorem d_M_way_59 : decode prog_14_method_14_code 59 = .ok (.iload_n 2, 1) := by decide +kernel
theorem d_M_way_60 : decode prog_14_method_14_code 60 = .ok (.iadd, 1) := by decide +kernel
theorem d_M_way_61 : decode prog_14_method_14_code 61 = .ok (.iload_n 3, 1) := by decide +kernel
theorem d_M_way_62 : decode prog_14_method_14_code 62 = .ok (.iastore, 1) := by decide +kernel
theorem d_M_way_63 : decode prog_14_method_14_code 63 = .ok (.aload_n 0, 1) := by decide +kernel
theorem d_M_way_64 : decode prog_14_method_14_code 64 = .ok (.getfield 38, 3) := by decide +kernel
theorem d_M_way_67 : decode prog_14_method_14_code 67 = .ok (.bipush 8, 2) := by decide +kernel
theorem d_M_way_69 : decode prog_14_method_14_code 69 = .ok (.iload_n 2, 1) := by decide +kernel
theorem d_M_way_70 : decode prog_14_method_14_code 70 = .ok (.imul, 1) := by decide +kernel
theorem d_M_way_71 : decode prog_14_method_14_code 71 = .ok (.iload_n 1, 1) := by decide +kernel
theorem d_M_way_72 : decode prog_14_method_14_code 72 = .ok (.iadd, 1) := by decide +kernel
theorem d_M_way_73 : decode prog_14_method_14_code 73 = .ok (.iload_n 3, 1) := by decide +kernel
theorem d_M_way_74 : decode prog_14_method_14_code 74 = .ok (.iastore, 1) := by decide +kernel
theorem d_M_way_75 : decode prog_14_method_14_code 75 = .ok (.iload 4, 2) := by decide +kernel
theorem d_M_way_77 : decode prog_14_method_14_code 77 = .ok (.ireturn, 1) := by decide +kernel
theorem d_M_type_0 : decode prog_14_method_15_code 0 = .ok (.iload_n 1, 1) := by decide +kernel
theorem d_M_type_1 : decode prog_14_method_15_code 1 = .ok (.iconst 0, 1) := by decide +kernel
theorem d_M_type_2 : decode prog_14_method_15_code 2 = .ok (.sipush 255, 3) := by decide +kernel
theorem d_M_type_5 : decode prog_14_method_15_code 5 = .ok (.invokestatic 133, 3) := by decide +kernel
theorem d_M_type_8 : decode prog_14_method_15_code 8 = .ok (.ifCond .ne 6, 3) := by decide +kernel
theorem d_M_type_11 : decode prog_14_method_15_code 11 = .ok (.bipush (-2), 2) := by decide +kernel
theorem d_M_type_13 : decode prog_14_method_15_code 13 = .ok (.ireturn, 1) := by decide +kernel
theorem d_M_type_14 : decode prog_14_method_15_code 14 = .ok (.aload_n 0, 1) := by decide +kernel
theorem d_M_type_15 : decode prog_14_method_15_code 15 = .ok (.getfield 158, 3) := by decide +kernel
theorem d_M_type_18 : decode prog_14_method_15_code 18 = .ok (.bipush 80, 2) := by decide +kernel
theorem d_M_type_20 : decode prog_14_method_15_code 20 = .ok (.if_icmp .ne 6, 3) := by decide +kernel
theorem d_M_type_23 : decode prog_14_method_15_code 23 = .ok (.bipush (-4), 2) := by decide +kernel
theorem d_M_type_25 : decode prog_14_method_15_code 25 = .ok (.ireturn, 1) := by decide +kernel
theorem d_M_type_26 : decode prog_14_method_15_code 26 = .ok (.aload_n 0, 1) := by decide +kernel
theorem d_M_type_27 : decode prog_14_method_15_code 27 = .ok (.getfield 41, 3) := by decide +kernel
theorem d_M_type_30 : decode prog_14_method_15_code 30 = .ok (.aload_n 0, 1) := by decide +kernel
theorem d_M_type_31 : decode prog_14_method_15_code 31 = .ok (.getfield 158, 3) := by decide +kernel
theorem d_M_type_34 : decode prog_14_method_15_code 34 = .ok (.iload_n 1, 1) := by decide +kernel
theorem d_M_type_35 : decode prog_14_method_15_code 35 = .ok (.iastore, 1) := by decide +kernel
theorem d_M_type_36 : decode prog_14_method_15_code 36 = .ok (.aload_n 0, 1) := by decide +kernel
theorem d_M_type_37 : decode prog_14_method_15_code 37 = .ok (.dup, 1) := by decide +kernel
theorem d_M_type_38 : decode prog_14_method_15_code 38 = .ok (.getfield 158, 3) := by decide +kernel
theorem d_M_type_41 : decode prog_14_method_15_code 41 = .ok (.iconst 1, 1) := by decide +kernel
theorem d_M_type_42 : decode prog_14_method_15_code 42 = .ok (.iadd, 1) := by decide +kernel
theorem d_M_type_43 : decode prog_14_method_15_code 43 = .ok (.putfield 158, 3) := by decide +kernel
theorem d_M_type_46 : decode prog_14_method_15_code 46 = .ok (.aload_n 0, 1) := by decide +kernel
theorem d_M_type_47 : decode prog_14_method_15_code 47 = .ok (.iconst 0, 1) := by decide +kernel
theorem d_M_type_48 : decode prog_14_method_15_code 48 = .ok (.putfield 161, 3) := by decide +kernel
theorem d_M_type_51 : decode prog_14_method_15_code 51 = .ok (.aload_n 0, 1) := by decide +kernel
theorem d_M_type_52 : decode prog_14_method_15_code 52 = .ok (.getfield 158, 3) := by decide +kernel
theorem d_M_type_55 : decode prog_14_method_15_code 55 = .ok (.ireturn, 1) := by decide +kernel
theorem d_M_wipe_0 : decode prog_14_method_16_code 0 = .ok (.aload_n 0, 1) := by decide +kernel
theorem d_M_wipe_1 : decode prog_14_method_16_code 1 = .ok (.getfield 158, 3) := by decide +kernel
theorem d_M_wipe_4 : decode prog_14_method_16_code 4 = .ok (.istore_n 1, 1) := by decide +kernel
theorem d_M_wipe_5 : decode prog_14_method_16_code 5 = .ok (.aload_n 0, 1) := by decide +kernel
theorem d_M_wipe_6 : decode prog_14_method_16_code 6 = .ok (.iconst 0, 1) := by decide +kernel
theorem d_M_wipe_7 : decode prog_14_method_16_code 7 = .ok (.putfield 158, 3) := by decide +kernel
theorem d_M_wipe_10 : decode prog_14_method_16_code 10 = .ok (.aload_n 0, 1) := by decide +kernel
theorem d_M_wipe_11 : decode prog_14_method_16_code 11 = .ok (.iconst 0, 1) := by decide +kernel
theorem d_M_wipe_12 : decode prog_14_method_16_code 12 = .ok (.putfield 161, 3) := by decide +kernel
theorem d_M_wipe_15 : decode prog_14_method_16_code 15 = .ok (.iload_n 1, 1) := by decide +kernel
theorem d_M_wipe_16 : decode prog_14_method_16_code 16 = .ok (.ireturn, 1) := by decide +kernel
theorem d_M_fault_0 : decode prog_14_method_20_code 0 = .ok (.aload_n 0, 1) := by decide +kernel
theorem d_M_fault_1 : decode prog_14_method_20_code 1 = .ok (.invokevirtual 174, 3) := by decide +kernel
theorem d_M_reads_0 : decode prog_14_method_19_code 0 = .ok (.aload_n 0, 1) := by decide +kernel
theorem d_M_reads_1 : decode prog_14_method_19_code 1 = .ok (.getfield 161, 3) := by decide +kernel
theorem d_M_reads_4 : decode prog_14_method_19_code 4 = .ok (.ifCond .eq 4, 3) := by decide +kernel
theorem d_M_reads_8 : decode prog_14_method_19_code 8 = .ok (.aload_n 0, 1) := by decide +kernel
theorem d_M_reads_9 : decode prog_14_method_19_code 9 = .ok (.iconst 1, 1) := by decide +kernel
theorem d_M_reads_10 : decode prog_14_method_19_code 10 = .ok (.putfield 161, 3) := by decide +kernel
theorem d_M_reads_13 : decode prog_14_method_19_code 13 = .ok (.aload_n 0, 1) := by decide +kernel
theorem d_M_reads_14 : decode prog_14_method_19_code 14 = .ok (.iconst (-1), 1) := by decide +kernel
theorem d_M_reads_15 : decode prog_14_method_19_code 15 = .ok (.putfield 168, 3) := by decide +kernel
theorem d_M_reads_18 : decode prog_14_method_19_code 18 = .ok (.iconst 0, 1) := by decide +kernel
theorem d_M_reads_19 : decode prog_14_method_19_code 19 = .ok (.istore_n 1, 1) := by decide +kernel
theorem d_M_reads_7 : decode prog_14_method_19_code 7 = .ok (.return_, 1) := by decide +kernel
theorem d_M_reads_20 : decode prog_14_method_19_code 20 = .ok (.iload_n 1, 1) := by decide +kernel
theorem d_M_reads_21 : decode prog_14_method_19_code 21 = .ok (.bipush 26, 2) := by decide +kernel
theorem d_M_reads_23 : decode prog_14_method_19_code 23 = .ok (.if_icmp .ge 16, 3) := by decide +kernel
theorem d_M_reads_39 : decode prog_14_method_19_code 39 = .ok (.aload_n 0, 1) := by decide +kernel
theorem d_M_reads_40 : decode prog_14_method_19_code 40 = .ok (.iconst 0, 1) := by decide +kernel
theorem d_M_reads_41 : decode prog_14_method_19_code 41 = .ok (.invokevirtual 171, 3) := by decide +kernel
theorem d_M_group_0 : decode prog_14_method_18_code 0 = .ok (.iload_n 1, 1) := by decide +kernel
theorem d_M_group_1 : decode prog_14_method_18_code 1 = .ok (.istore_n 2, 1) := by decide +kernel
theorem d_M_group_2 : decode prog_14_method_18_code 2 = .ok (.aload_n 0, 1) := by decide +kernel
theorem d_M_group_3 : decode prog_14_method_18_code 3 = .ok (.iload_n 2, 1) := by decide +kernel
theorem d_M_group_4 : decode prog_14_method_18_code 4 = .ok (.invokevirtual 165, 3) := by decide +kernel
theorem d_M_byteAt_0 : decode prog_14_method_17_code 0 = .ok (.iload_n 1, 1) := by decide +kernel
theorem d_M_byteAt_1 : decode prog_14_method_17_code 1 = .ok (.aload_n 0, 1) := by decide +kernel
theorem d_M_byteAt_2 : decode prog_14_method_17_code 2 = .ok (.getfield 158, 3) := by decide +kernel
theorem d_M_byteAt_5 : decode prog_14_method_17_code 5 = .ok (.if_icmp .ge 12, 3) := by decide +kernel
theorem d_M_byteAt_17 : decode prog_14_method_17_code 17 = .ok (.iconst (-1), 1) := by decide +kernel
theorem d_M_byteAt_18 : decode prog_14_method_17_code 18 = .ok (.ireturn, 1) := by decide +kernel
theorem d_M_byteAt_8 : decode prog_14_method_17_code 8 = .ok (.aload_n 0, 1) := by decide +kernel
theorem d_M_byteAt_9 : decode prog_14_method_17_code 9 = .ok (.getfield 41, 3) := by decide +kernel
theorem d_M_byteAt_12 : decode prog_14_method_17_code 12 = .ok (.iload_n 1, 1) := by decide +kernel
theorem d_M_byteAt_13 : decode prog_14_method_17_code 13 = .ok (.iaload, 1) := by decide +kernel
theorem d_M_byteAt_14 : decode prog_14_method_17_code 14 = .ok (.goto 4, 3) := by decide +kernel
theorem d_M_group_7 : decode prog_14_method_18_code 7 = .ok (.bipush 97, 2) := by decide +kernel
theorem d_M_group_9 : decode prog_14_method_18_code 9 = .ok (.bipush 122, 2) := by decide +kernel
theorem d_M_group_11 : decode prog_14_method_18_code 11 = .ok (.invokestatic 133, 3) := by decide +kernel
theorem d_M_group_14 : decode prog_14_method_18_code 14 = .ok (.ifCond .eq 46, 3) := by decide +kernel
theorem d_M_group_60 : decode prog_14_method_18_code 60 = .ok (.iload_n 2, 1) := by decide +kernel
theorem d_M_group_61 : decode prog_14_method_18_code 61 = .ok (.iload_n 1, 1) := by decide +kernel
theorem d_M_group_62 : decode prog_14_method_18_code 62 = .ok (.if_icmp .eq 13, 3) := by decide +kernel
theorem d_M_group_65 : decode prog_14_method_18_code 65 = .ok (.aload_n 0, 1) := by decide +kernel
theorem d_M_group_66 : decode prog_14_method_18_code 66 = .ok (.iload_n 2, 1) := by decide +kernel
theorem d_M_group_67 : decode prog_14_method_18_code 67 = .ok (.invokevirtual 165, 3) := by decide +kernel
theorem d_M_group_70 : decode prog_14_method_18_code 70 = .ok (.bipush 61, 2) := by decide +kernel
theorem d_M_group_72 : decode prog_14_method_18_code 72 = .ok (.if_icmp .eq 10, 3) := by decide +kernel
theorem d_M_group_82 : decode prog_14_method_18_code 82 = .ok (.aload_n 0, 1) := by decide +kernel
theorem d_M_group_83 : decode prog_14_method_18_code 83 = .ok (.iload_n 2, 1) := by decide +kernel
theorem d_M_group_84 : decode prog_14_method_18_code 84 = .ok (.iconst 1, 1) := by decide +kernel
theorem d_M_group_85 : decode prog_14_method_18_code 85 = .ok (.iadd, 1) := by decide +kernel
theorem d_M_group_86 : decode prog_14_method_18_code 86 = .ok (.invokevirtual 165, 3) := by decide +kernel
theorem d_M_group_89 : decode prog_14_method_18_code 89 = .ok (.istore_n 3, 1) := by decide +kernel
theorem d_M_group_90 : decode prog_14_method_18_code 90 = .ok (.iload_n 3, 1) := by decide +kernel
theorem d_M_group_91 : decode prog_14_method_18_code 91 = .ok (.bipush 48, 2) := by decide +kernel
theorem d_M_group_93 : decode prog_14_method_18_code 93 = .ok (.bipush 57, 2) := by decide +kernel
theorem d_M_group_95 : decode prog_14_method_18_code 95 = .ok (.invokestatic 133, 3) := by decide +kernel
theorem d_M_group_98 : decode prog_14_method_18_code 98 = .ok (.ifCond .ne 12, 3) := by decide +kernel
theorem d_M_group_101 : decode prog_14_method_18_code 101 = .ok (.aload_n 0, 1) := by decide +kernel
theorem d_M_group_102 : decode prog_14_method_18_code 102 = .ok (.iload_n 2, 1) := by decide +kernel
theorem d_M_group_103 : decode prog_14_method_18_code 103 = .ok (.iconst 1, 1) := by decide +kernel
theorem d_M_group_104 : decode prog_14_method_18_code 104 = .ok (.iadd, 1) := by decide +kernel
theorem d_M_group_105 : decode prog_14_method_18_code 105 = .ok (.putfield 168, 3) := by decide +kernel
theorem d_M_group_108 : decode prog_14_method_18_code 108 = .ok (.iload_n 2, 1) := by decide +kernel
theorem d_M_group_109 : decode prog_14_method_18_code 109 = .ok (.ireturn, 1) := by decide +kernel
theorem d_M_group_110 : decode prog_14_method_18_code 110 = .ok (.iload_n 1, 1) := by decide +kernel
theorem d_M_group_111 : decode prog_14_method_18_code 111 = .ok (.istore 4, 2) := by decide +kernel
theorem d_M_group_17 : decode prog_14_method_18_code 17 = .ok (.aload_n 0, 1) := by decide +kernel
theorem d_M_group_18 : decode prog_14_method_18_code 18 = .ok (.getfield 44, 3) := by decide +kernel
theorem d_M_group_21 : decode prog_14_method_18_code 21 = .ok (.aload_n 0, 1) := by decide +kernel
theorem d_M_group_22 : decode prog_14_method_18_code 22 = .ok (.iload_n 2, 1) := by decide +kernel
theorem d_M_group_23 : decode prog_14_method_18_code 23 = .ok (.invokevirtual 165, 3) := by decide +kernel
theorem d_M_group_26 : decode prog_14_method_18_code 26 = .ok (.bipush 97, 2) := by decide +kernel
theorem d_M_group_28 : decode prog_14_method_18_code 28 = .ok (.isub, 1) := by decide +kernel
theorem d_M_group_29 : decode prog_14_method_18_code 29 = .ok (.iaload, 1) := by decide +kernel
theorem d_M_group_30 : decode prog_14_method_18_code 30 = .ok (.ifCond .eq 10, 3) := by decide +kernel
theorem d_M_group_40 : decode prog_14_method_18_code 40 = .ok (.aload_n 0, 1) := by decide +kernel
theorem d_M_group_41 : decode prog_14_method_18_code 41 = .ok (.getfield 44, 3) := by decide +kernel
theorem d_M_group_44 : decode prog_14_method_18_code 44 = .ok (.aload_n 0, 1) := by decide +kernel
theorem d_M_group_45 : decode prog_14_method_18_code 45 = .ok (.iload_n 2, 1) := by decide +kernel
theorem d_M_group_46 : decode prog_14_method_18_code 46 = .ok (.invokevirtual 165, 3) := by decide +kernel
theorem d_M_group_49 : decode prog_14_method_18_code 49 = .ok (.bipush 97, 2) := by decide +kernel
theorem d_M_group_51 : decode prog_14_method_18_code 51 = .ok (.isub, 1) := by decide +kernel
theorem d_M_group_52 : decode prog_14_method_18_code 52 = .ok (.iconst 1, 1) := by decide +kernel
theorem d_M_group_53 : decode prog_14_method_18_code 53 = .ok (.iastore, 1) := by decide +kernel
theorem d_M_group_54 : decode prog_14_method_18_code 54 = .ok (.iinc 2 1, 3) := by decide +kernel
theorem d_M_group_57 : decode prog_14_method_18_code 57 = .ok (.goto (-55), 3) := by decide +kernel
theorem d_M_group_33 : decode prog_14_method_18_code 33 = .ok (.aload_n 0, 1) := by decide +kernel
theorem d_M_group_34 : decode prog_14_method_18_code 34 = .ok (.iload_n 2, 1) := by decide +kernel
theorem d_M_group_35 : decode prog_14_method_18_code 35 = .ok (.putfield 168, 3) := by decide +kernel
theorem d_M_group_38 : decode prog_14_method_18_code 38 = .ok (.iload_n 2, 1) := by decide +kernel
theorem d_M_group_39 : decode prog_14_method_18_code 39 = .ok (.ireturn, 1) := by decide +kernel
theorem d_M_group_75 : decode prog_14_method_18_code 75 = .ok (.aload_n 0, 1) := by decide +kernel
theorem d_M_group_76 : decode prog_14_method_18_code 76 = .ok (.iload_n 2, 1) := by decide +kernel
theorem d_M_group_77 : decode prog_14_method_18_code 77 = .ok (.putfield 168, 3) := by decide +kernel
theorem d_M_group_80 : decode prog_14_method_18_code 80 = .ok (.iload_n 2, 1) := by decide +kernel
theorem d_M_group_81 : decode prog_14_method_18_code 81 = .ok (.ireturn, 1) := by decide +kernel
theorem d_M_group_113 : decode prog_14_method_18_code 113 = .ok (.iload 4, 2) := by decide +kernel
theorem d_M_group_115 : decode prog_14_method_18_code 115 = .ok (.iload_n 2, 1) := by decide +kernel
theorem d_M_group_116 : decode prog_14_method_18_code 116 = .ok (.if_icmp .ge 25, 3) := by decide +kernel
theorem d_M_group_141 : decode prog_14_method_18_code 141 = .ok (.iload_n 2, 1) := by decide +kernel
theorem d_M_group_142 : decode prog_14_method_18_code 142 = .ok (.iconst 2, 1) := by decide +kernel
theorem d_M_group_143 : decode prog_14_method_18_code 143 = .ok (.iadd, 1) := by decide +kernel
theorem d_M_group_144 : decode prog_14_method_18_code 144 = .ok (.ireturn, 1) := by decide +kernel
theorem d_M_group_119 : decode prog_14_method_18_code 119 = .ok (.aload_n 0, 1) := by decide +kernel
theorem d_M_group_120 : decode prog_14_method_18_code 120 = .ok (.getfield 44, 3) := by decide +kernel
theorem d_M_group_123 : decode prog_14_method_18_code 123 = .ok (.aload_n 0, 1) := by decide +kernel
theorem d_M_group_124 : decode prog_14_method_18_code 124 = .ok (.getfield 41, 3) := by decide +kernel
theorem d_M_group_127 : decode prog_14_method_18_code 127 = .ok (.iload 4, 2) := by decide +kernel
theorem d_M_group_129 : decode prog_14_method_18_code 129 = .ok (.iaload, 1) := by decide +kernel
theorem d_M_group_130 : decode prog_14_method_18_code 130 = .ok (.bipush 97, 2) := by decide +kernel
theorem d_M_group_132 : decode prog_14_method_18_code 132 = .ok (.isub, 1) := by decide +kernel
theorem d_M_group_133 : decode prog_14_method_18_code 133 = .ok (.iload_n 3, 1) := by decide +kernel
theorem d_M_group_134 : decode prog_14_method_18_code 134 = .ok (.iastore, 1) := by decide +kernel
theorem d_M_group_135 : decode prog_14_method_18_code 135 = .ok (.iinc 4 1, 3) := by decide +kernel
theorem d_M_group_138 : decode prog_14_method_18_code 138 = .ok (.goto (-25), 3) := by decide +kernel
theorem d_M_reads_44 : decode prog_14_method_19_code 44 = .ok (.istore_n 1, 1) := by decide +kernel
theorem d_M_reads_26 : decode prog_14_method_19_code 26 = .ok (.aload_n 0, 1) := by decide +kernel
theorem d_M_reads_27 : decode prog_14_method_19_code 27 = .ok (.getfield 44, 3) := by decide +kernel
theorem d_M_reads_30 : decode prog_14_method_19_code 30 = .ok (.iload_n 1, 1) := by decide +kernel
theorem d_M_reads_31 : decode prog_14_method_19_code 31 = .ok (.iconst 0, 1) := by decide +kernel
theorem d_M_reads_32 : decode prog_14_method_19_code 32 = .ok (.iastore, 1) := by decide +kernel
theorem d_M_reads_33 : decode prog_14_method_19_code 33 = .ok (.iinc 1 1, 3) := by decide +kernel
theorem d_M_reads_36 : decode prog_14_method_19_code 36 = .ok (.goto (-16), 3) := by decide +kernel
theorem d_M_reads_45 : decode prog_14_method_19_code 45 = .ok (.aload_n 0, 1) := by decide +kernel
theorem d_M_reads_46 : decode prog_14_method_19_code 46 = .ok (.getfield 168, 3) := by decide +kernel
theorem d_M_reads_49 : decode prog_14_method_19_code 49 = .ok (.iconst (-1), 1) := by decide +kernel
theorem d_M_reads_50 : decode prog_14_method_19_code 50 = .ok (.if_icmp .ne 41, 3) := by decide +kernel
theorem d_M_reads_53 : decode prog_14_method_19_code 53 = .ok (.iload_n 1, 1) := by decide +kernel
theorem d_M_reads_54 : decode prog_14_method_19_code 54 = .ok (.aload_n 0, 1) := by decide +kernel
theorem d_M_reads_55 : decode prog_14_method_19_code 55 = .ok (.getfield 158, 3) := by decide +kernel
theorem d_M_reads_58 : decode prog_14_method_19_code 58 = .ok (.if_icmp .ge 33, 3) := by decide +kernel
theorem d_M_reads_61 : decode prog_14_method_19_code 61 = .ok (.aload_n 0, 1) := by decide +kernel
theorem d_M_reads_62 : decode prog_14_method_19_code 62 = .ok (.getfield 41, 3) := by decide +kernel
theorem d_M_reads_65 : decode prog_14_method_19_code 65 = .ok (.iload_n 1, 1) := by decide +kernel
theorem d_M_reads_66 : decode prog_14_method_19_code 66 = .ok (.iaload, 1) := by decide +kernel
theorem d_M_reads_67 : decode prog_14_method_19_code 67 = .ok (.bipush 59, 2) := by decide +kernel
theorem d_M_reads_69 : decode prog_14_method_19_code 69 = .ok (.if_icmp .ne 14, 3) := by decide +kernel
theorem d_M_reads_72 : decode prog_14_method_19_code 72 = .ok (.aload_n 0, 1) := by decide +kernel
theorem d_M_reads_73 : decode prog_14_method_19_code 73 = .ok (.iload_n 1, 1) := by decide +kernel
theorem d_M_reads_74 : decode prog_14_method_19_code 74 = .ok (.iconst 1, 1) := by decide +kernel
theorem d_M_reads_75 : decode prog_14_method_19_code 75 = .ok (.iadd, 1) := by decide +kernel
theorem d_M_reads_76 : decode prog_14_method_19_code 76 = .ok (.invokevirtual 171, 3) := by decide +kernel
theorem d_M_reads_79 : decode prog_14_method_19_code 79 = .ok (.istore_n 1, 1) := by decide +kernel
theorem d_M_reads_80 : decode prog_14_method_19_code 80 = .ok (.goto (-35), 3) := by decide +kernel
theorem d_M_reads_83 : decode prog_14_method_19_code 83 = .ok (.aload_n 0, 1) := by decide +kernel
theorem d_M_reads_84 : decode prog_14_method_19_code 84 = .ok (.iload_n 1, 1) := by decide +kernel
theorem d_M_reads_85 : decode prog_14_method_19_code 85 = .ok (.putfield 168, 3) := by decide +kernel
theorem d_M_reads_88 : decode prog_14_method_19_code 88 = .ok (.goto (-43), 3) := by decide +kernel
theorem d_M_reads_91 : decode prog_14_method_19_code 91 = .ok (.iconst 0, 1) := by decide +kernel
theorem d_M_reads_92 : decode prog_14_method_19_code 92 = .ok (.istore_n 2, 1) := by decide +kernel
theorem d_M_reads_93 : decode prog_14_method_19_code 93 = .ok (.iload_n 2, 1) := by decide +kernel
theorem d_M_reads_94 : decode prog_14_method_19_code 94 = .ok (.bipush 26, 2) := by decide +kernel
theorem d_M_reads_96 : decode prog_14_method_19_code 96 = .ok (.if_icmp .ge 24, 3) := by decide +kernel
theorem d_M_reads_120 : decode prog_14_method_19_code 120 = .ok (.return_, 1) := by decide +kernel
theorem d_M_reads_99 : decode prog_14_method_19_code 99 = .ok (.aload_n 0, 1) := by decide +kernel
theorem d_M_reads_100 : decode prog_14_method_19_code 100 = .ok (.getfield 168, 3) := by decide +kernel
theorem d_M_reads_103 : decode prog_14_method_19_code 103 = .ok (.iconst (-1), 1) := by decide +kernel
theorem d_M_reads_104 : decode prog_14_method_19_code 104 = .ok (.if_icmp .eq 16, 3) := by decide +kernel
theorem d_M_reads_107 : decode prog_14_method_19_code 107 = .ok (.aload_n 0, 1) := by decide +kernel
theorem d_M_reads_108 : decode prog_14_method_19_code 108 = .ok (.getfield 44, 3) := by decide +kernel
theorem d_M_reads_111 : decode prog_14_method_19_code 111 = .ok (.iload_n 2, 1) := by decide +kernel
theorem d_M_reads_112 : decode prog_14_method_19_code 112 = .ok (.iconst 0, 1) := by decide +kernel
theorem d_M_reads_113 : decode prog_14_method_19_code 113 = .ok (.iastore, 1) := by decide +kernel
theorem d_M_reads_114 : decode prog_14_method_19_code 114 = .ok (.iinc 2 1, 3) := by decide +kernel
theorem d_M_reads_117 : decode prog_14_method_19_code 117 = .ok (.goto (-24), 3) := by decide +kernel
theorem d_M_fault_4 : decode prog_14_method_20_code 4 = .ok (.aload_n 0, 1) := by decide +kernel
theorem d_M_fault_5 : decode prog_14_method_20_code 5 = .ok (.getfield 168, 3) := by decide +kernel
theorem d_M_fault_8 : decode prog_14_method_20_code 8 = .ok (.ireturn, 1) := by decide +kernel
theorem d_M_sound_0 : decode prog_14_method_22_code 0 = .ok (.aload_n 0, 1) := by decide +kernel
theorem d_M_sound_1 : decode prog_14_method_22_code 1 = .ok (.iload_n 1, 1) := by decide +kernel
theorem d_M_sound_2 : decode prog_14_method_22_code 2 = .ok (.invokevirtual 148, 3) := by decide +kernel
theorem d_M_sound_5 : decode prog_14_method_22_code 5 = .ok (.ifCond .eq 7, 3) := by decide +kernel
theorem d_M_sound_12 : decode prog_14_method_22_code 12 = .ok (.bipush (-2), 2) := by decide +kernel
theorem d_M_sound_14 : decode prog_14_method_22_code 14 = .ok (.ireturn, 1) := by decide +kernel
theorem d_M_sound_8 : decode prog_14_method_22_code 8 = .ok (.iload_n 2, 1) := by decide +kernel
theorem d_M_sound_9 : decode prog_14_method_22_code 9 = .ok (.ifCond .ge 6, 3) := by decide +kernel
theorem d_M_sound_15 : decode prog_14_method_22_code 15 = .ok (.aload_n 0, 1) := by decide +kernel
theorem d_M_sound_16 : decode prog_14_method_22_code 16 = .ok (.iload_n 1, 1) := by decide +kernel
theorem d_M_sound_17 : decode prog_14_method_22_code 17 = .ok (.iconst 0, 1) := by decide +kernel
theorem d_M_sound_18 : decode prog_14_method_22_code 18 = .ok (.invokevirtual 177, 3) := by decide +kernel
theorem d_M_soundOf_0 : decode prog_14_method_21_code 0 = .ok (.aload_n 0, 1) := by decide +kernel
theorem d_M_soundOf_1 : decode prog_14_method_21_code 1 = .ok (.invokevirtual 174, 3) := by decide +kernel
theorem d_M_soundOf_4 : decode prog_14_method_21_code 4 = .ok (.iconst 0, 1) := by decide +kernel
theorem d_M_soundOf_5 : decode prog_14_method_21_code 5 = .ok (.istore_n 3, 1) := by decide +kernel
theorem d_M_soundOf_6 : decode prog_14_method_21_code 6 = .ok (.iconst 0, 1) := by decide +kernel
theorem d_M_soundOf_7 : decode prog_14_method_21_code 7 = .ok (.istore 4, 2) := by decide +kernel
theorem d_M_soundOf_9 : decode prog_14_method_21_code 9 = .ok (.iload 4, 2) := by decide +kernel
theorem d_M_soundOf_11 : decode prog_14_method_21_code 11 = .ok (.aload_n 0, 1) := by decide +kernel
theorem d_M_soundOf_12 : decode prog_14_method_21_code 12 = .ok (.getfield 16, 3) := by decide +kernel
theorem d_M_soundOf_15 : decode prog_14_method_21_code 15 = .ok (.iload_n 1, 1) := by decide +kernel
theorem d_M_soundOf_16 : decode prog_14_method_21_code 16 = .ok (.iaload, 1) := by decide +kernel
theorem d_M_soundOf_17 : decode prog_14_method_21_code 17 = .ok (.if_icmp .ge 111, 3) := by decide +kernel
theorem d_M_soundOf_128 : decode prog_14_method_21_code 128 = .ok (.aload_n 0, 1) := by decide +kernel
theorem d_M_soundOf_129 : decode prog_14_method_21_code 129 = .ok (.getfield 50, 3) := by decide +kernel
theorem d_M_soundOf_132 : decode prog_14_method_21_code 132 = .ok (.iload_n 2, 1) := by decide +kernel
theorem d_M_soundOf_133 : decode prog_14_method_21_code 133 = .ok (.iload_n 3, 1) := by decide +kernel
theorem d_M_soundOf_134 : decode prog_14_method_21_code 134 = .ok (.iastore, 1) := by decide +kernel
theorem d_M_soundOf_135 : decode prog_14_method_21_code 135 = .ok (.return_, 1) := by decide +kernel
theorem d_M_soundOf_20 : decode prog_14_method_21_code 20 = .ok (.aload_n 0, 1) := by decide +kernel
theorem d_M_soundOf_21 : decode prog_14_method_21_code 21 = .ok (.getfield 13, 3) := by decide +kernel
theorem d_M_soundOf_24 : decode prog_14_method_21_code 24 = .ok (.bipush 10, 2) := by decide +kernel
theorem d_M_soundOf_26 : decode prog_14_method_21_code 26 = .ok (.iload_n 1, 1) := by decide +kernel
theorem d_M_soundOf_27 : decode prog_14_method_21_code 27 = .ok (.imul, 1) := by decide +kernel
theorem d_M_soundOf_28 : decode prog_14_method_21_code 28 = .ok (.iload 4, 2) := by decide +kernel
theorem d_M_soundOf_30 : decode prog_14_method_21_code 30 = .ok (.iadd, 1) := by decide +kernel
theorem d_M_soundOf_31 : decode prog_14_method_21_code 31 = .ok (.iaload, 1) := by decide +kernel
theorem d_M_soundOf_32 : decode prog_14_method_21_code 32 = .ok (.istore 5, 2) := by decide +kernel
theorem d_M_soundOf_34 : decode prog_14_method_21_code 34 = .ok (.aload_n 0, 1) := by decide +kernel
theorem d_M_soundOf_35 : decode prog_14_method_21_code 35 = .ok (.getfield 44, 3) := by decide +kernel
theorem d_M_soundOf_38 : decode prog_14_method_21_code 38 = .ok (.iload 5, 2) := by decide +kernel
theorem d_M_soundOf_40 : decode prog_14_method_21_code 40 = .ok (.bipush 97, 2) := by decide +kernel
theorem d_M_soundOf_42 : decode prog_14_method_21_code 42 = .ok (.isub, 1) := by decide +kernel
theorem d_M_soundOf_43 : decode prog_14_method_21_code 43 = .ok (.iaload, 1) := by decide +kernel
theorem d_M_soundOf_44 : decode prog_14_method_21_code 44 = .ok (.istore 6, 2) := by decide +kernel
theorem d_M_soundOf_46 : decode prog_14_method_21_code 46 = .ok (.iload 4, 2) := by decide +kernel
theorem d_M_soundOf_48 : decode prog_14_method_21_code 48 = .ok (.ifCond .eq 8, 3) := by decide +kernel
theorem d_M_soundOf_51 : decode prog_14_method_21_code 51 = .ok (.iload 6, 2) := by decide +kernel
theorem d_M_soundOf_53 : decode prog_14_method_21_code 53 = .ok (.ifCond .ne 8, 3) := by decide +kernel
theorem d_M_soundOf_61 : decode prog_14_method_21_code 61 = .ok (.iload 6, 2) := by decide +kernel
theorem d_M_soundOf_56 : decode prog_14_method_21_code 56 = .ok (.iload 5, 2) := by decide +kernel
theorem d_M_soundOf_58 : decode prog_14_method_21_code 58 = .ok (.goto 5, 3) := by decide +kernel
theorem d_M_soundOf_63 : decode prog_14_method_21_code 63 = .ok (.istore 7, 2) := by decide +kernel
theorem d_M_soundOf_65 : decode prog_14_method_21_code 65 = .ok (.iload 7, 2) := by decide +kernel
theorem d_M_soundOf_67 : decode prog_14_method_21_code 67 = .ok (.bipush 48, 2) := by decide +kernel
theorem d_M_soundOf_69 : decode prog_14_method_21_code 69 = .ok (.if_icmp .eq 29, 3) := by decide +kernel
theorem d_M_soundOf_72 : decode prog_14_method_21_code 72 = .ok (.iload_n 3, 1) := by decide +kernel
theorem d_M_soundOf_73 : decode prog_14_method_21_code 73 = .ok (.ifCond .eq 21, 3) := by decide +kernel
theorem d_M_soundOf_76 : decode prog_14_method_21_code 76 = .ok (.aload_n 0, 1) := by decide +kernel
theorem d_M_soundOf_77 : decode prog_14_method_21_code 77 = .ok (.getfield 47, 3) := by decide +kernel
theorem d_M_soundOf_80 : decode prog_14_method_21_code 80 = .ok (.bipush 10, 2) := by decide +kernel
theorem d_M_soundOf_82 : decode prog_14_method_21_code 82 = .ok (.iload_n 2, 1) := by decide +kernel
theorem d_M_soundOf_83 : decode prog_14_method_21_code 83 = .ok (.imul, 1) := by decide +kernel
theorem d_M_soundOf_84 : decode prog_14_method_21_code 84 = .ok (.iload_n 3, 1) := by decide +kernel
theorem d_M_soundOf_85 : decode prog_14_method_21_code 85 = .ok (.iadd, 1) := by decide +kernel
theorem d_M_soundOf_86 : decode prog_14_method_21_code 86 = .ok (.iconst 1, 1) := by decide +kernel
theorem d_M_soundOf_87 : decode prog_14_method_21_code 87 = .ok (.isub, 1) := by decide +kernel
theorem d_M_soundOf_88 : decode prog_14_method_21_code 88 = .ok (.iaload, 1) := by decide +kernel
theorem d_M_soundOf_89 : decode prog_14_method_21_code 89 = .ok (.iload 7, 2) := by decide +kernel
theorem d_M_soundOf_91 : decode prog_14_method_21_code 91 = .ok (.if_icmp .eq 7, 3) := by decide +kernel
theorem d_M_soundOf_98 : decode prog_14_method_21_code 98 = .ok (.iconst 0, 1) := by decide +kernel
theorem d_M_soundOf_94 : decode prog_14_method_21_code 94 = .ok (.iconst 1, 1) := by decide +kernel
theorem d_M_soundOf_95 : decode prog_14_method_21_code 95 = .ok (.goto 4, 3) := by decide +kernel
theorem d_M_soundOf_99 : decode prog_14_method_21_code 99 = .ok (.istore 8, 2) := by decide +kernel
theorem d_M_soundOf_101 : decode prog_14_method_21_code 101 = .ok (.iload 8, 2) := by decide +kernel
theorem d_M_soundOf_103 : decode prog_14_method_21_code 103 = .ok (.ifCond .eq 19, 3) := by decide +kernel
theorem d_M_soundOf_106 : decode prog_14_method_21_code 106 = .ok (.aload_n 0, 1) := by decide +kernel
theorem d_M_soundOf_107 : decode prog_14_method_21_code 107 = .ok (.getfield 47, 3) := by decide +kernel
theorem d_M_soundOf_110 : decode prog_14_method_21_code 110 = .ok (.bipush 10, 2) := by decide +kernel
theorem d_M_soundOf_112 : decode prog_14_method_21_code 112 = .ok (.iload_n 2, 1) := by decide +kernel
theorem d_M_soundOf_113 : decode prog_14_method_21_code 113 = .ok (.imul, 1) := by decide +kernel
theorem d_M_soundOf_114 : decode prog_14_method_21_code 114 = .ok (.iload_n 3, 1) := by decide +kernel
theorem d_M_soundOf_115 : decode prog_14_method_21_code 115 = .ok (.iadd, 1) := by decide +kernel
theorem d_M_soundOf_116 : decode prog_14_method_21_code 116 = .ok (.iload 7, 2) := by decide +kernel
theorem d_M_soundOf_118 : decode prog_14_method_21_code 118 = .ok (.iastore, 1) := by decide +kernel
theorem d_M_soundOf_119 : decode prog_14_method_21_code 119 = .ok (.iinc 3 1, 3) := by decide +kernel
theorem d_M_soundOf_122 : decode prog_14_method_21_code 122 = .ok (.iinc 4 1, 3) := by decide +kernel
theorem d_M_soundOf_125 : decode prog_14_method_21_code 125 = .ok (.goto (-116), 3) := by decide +kernel
theorem d_M_sound_21 : decode prog_14_method_22_code 21 = .ok (.iload_n 2, 1) := by decide +kernel
theorem d_M_sound_22 : decode prog_14_method_22_code 22 = .ok (.aload_n 0, 1) := by decide +kernel
theorem d_M_sound_23 : decode prog_14_method_22_code 23 = .ok (.getfield 50, 3) := by decide +kernel
theorem d_M_sound_26 : decode prog_14_method_22_code 26 = .ok (.iconst 0, 1) := by decide +kernel
theorem d_M_sound_27 : decode prog_14_method_22_code 27 = .ok (.iaload, 1) := by decide +kernel
theorem d_M_sound_28 : decode prog_14_method_22_code 28 = .ok (.if_icmp .ge 12, 3) := by decide +kernel
theorem d_M_sound_40 : decode prog_14_method_22_code 40 = .ok (.iconst (-1), 1) := by decide +kernel
theorem d_M_sound_41 : decode prog_14_method_22_code 41 = .ok (.ireturn, 1) := by decide +kernel
theorem d_M_sound_31 : decode prog_14_method_22_code 31 = .ok (.aload_n 0, 1) := by decide +kernel
theorem d_M_sound_32 : decode prog_14_method_22_code 32 = .ok (.getfield 47, 3) := by decide +kernel
theorem d_M_sound_35 : decode prog_14_method_22_code 35 = .ok (.iload_n 2, 1) := by decide +kernel
theorem d_M_sound_36 : decode prog_14_method_22_code 36 = .ok (.iaload, 1) := by decide +kernel
theorem d_M_sound_37 : decode prog_14_method_22_code 37 = .ok (.goto 4, 3) := by decide +kernel
theorem d_M_slips_0 : decode prog_14_method_25_code 0 = .ok (.aload_n 0, 1) := by decide +kernel
theorem d_M_slips_1 : decode prog_14_method_25_code 1 = .ok (.iload_n 1, 1) := by decide +kernel
theorem d_M_slips_2 : decode prog_14_method_25_code 2 = .ok (.invokevirtual 148, 3) := by decide +kernel
theorem d_M_slips_5 : decode prog_14_method_25_code 5 = .ok (.ifCond .eq 20, 3) := by decide +kernel
theorem d_M_slips_25 : decode prog_14_method_25_code 25 = .ok (.bipush (-2), 2) := by decide +kernel
theorem d_M_slips_27 : decode prog_14_method_25_code 27 = .ok (.ireturn, 1) := by decide +kernel
theorem d_M_slips_8 : decode prog_14_method_25_code 8 = .ok (.aload_n 0, 1) := by decide +kernel
theorem d_M_slips_9 : decode prog_14_method_25_code 9 = .ok (.iload_n 2, 1) := by decide +kernel
theorem d_M_slips_10 : decode prog_14_method_25_code 10 = .ok (.invokevirtual 148, 3) := by decide +kernel
theorem d_M_slips_13 : decode prog_14_method_25_code 13 = .ok (.ifCond .eq 12, 3) := by decide +kernel
theorem d_M_slips_16 : decode prog_14_method_25_code 16 = .ok (.aload_n 0, 1) := by decide +kernel
theorem d_M_slips_17 : decode prog_14_method_25_code 17 = .ok (.iload_n 1, 1) := by decide +kernel
theorem d_M_slips_18 : decode prog_14_method_25_code 18 = .ok (.iload_n 2, 1) := by decide +kernel
theorem d_M_slips_19 : decode prog_14_method_25_code 19 = .ok (.invokevirtual 181, 3) := by decide +kernel
theorem d_M_slipsOf_0 : decode prog_14_method_24_code 0 = .ok (.iconst 0, 1) := by decide +kernel
theorem d_M_slipsOf_1 : decode prog_14_method_24_code 1 = .ok (.istore_n 3, 1) := by decide +kernel
theorem d_M_slipsOf_2 : decode prog_14_method_24_code 2 = .ok (.iload_n 3, 1) := by decide +kernel
theorem d_M_slipsOf_3 : decode prog_14_method_24_code 3 = .ok (.aload_n 0, 1) := by decide +kernel
theorem d_M_slipsOf_4 : decode prog_14_method_24_code 4 = .ok (.getfield 16, 3) := by decide +kernel
theorem d_M_slipsOf_7 : decode prog_14_method_24_code 7 = .ok (.iload_n 1, 1) := by decide +kernel
theorem d_M_slipsOf_8 : decode prog_14_method_24_code 8 = .ok (.iaload, 1) := by decide +kernel
theorem d_M_slipsOf_9 : decode prog_14_method_24_code 9 = .ok (.if_icmp .gt 272, 3) := by decide +kernel
theorem d_M_slipsOf_281 : decode prog_14_method_24_code 281 = .ok (.aload_n 0, 1) := by decide +kernel
theorem d_M_slipsOf_282 : decode prog_14_method_24_code 282 = .ok (.getfield 53, 3) := by decide +kernel
theorem d_M_slipsOf_285 : decode prog_14_method_24_code 285 = .ok (.bipush 11, 2) := by decide +kernel
theorem d_M_slipsOf_287 : decode prog_14_method_24_code 287 = .ok (.aload_n 0, 1) := by decide +kernel
theorem d_M_slipsOf_288 : decode prog_14_method_24_code 288 = .ok (.getfield 16, 3) := by decide +kernel
theorem d_M_slipsOf_291 : decode prog_14_method_24_code 291 = .ok (.iload_n 1, 1) := by decide +kernel
theorem d_M_slipsOf_292 : decode prog_14_method_24_code 292 = .ok (.iaload, 1) := by decide +kernel
theorem d_M_slipsOf_293 : decode prog_14_method_24_code 293 = .ok (.imul, 1) := by decide +kernel
theorem d_M_slipsOf_294 : decode prog_14_method_24_code 294 = .ok (.aload_n 0, 1) := by decide +kernel
theorem d_M_slipsOf_295 : decode prog_14_method_24_code 295 = .ok (.getfield 16, 3) := by decide +kernel
theorem d_M_slipsOf_298 : decode prog_14_method_24_code 298 = .ok (.iload_n 2, 1) := by decide +kernel
theorem d_M_slipsOf_299 : decode prog_14_method_24_code 299 = .ok (.iaload, 1) := by decide +kernel
theorem d_M_slipsOf_300 : decode prog_14_method_24_code 300 = .ok (.iadd, 1) := by decide +kernel
theorem d_M_slipsOf_301 : decode prog_14_method_24_code 301 = .ok (.iaload, 1) := by decide +kernel
theorem d_M_slipsOf_302 : decode prog_14_method_24_code 302 = .ok (.ireturn, 1) := by decide +kernel
theorem d_M_slipsOf_12 : decode prog_14_method_24_code 12 = .ok (.iconst 0, 1) := by decide +kernel
theorem d_M_slipsOf_13 : decode prog_14_method_24_code 13 = .ok (.istore 4, 2) := by decide +kernel
theorem d_M_slipsOf_15 : decode prog_14_method_24_code 15 = .ok (.iload 4, 2) := by decide +kernel
theorem d_M_slipsOf_17 : decode prog_14_method_24_code 17 = .ok (.aload_n 0, 1) := by decide +kernel
theorem d_M_slipsOf_18 : decode prog_14_method_24_code 18 = .ok (.getfield 16, 3) := by decide +kernel
theorem d_M_slipsOf_21 : decode prog_14_method_24_code 21 = .ok (.iload_n 2, 1) := by decide +kernel
theorem d_M_slipsOf_22 : decode prog_14_method_24_code 22 = .ok (.iaload, 1) := by decide +kernel
theorem d_M_slipsOf_23 : decode prog_14_method_24_code 23 = .ok (.if_icmp .gt 252, 3) := by decide +kernel
theorem d_M_slipsOf_275 : decode prog_14_method_24_code 275 = .ok (.iinc 3 1, 3) := by decide +kernel
theorem d_M_slipsOf_278 : decode prog_14_method_24_code 278 = .ok (.goto (-276), 3) := by decide +kernel
theorem d_M_slipsOf_26 : decode prog_14_method_24_code 26 = .ok (.iload_n 3, 1) := by decide +kernel
theorem d_M_slipsOf_27 : decode prog_14_method_24_code 27 = .ok (.iload 4, 2) := by decide +kernel
theorem d_M_slipsOf_29 : decode prog_14_method_24_code 29 = .ok (.iadd, 1) := by decide +kernel
theorem d_M_slipsOf_30 : decode prog_14_method_24_code 30 = .ok (.istore 5, 2) := by decide +kernel
theorem d_M_slipsOf_32 : decode prog_14_method_24_code 32 = .ok (.iload_n 3, 1) := by decide +kernel
theorem d_M_slipsOf_33 : decode prog_14_method_24_code 33 = .ok (.ifCond .le 222, 3) := by decide +kernel
theorem d_M_slipsOf_36 : decode prog_14_method_24_code 36 = .ok (.iload 4, 2) := by decide +kernel
theorem d_M_slipsOf_38 : decode prog_14_method_24_code 38 = .ok (.ifCond .le 217, 3) := by decide +kernel
theorem d_M_slipsOf_41 : decode prog_14_method_24_code 41 = .ok (.aload_n 0, 1) := by decide +kernel
theorem d_M_slipsOf_42 : decode prog_14_method_24_code 42 = .ok (.getfield 13, 3) := by decide +kernel
theorem d_M_slipsOf_45 : decode prog_14_method_24_code 45 = .ok (.bipush 10, 2) := by decide +kernel
theorem d_M_slipsOf_47 : decode prog_14_method_24_code 47 = .ok (.iload_n 1, 1) := by decide +kernel
theorem d_M_slipsOf_48 : decode prog_14_method_24_code 48 = .ok (.imul, 1) := by decide +kernel
theorem d_M_slipsOf_49 : decode prog_14_method_24_code 49 = .ok (.iload_n 3, 1) := by decide +kernel
theorem d_M_slipsOf_50 : decode prog_14_method_24_code 50 = .ok (.iadd, 1) := by decide +kernel
theorem d_M_slipsOf_51 : decode prog_14_method_24_code 51 = .ok (.iconst 1, 1) := by decide +kernel
theorem d_M_slipsOf_52 : decode prog_14_method_24_code 52 = .ok (.isub, 1) := by decide +kernel
theorem d_M_slipsOf_53 : decode prog_14_method_24_code 53 = .ok (.iaload, 1) := by decide +kernel
theorem d_M_slipsOf_54 : decode prog_14_method_24_code 54 = .ok (.istore 6, 2) := by decide +kernel
theorem d_M_slipsOf_56 : decode prog_14_method_24_code 56 = .ok (.aload_n 0, 1) := by decide +kernel
theorem d_M_slipsOf_57 : decode prog_14_method_24_code 57 = .ok (.getfield 13, 3) := by decide +kernel
theorem d_M_slipsOf_60 : decode prog_14_method_24_code 60 = .ok (.bipush 10, 2) := by decide +kernel
theorem d_M_slipsOf_62 : decode prog_14_method_24_code 62 = .ok (.iload_n 2, 1) := by decide +kernel
theorem d_M_slipsOf_63 : decode prog_14_method_24_code 63 = .ok (.imul, 1) := by decide +kernel
theorem d_M_slipsOf_64 : decode prog_14_method_24_code 64 = .ok (.iload 4, 2) := by decide +kernel
theorem d_M_slipsOf_66 : decode prog_14_method_24_code 66 = .ok (.iadd, 1) := by decide +kernel
theorem d_M_slipsOf_67 : decode prog_14_method_24_code 67 = .ok (.iconst 1, 1) := by decide +kernel
theorem d_M_slipsOf_68 : decode prog_14_method_24_code 68 = .ok (.isub, 1) := by decide +kernel
theorem d_M_slipsOf_69 : decode prog_14_method_24_code 69 = .ok (.iaload, 1) := by decide +kernel
theorem d_M_slipsOf_70 : decode prog_14_method_24_code 70 = .ok (.istore 7, 2) := by decide +kernel
theorem d_M_slipsOf_72 : decode prog_14_method_24_code 72 = .ok (.aload_n 0, 1) := by decide +kernel
theorem d_M_slipsOf_73 : decode prog_14_method_24_code 73 = .ok (.getfield 53, 3) := by decide +kernel
theorem d_M_slipsOf_76 : decode prog_14_method_24_code 76 = .ok (.bipush 11, 2) := by decide +kernel
theorem d_M_slipsOf_78 : decode prog_14_method_24_code 78 = .ok (.iload_n 3, 1) := by decide +kernel
theorem d_M_slipsOf_79 : decode prog_14_method_24_code 79 = .ok (.iconst 1, 1) := by decide +kernel
theorem d_M_slipsOf_80 : decode prog_14_method_24_code 80 = .ok (.isub, 1) := by decide +kernel
theorem d_M_slipsOf_81 : decode prog_14_method_24_code 81 = .ok (.imul, 1) := by decide +kernel
theorem d_M_slipsOf_82 : decode prog_14_method_24_code 82 = .ok (.iload 4, 2) := by decide +kernel
theorem d_M_slipsOf_84 : decode prog_14_method_24_code 84 = .ok (.iadd, 1) := by decide +kernel
theorem d_M_slipsOf_85 : decode prog_14_method_24_code 85 = .ok (.iconst 1, 1) := by decide +kernel
theorem d_M_slipsOf_86 : decode prog_14_method_24_code 86 = .ok (.isub, 1) := by decide +kernel
theorem d_M_slipsOf_87 : decode prog_14_method_24_code 87 = .ok (.iaload, 1) := by decide +kernel
theorem d_M_slipsOf_88 : decode prog_14_method_24_code 88 = .ok (.iload 6, 2) := by decide +kernel
theorem d_M_slipsOf_90 : decode prog_14_method_24_code 90 = .ok (.iload 7, 2) := by decide +kernel
theorem d_M_slipsOf_92 : decode prog_14_method_24_code 92 = .ok (.if_icmp .ne 7, 3) := by decide +kernel
theorem d_M_slipsOf_95 : decode prog_14_method_24_code 95 = .ok (.iconst 0, 1) := by decide +kernel
theorem d_M_slipsOf_96 : decode prog_14_method_24_code 96 = .ok (.goto 4, 3) := by decide +kernel
theorem d_M_slipsOf_99 : decode prog_14_method_24_code 99 = .ok (.iconst 1, 1) := by decide +kernel
theorem d_M_slipsOf_255 : decode prog_14_method_24_code 255 = .ok (.aload_n 0, 1) := by decide +kernel
theorem d_M_slipsOf_256 : decode prog_14_method_24_code 256 = .ok (.getfield 53, 3) := by decide +kernel
theorem d_M_slipsOf_259 : decode prog_14_method_24_code 259 = .ok (.bipush 11, 2) := by decide +kernel
theorem d_M_slipsOf_261 : decode prog_14_method_24_code 261 = .ok (.iload_n 3, 1) := by decide +kernel
theorem d_M_slipsOf_262 : decode prog_14_method_24_code 262 = .ok (.imul, 1) := by decide +kernel
theorem d_M_slipsOf_263 : decode prog_14_method_24_code 263 = .ok (.iload 4, 2) := by decide +kernel
theorem d_M_slipsOf_265 : decode prog_14_method_24_code 265 = .ok (.iadd, 1) := by decide +kernel
theorem d_M_slipsOf_266 : decode prog_14_method_24_code 266 = .ok (.iload 5, 2) := by decide +kernel
theorem d_M_slipsOf_268 : decode prog_14_method_24_code 268 = .ok (.iastore, 1) := by decide +kernel
theorem d_M_slipsOf_269 : decode prog_14_method_24_code 269 = .ok (.iinc 4 1, 3) := by decide +kernel
theorem d_M_slipsOf_272 : decode prog_14_method_24_code 272 = .ok (.goto (-257), 3) := by decide +kernel
theorem d_M_slipsOf_100 : decode prog_14_method_24_code 100 = .ok (.iadd, 1) := by decide +kernel
theorem d_M_slipsOf_101 : decode prog_14_method_24_code 101 = .ok (.istore 5, 2) := by decide +kernel
theorem d_M_slipsOf_103 : decode prog_14_method_24_code 103 = .ok (.aload_n 0, 1) := by decide +kernel
theorem d_M_slipsOf_104 : decode prog_14_method_24_code 104 = .ok (.getfield 53, 3) := by decide +kernel
theorem d_M_slipsOf_107 : decode prog_14_method_24_code 107 = .ok (.bipush 11, 2) := by decide +kernel
theorem d_M_slipsOf_109 : decode prog_14_method_24_code 109 = .ok (.iload_n 3, 1) := by decide +kernel
theorem d_M_slipsOf_110 : decode prog_14_method_24_code 110 = .ok (.iconst 1, 1) := by decide +kernel
theorem d_M_slipsOf_111 : decode prog_14_method_24_code 111 = .ok (.isub, 1) := by decide +kernel
theorem d_M_slipsOf_112 : decode prog_14_method_24_code 112 = .ok (.imul, 1) := by decide +kernel
theorem d_M_slipsOf_113 : decode prog_14_method_24_code 113 = .ok (.iload 4, 2) := by decide +kernel
theorem d_M_slipsOf_115 : decode prog_14_method_24_code 115 = .ok (.iadd, 1) := by decide +kernel
theorem d_M_slipsOf_116 : decode prog_14_method_24_code 116 = .ok (.iaload, 1) := by decide +kernel
theorem d_M_slipsOf_117 : decode prog_14_method_24_code 117 = .ok (.iconst 1, 1) := by decide +kernel
theorem d_M_slipsOf_118 : decode prog_14_method_24_code 118 = .ok (.iadd, 1) := by decide +kernel
theorem d_M_slipsOf_119 : decode prog_14_method_24_code 119 = .ok (.istore 8, 2) := by decide +kernel
theorem d_M_slipsOf_121 : decode prog_14_method_24_code 121 = .ok (.iload 8, 2) := by decide +kernel
theorem d_M_slipsOf_123 : decode prog_14_method_24_code 123 = .ok (.iload 5, 2) := by decide +kernel
theorem d_M_slipsOf_125 : decode prog_14_method_24_code 125 = .ok (.if_icmp .ge 8, 3) := by decide +kernel
theorem d_M_slipsOf_133 : decode prog_14_method_24_code 133 = .ok (.iload 5, 2) := by decide +kernel
theorem d_M_slipsOf_128 : decode prog_14_method_24_code 128 = .ok (.iload 8, 2) := by decide +kernel
theorem d_M_slipsOf_130 : decode prog_14_method_24_code 130 = .ok (.goto 5, 3) := by decide +kernel
theorem d_M_slipsOf_135 : decode prog_14_method_24_code 135 = .ok (.istore 5, 2) := by decide +kernel
theorem d_M_slipsOf_137 : decode prog_14_method_24_code 137 = .ok (.aload_n 0, 1) := by decide +kernel
theorem d_M_slipsOf_138 : decode prog_14_method_24_code 138 = .ok (.getfield 53, 3) := by decide +kernel
theorem d_M_slipsOf_141 : decode prog_14_method_24_code 141 = .ok (.bipush 11, 2) := by decide +kernel
theorem d_M_slipsOf_143 : decode prog_14_method_24_code 143 = .ok (.iload_n 3, 1) := by decide +kernel
theorem d_M_slipsOf_144 : decode prog_14_method_24_code 144 = .ok (.imul, 1) := by decide +kernel
theorem d_M_slipsOf_145 : decode prog_14_method_24_code 145 = .ok (.iload 4, 2) := by decide +kernel
theorem d_M_slipsOf_147 : decode prog_14_method_24_code 147 = .ok (.iadd, 1) := by decide +kernel
theorem d_M_slipsOf_148 : decode prog_14_method_24_code 148 = .ok (.iconst 1, 1) := by decide +kernel
theorem d_M_slipsOf_149 : decode prog_14_method_24_code 149 = .ok (.isub, 1) := by decide +kernel
theorem d_M_slipsOf_150 : decode prog_14_method_24_code 150 = .ok (.iaload, 1) := by decide +kernel
theorem d_M_slipsOf_151 : decode prog_14_method_24_code 151 = .ok (.iconst 1, 1) := by decide +kernel
theorem d_M_slipsOf_152 : decode prog_14_method_24_code 152 = .ok (.iadd, 1) := by decide +kernel
theorem d_M_slipsOf_153 : decode prog_14_method_24_code 153 = .ok (.istore 8, 2) := by decide +kernel
theorem d_M_slipsOf_155 : decode prog_14_method_24_code 155 = .ok (.iload 8, 2) := by decide +kernel
theorem d_M_slipsOf_157 : decode prog_14_method_24_code 157 = .ok (.iload 5, 2) := by decide +kernel
theorem d_M_slipsOf_159 : decode prog_14_method_24_code 159 = .ok (.if_icmp .ge 8, 3) := by decide +kernel
theorem d_M_slipsOf_167 : decode prog_14_method_24_code 167 = .ok (.iload 5, 2) := by decide +kernel
theorem d_M_slipsOf_162 : decode prog_14_method_24_code 162 = .ok (.iload 8, 2) := by decide +kernel
theorem d_M_slipsOf_164 : decode prog_14_method_24_code 164 = .ok (.goto 5, 3) := by decide +kernel
theorem d_M_slipsOf_169 : decode prog_14_method_24_code 169 = .ok (.istore 5, 2) := by decide +kernel
theorem d_M_slipsOf_171 : decode prog_14_method_24_code 171 = .ok (.iload_n 3, 1) := by decide +kernel
theorem d_M_slipsOf_172 : decode prog_14_method_24_code 172 = .ok (.iconst 1, 1) := by decide +kernel
theorem d_M_slipsOf_173 : decode prog_14_method_24_code 173 = .ok (.if_icmp .le 82, 3) := by decide +kernel
theorem d_M_slipsOf_176 : decode prog_14_method_24_code 176 = .ok (.iload 4, 2) := by decide +kernel
theorem d_M_slipsOf_178 : decode prog_14_method_24_code 178 = .ok (.iconst 1, 1) := by decide +kernel
theorem d_M_slipsOf_179 : decode prog_14_method_24_code 179 = .ok (.if_icmp .le 76, 3) := by decide +kernel
theorem d_M_slipsOf_182 : decode prog_14_method_24_code 182 = .ok (.iload 6, 2) := by decide +kernel
theorem d_M_slipsOf_184 : decode prog_14_method_24_code 184 = .ok (.aload_n 0, 1) := by decide +kernel
theorem d_M_slipsOf_185 : decode prog_14_method_24_code 185 = .ok (.getfield 13, 3) := by decide +kernel
theorem d_M_slipsOf_188 : decode prog_14_method_24_code 188 = .ok (.bipush 10, 2) := by decide +kernel
theorem d_M_slipsOf_190 : decode prog_14_method_24_code 190 = .ok (.iload_n 2, 1) := by decide +kernel
theorem d_M_slipsOf_191 : decode prog_14_method_24_code 191 = .ok (.imul, 1) := by decide +kernel
theorem d_M_slipsOf_192 : decode prog_14_method_24_code 192 = .ok (.iload 4, 2) := by decide +kernel
theorem d_M_slipsOf_194 : decode prog_14_method_24_code 194 = .ok (.iadd, 1) := by decide +kernel
theorem d_M_slipsOf_195 : decode prog_14_method_24_code 195 = .ok (.iconst 2, 1) := by decide +kernel
theorem d_M_slipsOf_196 : decode prog_14_method_24_code 196 = .ok (.isub, 1) := by decide +kernel
theorem d_M_slipsOf_197 : decode prog_14_method_24_code 197 = .ok (.iaload, 1) := by decide +kernel
theorem d_M_slipsOf_198 : decode prog_14_method_24_code 198 = .ok (.if_icmp .ne 57, 3) := by decide +kernel
theorem d_M_slipsOf_201 : decode prog_14_method_24_code 201 = .ok (.iload 7, 2) := by decide +kernel
theorem d_M_slipsOf_203 : decode prog_14_method_24_code 203 = .ok (.aload_n 0, 1) := by decide +kernel
theorem d_M_slipsOf_204 : decode prog_14_method_24_code 204 = .ok (.getfield 13, 3) := by decide +kernel
theorem d_M_slipsOf_207 : decode prog_14_method_24_code 207 = .ok (.bipush 10, 2) := by decide +kernel
theorem d_M_slipsOf_209 : decode prog_14_method_24_code 209 = .ok (.iload_n 1, 1) := by decide +kernel
theorem d_M_slipsOf_210 : decode prog_14_method_24_code 210 = .ok (.imul, 1) := by decide +kernel
theorem d_M_slipsOf_211 : decode prog_14_method_24_code 211 = .ok (.iload_n 3, 1) := by decide +kernel
theorem d_M_slipsOf_212 : decode prog_14_method_24_code 212 = .ok (.iadd, 1) := by decide +kernel
theorem d_M_slipsOf_213 : decode prog_14_method_24_code 213 = .ok (.iconst 2, 1) := by decide +kernel
theorem d_M_slipsOf_214 : decode prog_14_method_24_code 214 = .ok (.isub, 1) := by decide +kernel
theorem d_M_slipsOf_215 : decode prog_14_method_24_code 215 = .ok (.iaload, 1) := by decide +kernel
theorem d_M_slipsOf_216 : decode prog_14_method_24_code 216 = .ok (.if_icmp .ne 39, 3) := by decide +kernel
theorem d_M_slipsOf_219 : decode prog_14_method_24_code 219 = .ok (.aload_n 0, 1) := by decide +kernel
theorem d_M_slipsOf_220 : decode prog_14_method_24_code 220 = .ok (.getfield 53, 3) := by decide +kernel
theorem d_M_slipsOf_223 : decode prog_14_method_24_code 223 = .ok (.bipush 11, 2) := by decide +kernel
theorem d_M_slipsOf_225 : decode prog_14_method_24_code 225 = .ok (.iload_n 3, 1) := by decide +kernel
theorem d_M_slipsOf_226 : decode prog_14_method_24_code 226 = .ok (.iconst 2, 1) := by decide +kernel
theorem d_M_slipsOf_227 : decode prog_14_method_24_code 227 = .ok (.isub, 1) := by decide +kernel
theorem d_M_slipsOf_228 : decode prog_14_method_24_code 228 = .ok (.imul, 1) := by decide +kernel
theorem d_M_slipsOf_229 : decode prog_14_method_24_code 229 = .ok (.iload 4, 2) := by decide +kernel
theorem d_M_slipsOf_231 : decode prog_14_method_24_code 231 = .ok (.iadd, 1) := by decide +kernel
theorem d_M_slipsOf_232 : decode prog_14_method_24_code 232 = .ok (.iconst 2, 1) := by decide +kernel
theorem d_M_slipsOf_233 : decode prog_14_method_24_code 233 = .ok (.isub, 1) := by decide +kernel
theorem d_M_slipsOf_234 : decode prog_14_method_24_code 234 = .ok (.iaload, 1) := by decide +kernel
theorem d_M_slipsOf_235 : decode prog_14_method_24_code 235 = .ok (.iconst 1, 1) := by decide +kernel
theorem d_M_slipsOf_236 : decode prog_14_method_24_code 236 = .ok (.iadd, 1) := by decide +kernel
theorem d_M_slipsOf_237 : decode prog_14_method_24_code 237 = .ok (.istore 8, 2) := by decide +kernel
theorem d_M_slipsOf_239 : decode prog_14_method_24_code 239 = .ok (.iload 8, 2) := by decide +kernel
theorem d_M_slipsOf_241 : decode prog_14_method_24_code 241 = .ok (.iload 5, 2) := by decide +kernel
theorem d_M_slipsOf_243 : decode prog_14_method_24_code 243 = .ok (.if_icmp .ge 8, 3) := by decide +kernel
theorem d_M_slipsOf_251 : decode prog_14_method_24_code 251 = .ok (.iload 5, 2) := by decide +kernel
theorem d_M_slipsOf_246 : decode prog_14_method_24_code 246 = .ok (.iload 8, 2) := by decide +kernel
theorem d_M_slipsOf_248 : decode prog_14_method_24_code 248 = .ok (.goto 5, 3) := by decide +kernel
theorem d_M_slipsOf_253 : decode prog_14_method_24_code 253 = .ok (.istore 5, 2) := by decide +kernel
theorem d_M_slips_22 : decode prog_14_method_25_code 22 = .ok (.goto 5, 3) := by decide +kernel
theorem d_M_level_0 : decode prog_14_method_29_code 0 = .ok (.aload_n 0, 1) := by decide +kernel
theorem d_M_level_1 : decode prog_14_method_29_code 1 = .ok (.iload_n 1, 1) := by decide +kernel
theorem d_M_level_2 : decode prog_14_method_29_code 2 = .ok (.iload_n 2, 1) := by decide +kernel
theorem d_M_level_3 : decode prog_14_method_29_code 3 = .ok (.invokevirtual 194, 3) := by decide +kernel
theorem d_M_areTwo_0 : decode prog_14_method_28_code 0 = .ok (.aload_n 0, 1) := by decide +kernel
theorem d_M_areTwo_1 : decode prog_14_method_28_code 1 = .ok (.iload_n 1, 1) := by decide +kernel
theorem d_M_areTwo_2 : decode prog_14_method_28_code 2 = .ok (.invokevirtual 148, 3) := by decide +kernel
theorem d_M_areTwo_5 : decode prog_14_method_28_code 5 = .ok (.ifCond .eq 20, 3) := by decide +kernel
theorem d_M_areTwo_25 : decode prog_14_method_28_code 25 = .ok (.iconst 0, 1) := by decide +kernel
theorem d_M_areTwo_26 : decode prog_14_method_28_code 26 = .ok (.ireturn, 1) := by decide +kernel
theorem d_M_areTwo_8 : decode prog_14_method_28_code 8 = .ok (.aload_n 0, 1) := by decide +kernel
theorem d_M_areTwo_9 : decode prog_14_method_28_code 9 = .ok (.iload_n 2, 1) := by decide +kernel
theorem d_M_areTwo_10 : decode prog_14_method_28_code 10 = .ok (.invokevirtual 148, 3) := by decide +kernel
theorem d_M_areTwo_13 : decode prog_14_method_28_code 13 = .ok (.ifCond .eq 12, 3) := by decide +kernel
theorem d_M_areTwo_16 : decode prog_14_method_28_code 16 = .ok (.iload_n 1, 1) := by decide +kernel
theorem d_M_areTwo_17 : decode prog_14_method_28_code 17 = .ok (.iload_n 2, 1) := by decide +kernel
theorem d_M_areTwo_18 : decode prog_14_method_28_code 18 = .ok (.if_icmp .eq 7, 3) := by decide +kernel
theorem d_M_areTwo_21 : decode prog_14_method_28_code 21 = .ok (.iconst 1, 1) := by decide +kernel
theorem d_M_areTwo_22 : decode prog_14_method_28_code 22 = .ok (.goto 4, 3) := by decide +kernel
theorem d_M_level_6 : decode prog_14_method_29_code 6 = .ok (.ifCond .eq 22, 3) := by decide +kernel
theorem d_M_level_28 : decode prog_14_method_29_code 28 = .ok (.bipush (-2), 2) := by decide +kernel
theorem d_M_level_30 : decode prog_14_method_29_code 30 = .ok (.ireturn, 1) := by decide +kernel
theorem d_M_level_9 : decode prog_14_method_29_code 9 = .ok (.iload_n 3, 1) := by decide +kernel
theorem d_M_level_10 : decode prog_14_method_29_code 10 = .ok (.iconst 0, 1) := by decide +kernel
theorem d_M_level_11 : decode prog_14_method_29_code 11 = .ok (.iconst 3, 1) := by decide +kernel
theorem d_M_level_12 : decode prog_14_method_29_code 12 = .ok (.invokestatic 133, 3) := by decide +kernel
theorem d_M_level_15 : decode prog_14_method_29_code 15 = .ok (.ifCond .eq 13, 3) := by decide +kernel
theorem d_M_level_18 : decode prog_14_method_29_code 18 = .ok (.aload_n 0, 1) := by decide +kernel
theorem d_M_level_19 : decode prog_14_method_29_code 19 = .ok (.iload_n 1, 1) := by decide +kernel
theorem d_M_level_20 : decode prog_14_method_29_code 20 = .ok (.iload_n 2, 1) := by decide +kernel
theorem d_M_level_21 : decode prog_14_method_29_code 21 = .ok (.iload_n 3, 1) := by decide +kernel
theorem d_M_level_22 : decode prog_14_method_29_code 22 = .ok (.invokevirtual 197, 3) := by decide +kernel
theorem d_M_levelOf_0 : decode prog_14_method_27_code 0 = .ok (.iload_n 3, 1) := by decide +kernel
theorem d_M_levelOf_1 : decode prog_14_method_27_code 1 = .ok (.ifCond .ne 10, 3) := by decide +kernel
theorem d_M_levelOf_4 : decode prog_14_method_27_code 4 = .ok (.aload_n 0, 1) := by decide +kernel
theorem d_M_levelOf_5 : decode prog_14_method_27_code 5 = .ok (.iload_n 1, 1) := by decide +kernel
theorem d_M_levelOf_6 : decode prog_14_method_27_code 6 = .ok (.iload_n 2, 1) := by decide +kernel
theorem d_M_levelOf_7 : decode prog_14_method_27_code 7 = .ok (.invokevirtual 188, 3) := by decide +kernel
theorem d_M_nameLevel_0 : decode prog_14_method_26_code 0 = .ok (.aload_n 0, 1) := by decide +kernel
theorem d_M_nameLevel_1 : decode prog_14_method_26_code 1 = .ok (.iload_n 1, 1) := by decide +kernel
theorem d_M_nameLevel_2 : decode prog_14_method_26_code 2 = .ok (.iload_n 2, 1) := by decide +kernel
theorem d_M_nameLevel_3 : decode prog_14_method_26_code 3 = .ok (.invokevirtual 181, 3) := by decide +kernel
theorem d_M_nameLevel_6 : decode prog_14_method_26_code 6 = .ok (.istore_n 3, 1) := by decide +kernel
theorem d_M_nameLevel_7 : decode prog_14_method_26_code 7 = .ok (.iload_n 3, 1) := by decide +kernel
theorem d_M_nameLevel_8 : decode prog_14_method_26_code 8 = .ok (.iconst 2, 1) := by decide +kernel
theorem d_M_nameLevel_9 : decode prog_14_method_26_code 9 = .ok (.if_icmp .ge 7, 3) := by decide +kernel
theorem d_M_nameLevel_16 : decode prog_14_method_26_code 16 = .ok (.iload_n 3, 1) := by decide +kernel
theorem d_M_nameLevel_17 : decode prog_14_method_26_code 17 = .ok (.iconst 2, 1) := by decide +kernel
theorem d_M_nameLevel_18 : decode prog_14_method_26_code 18 = .ok (.if_icmp .eq 12, 3) := by decide +kernel
theorem d_M_nameLevel_21 : decode prog_14_method_26_code 21 = .ok (.aload_n 0, 1) := by decide +kernel
theorem d_M_nameLevel_22 : decode prog_14_method_26_code 22 = .ok (.iload_n 1, 1) := by decide +kernel
theorem d_M_nameLevel_23 : decode prog_14_method_26_code 23 = .ok (.iload_n 2, 1) := by decide +kernel
theorem d_M_nameLevel_24 : decode prog_14_method_26_code 24 = .ok (.invokevirtual 184, 3) := by decide +kernel
theorem d_M_soundAlike_0 : decode prog_14_method_23_code 0 = .ok (.aload_n 0, 1) := by decide +kernel
theorem d_M_soundAlike_1 : decode prog_14_method_23_code 1 = .ok (.iload_n 1, 1) := by decide +kernel
theorem d_M_soundAlike_2 : decode prog_14_method_23_code 2 = .ok (.iconst 0, 1) := by decide +kernel
theorem d_M_soundAlike_3 : decode prog_14_method_23_code 3 = .ok (.invokevirtual 177, 3) := by decide +kernel
theorem d_M_soundAlike_6 : decode prog_14_method_23_code 6 = .ok (.aload_n 0, 1) := by decide +kernel
theorem d_M_soundAlike_7 : decode prog_14_method_23_code 7 = .ok (.iload_n 2, 1) := by decide +kernel
theorem d_M_soundAlike_8 : decode prog_14_method_23_code 8 = .ok (.iconst 1, 1) := by decide +kernel
theorem d_M_soundAlike_9 : decode prog_14_method_23_code 9 = .ok (.invokevirtual 177, 3) := by decide +kernel
theorem d_M_soundAlike_12 : decode prog_14_method_23_code 12 = .ok (.aload_n 0, 1) := by decide +kernel
theorem d_M_soundAlike_13 : decode prog_14_method_23_code 13 = .ok (.getfield 50, 3) := by decide +kernel
theorem d_M_soundAlike_16 : decode prog_14_method_23_code 16 = .ok (.iconst 0, 1) := by decide +kernel
theorem d_M_soundAlike_17 : decode prog_14_method_23_code 17 = .ok (.iaload, 1) := by decide +kernel
theorem d_M_soundAlike_18 : decode prog_14_method_23_code 18 = .ok (.aload_n 0, 1) := by decide +kernel
theorem d_M_soundAlike_19 : decode prog_14_method_23_code 19 = .ok (.getfield 50, 3) := by decide +kernel
theorem d_M_soundAlike_22 : decode prog_14_method_23_code 22 = .ok (.iconst 1, 1) := by decide +kernel
theorem d_M_soundAlike_23 : decode prog_14_method_23_code 23 = .ok (.iaload, 1) := by decide +kernel
theorem d_M_soundAlike_24 : decode prog_14_method_23_code 24 = .ok (.if_icmp .eq 5, 3) := by decide +kernel
theorem d_M_soundAlike_29 : decode prog_14_method_23_code 29 = .ok (.iconst 0, 1) := by decide +kernel
theorem d_M_soundAlike_30 : decode prog_14_method_23_code 30 = .ok (.istore_n 3, 1) := by decide +kernel
theorem d_M_soundAlike_27 : decode prog_14_method_23_code 27 = .ok (.iconst 0, 1) := by decide +kernel
theorem d_M_soundAlike_28 : decode prog_14_method_23_code 28 = .ok (.ireturn, 1) := by decide +kernel
theorem d_M_soundAlike_31 : decode prog_14_method_23_code 31 = .ok (.iload_n 3, 1) := by decide +kernel
theorem d_M_soundAlike_32 : decode prog_14_method_23_code 32 = .ok (.aload_n 0, 1) := by decide +kernel
theorem d_M_soundAlike_33 : decode prog_14_method_23_code 33 = .ok (.getfield 50, 3) := by decide +kernel
theorem d_M_soundAlike_36 : decode prog_14_method_23_code 36 = .ok (.iconst 0, 1) := by decide +kernel
theorem d_M_soundAlike_37 : decode prog_14_method_23_code 37 = .ok (.iaload, 1) := by decide +kernel
theorem d_M_soundAlike_38 : decode prog_14_method_23_code 38 = .ok (.if_icmp .ge 29, 3) := by decide +kernel
theorem d_M_soundAlike_67 : decode prog_14_method_23_code 67 = .ok (.iconst 1, 1) := by decide +kernel
theorem d_M_soundAlike_68 : decode prog_14_method_23_code 68 = .ok (.ireturn, 1) := by decide +kernel
theorem d_M_soundAlike_41 : decode prog_14_method_23_code 41 = .ok (.aload_n 0, 1) := by decide +kernel
theorem d_M_soundAlike_42 : decode prog_14_method_23_code 42 = .ok (.getfield 47, 3) := by decide +kernel
theorem d_M_soundAlike_45 : decode prog_14_method_23_code 45 = .ok (.iload_n 3, 1) := by decide +kernel
theorem d_M_soundAlike_46 : decode prog_14_method_23_code 46 = .ok (.iaload, 1) := by decide +kernel
theorem d_M_soundAlike_47 : decode prog_14_method_23_code 47 = .ok (.aload_n 0, 1) := by decide +kernel
theorem d_M_soundAlike_48 : decode prog_14_method_23_code 48 = .ok (.getfield 47, 3) := by decide +kernel
theorem d_M_soundAlike_51 : decode prog_14_method_23_code 51 = .ok (.bipush 10, 2) := by decide +kernel
theorem d_M_soundAlike_53 : decode prog_14_method_23_code 53 = .ok (.iload_n 3, 1) := by decide +kernel
theorem d_M_soundAlike_54 : decode prog_14_method_23_code 54 = .ok (.iadd, 1) := by decide +kernel
theorem d_M_soundAlike_55 : decode prog_14_method_23_code 55 = .ok (.iaload, 1) := by decide +kernel
theorem d_M_soundAlike_56 : decode prog_14_method_23_code 56 = .ok (.if_icmp .eq 5, 3) := by decide +kernel
theorem d_M_soundAlike_61 : decode prog_14_method_23_code 61 = .ok (.iinc 3 1, 3) := by decide +kernel
theorem d_M_soundAlike_64 : decode prog_14_method_23_code 64 = .ok (.goto (-33), 3) := by decide +kernel
theorem d_M_soundAlike_59 : decode prog_14_method_23_code 59 = .ok (.iconst 0, 1) := by decide +kernel
theorem d_M_soundAlike_60 : decode prog_14_method_23_code 60 = .ok (.ireturn, 1) := by decide +kernel
theorem d_M_nameLevel_27 : decode prog_14_method_26_code 27 = .ok (.ifCond .eq 7, 3) := by decide +kernel
theorem d_M_nameLevel_34 : decode prog_14_method_26_code 34 = .ok (.iconst 3, 1) := by decide +kernel
theorem d_M_nameLevel_35 : decode prog_14_method_26_code 35 = .ok (.ireturn, 1) := by decide +kernel
theorem d_M_nameLevel_12 : decode prog_14_method_26_code 12 = .ok (.iload_n 3, 1) := by decide +kernel
theorem d_M_nameLevel_13 : decode prog_14_method_26_code 13 = .ok (.goto 22, 3) := by decide +kernel
theorem d_M_nameLevel_30 : decode prog_14_method_26_code 30 = .ok (.iconst 2, 1) := by decide +kernel
theorem d_M_nameLevel_31 : decode prog_14_method_26_code 31 = .ok (.goto 4, 3) := by decide +kernel
theorem d_M_levelOf_10 : decode prog_14_method_27_code 10 = .ok (.ireturn, 1) := by decide +kernel
theorem d_M_levelOf_11 : decode prog_14_method_27_code 11 = .ok (.iload_n 3, 1) := by decide +kernel
theorem d_M_levelOf_12 : decode prog_14_method_27_code 12 = .ok (.iconst 1, 1) := by decide +kernel
theorem d_M_levelOf_13 : decode prog_14_method_27_code 13 = .ok (.if_icmp .ne 12, 3) := by decide +kernel
theorem d_M_levelOf_16 : decode prog_14_method_27_code 16 = .ok (.aload_n 0, 1) := by decide +kernel
theorem d_M_levelOf_17 : decode prog_14_method_27_code 17 = .ok (.getfield 19, 3) := by decide +kernel
theorem d_M_levelOf_20 : decode prog_14_method_27_code 20 = .ok (.iload_n 1, 1) := by decide +kernel
theorem d_M_levelOf_21 : decode prog_14_method_27_code 21 = .ok (.iaload, 1) := by decide +kernel
theorem d_M_levelOf_22 : decode prog_14_method_27_code 22 = .ok (.goto 23, 3) := by decide +kernel
theorem d_M_levelOf_25 : decode prog_14_method_27_code 25 = .ok (.iload_n 3, 1) := by decide +kernel
theorem d_M_levelOf_26 : decode prog_14_method_27_code 26 = .ok (.iconst 2, 1) := by decide +kernel
theorem d_M_levelOf_27 : decode prog_14_method_27_code 27 = .ok (.if_icmp .ne 12, 3) := by decide +kernel
theorem d_M_levelOf_30 : decode prog_14_method_27_code 30 = .ok (.aload_n 0, 1) := by decide +kernel
theorem d_M_levelOf_31 : decode prog_14_method_27_code 31 = .ok (.getfield 22, 3) := by decide +kernel
theorem d_M_levelOf_34 : decode prog_14_method_27_code 34 = .ok (.iload_n 1, 1) := by decide +kernel
theorem d_M_levelOf_35 : decode prog_14_method_27_code 35 = .ok (.iaload, 1) := by decide +kernel
theorem d_M_levelOf_36 : decode prog_14_method_27_code 36 = .ok (.goto 9, 3) := by decide +kernel
theorem d_M_levelOf_39 : decode prog_14_method_27_code 39 = .ok (.aload_n 0, 1) := by decide +kernel
theorem d_M_levelOf_40 : decode prog_14_method_27_code 40 = .ok (.getfield 25, 3) := by decide +kernel
theorem d_M_levelOf_43 : decode prog_14_method_27_code 43 = .ok (.iload_n 1, 1) := by decide +kernel
theorem d_M_levelOf_44 : decode prog_14_method_27_code 44 = .ok (.iaload, 1) := by decide +kernel
theorem d_M_levelOf_45 : decode prog_14_method_27_code 45 = .ok (.istore 4, 2) := by decide +kernel
theorem d_M_levelOf_47 : decode prog_14_method_27_code 47 = .ok (.iload_n 3, 1) := by decide +kernel
theorem d_M_levelOf_48 : decode prog_14_method_27_code 48 = .ok (.iconst 1, 1) := by decide +kernel
theorem d_M_levelOf_49 : decode prog_14_method_27_code 49 = .ok (.if_icmp .ne 12, 3) := by decide +kernel
theorem d_M_levelOf_52 : decode prog_14_method_27_code 52 = .ok (.aload_n 0, 1) := by decide +kernel
theorem d_M_levelOf_53 : decode prog_14_method_27_code 53 = .ok (.getfield 19, 3) := by decide +kernel
theorem d_M_levelOf_56 : decode prog_14_method_27_code 56 = .ok (.iload_n 2, 1) := by decide +kernel
theorem d_M_levelOf_57 : decode prog_14_method_27_code 57 = .ok (.iaload, 1) := by decide +kernel
theorem d_M_levelOf_58 : decode prog_14_method_27_code 58 = .ok (.goto 23, 3) := by decide +kernel
theorem d_M_levelOf_61 : decode prog_14_method_27_code 61 = .ok (.iload_n 3, 1) := by decide +kernel
theorem d_M_levelOf_62 : decode prog_14_method_27_code 62 = .ok (.iconst 2, 1) := by decide +kernel
theorem d_M_levelOf_63 : decode prog_14_method_27_code 63 = .ok (.if_icmp .ne 12, 3) := by decide +kernel
theorem d_M_levelOf_66 : decode prog_14_method_27_code 66 = .ok (.aload_n 0, 1) := by decide +kernel
theorem d_M_levelOf_67 : decode prog_14_method_27_code 67 = .ok (.getfield 22, 3) := by decide +kernel
theorem d_M_levelOf_70 : decode prog_14_method_27_code 70 = .ok (.iload_n 2, 1) := by decide +kernel
theorem d_M_levelOf_71 : decode prog_14_method_27_code 71 = .ok (.iaload, 1) := by decide +kernel
theorem d_M_levelOf_72 : decode prog_14_method_27_code 72 = .ok (.goto 9, 3) := by decide +kernel
theorem d_M_levelOf_75 : decode prog_14_method_27_code 75 = .ok (.aload_n 0, 1) := by decide +kernel
theorem d_M_levelOf_76 : decode prog_14_method_27_code 76 = .ok (.getfield 25, 3) := by decide +kernel
theorem d_M_levelOf_79 : decode prog_14_method_27_code 79 = .ok (.iload_n 2, 1) := by decide +kernel
theorem d_M_levelOf_80 : decode prog_14_method_27_code 80 = .ok (.iaload, 1) := by decide +kernel
theorem d_M_levelOf_81 : decode prog_14_method_27_code 81 = .ok (.istore 5, 2) := by decide +kernel
theorem d_M_levelOf_83 : decode prog_14_method_27_code 83 = .ok (.iload 4, 2) := by decide +kernel
theorem d_M_levelOf_85 : decode prog_14_method_27_code 85 = .ok (.iconst (-1), 1) := by decide +kernel
theorem d_M_levelOf_86 : decode prog_14_method_27_code 86 = .ok (.if_icmp .eq 9, 3) := by decide +kernel
theorem d_M_levelOf_95 : decode prog_14_method_27_code 95 = .ok (.iconst (-1), 1) := by decide +kernel
theorem d_M_levelOf_96 : decode prog_14_method_27_code 96 = .ok (.ireturn, 1) := by decide +kernel
theorem d_M_levelOf_89 : decode prog_14_method_27_code 89 = .ok (.iload 5, 2) := by decide +kernel
theorem d_M_levelOf_91 : decode prog_14_method_27_code 91 = .ok (.iconst (-1), 1) := by decide +kernel
theorem d_M_levelOf_92 : decode prog_14_method_27_code 92 = .ok (.if_icmp .ne 5, 3) := by decide +kernel
theorem d_M_levelOf_97 : decode prog_14_method_27_code 97 = .ok (.iload 4, 2) := by decide +kernel
theorem d_M_levelOf_99 : decode prog_14_method_27_code 99 = .ok (.iload 5, 2) := by decide +kernel
theorem d_M_levelOf_101 : decode prog_14_method_27_code 101 = .ok (.if_icmp .ne 5, 3) := by decide +kernel
theorem d_M_levelOf_104 : decode prog_14_method_27_code 104 = .ok (.iconst 0, 1) := by decide +kernel
theorem d_M_levelOf_105 : decode prog_14_method_27_code 105 = .ok (.ireturn, 1) := by decide +kernel
theorem d_M_levelOf_106 : decode prog_14_method_27_code 106 = .ok (.iload_n 3, 1) := by decide +kernel
theorem d_M_levelOf_107 : decode prog_14_method_27_code 107 = .ok (.iconst 3, 1) := by decide +kernel
theorem d_M_levelOf_108 : decode prog_14_method_27_code 108 = .ok (.if_icmp .ne 5, 3) := by decide +kernel
theorem d_M_levelOf_111 : decode prog_14_method_27_code 111 = .ok (.iconst 3, 1) := by decide +kernel
theorem d_M_levelOf_112 : decode prog_14_method_27_code 112 = .ok (.ireturn, 1) := by decide +kernel
theorem d_M_levelOf_113 : decode prog_14_method_27_code 113 = .ok (.iload_n 3, 1) := by decide +kernel
theorem d_M_levelOf_114 : decode prog_14_method_27_code 114 = .ok (.iconst 1, 1) := by decide +kernel
theorem d_M_levelOf_115 : decode prog_14_method_27_code 115 = .ok (.if_icmp .ne 14, 3) := by decide +kernel
theorem d_M_levelOf_118 : decode prog_14_method_27_code 118 = .ok (.iload 4, 2) := by decide +kernel
theorem d_M_levelOf_120 : decode prog_14_method_27_code 120 = .ok (.iload 5, 2) := by decide +kernel
theorem d_M_levelOf_122 : decode prog_14_method_27_code 122 = .ok (.isub, 1) := by decide +kernel
theorem d_M_levelOf_123 : decode prog_14_method_27_code 123 = .ok (.invokestatic 191, 3) := by decide +kernel
theorem d_M_amount_0 : decode prog_14_method_4_code 0 = .ok (.iload_n 0, 1) := by decide +kernel
theorem d_M_amount_1 : decode prog_14_method_4_code 1 = .ok (.ifCond .ge 8, 3) := by decide +kernel
theorem d_M_amount_9 : decode prog_14_method_4_code 9 = .ok (.iload_n 0, 1) := by decide +kernel
theorem d_M_amount_10 : decode prog_14_method_4_code 10 = .ok (.ireturn, 1) := by decide +kernel
theorem d_M_amount_4 : decode prog_14_method_4_code 4 = .ok (.iload_n 0, 1) := by decide +kernel
theorem d_M_amount_5 : decode prog_14_method_4_code 5 = .ok (.ineg, 1) := by decide +kernel
theorem d_M_amount_6 : decode prog_14_method_4_code 6 = .ok (.goto 4, 3) := by decide +kernel
theorem d_M_levelOf_126 : decode prog_14_method_27_code 126 = .ok (.goto 16, 3) := by decide +kernel
theorem d_M_levelOf_129 : decode prog_14_method_27_code 129 = .ok (.aload_n 0, 1) := by decide +kernel
theorem d_M_levelOf_130 : decode prog_14_method_27_code 130 = .ok (.getfield 38, 3) := by decide +kernel
theorem d_M_levelOf_133 : decode prog_14_method_27_code 133 = .ok (.bipush 8, 2) := by decide +kernel
theorem d_M_levelOf_135 : decode prog_14_method_27_code 135 = .ok (.iload 4, 2) := by decide +kernel
theorem d_M_levelOf_137 : decode prog_14_method_27_code 137 = .ok (.imul, 1) := by decide +kernel
theorem d_M_levelOf_138 : decode prog_14_method_27_code 138 = .ok (.iload 5, 2) := by decide +kernel
theorem d_M_levelOf_140 : decode prog_14_method_27_code 140 = .ok (.iadd, 1) := by decide +kernel
theorem d_M_levelOf_141 : decode prog_14_method_27_code 141 = .ok (.iaload, 1) := by decide +kernel
theorem d_M_levelOf_142 : decode prog_14_method_27_code 142 = .ok (.istore 6, 2) := by decide +kernel
theorem d_M_levelOf_144 : decode prog_14_method_27_code 144 = .ok (.iload_n 3, 1) := by decide +kernel
theorem d_M_levelOf_145 : decode prog_14_method_27_code 145 = .ok (.iconst 1, 1) := by decide +kernel
theorem d_M_levelOf_146 : decode prog_14_method_27_code 146 = .ok (.if_icmp .ne 27, 3) := by decide +kernel
theorem d_M_levelOf_149 : decode prog_14_method_27_code 149 = .ok (.iload 6, 2) := by decide +kernel
theorem d_M_levelOf_151 : decode prog_14_method_27_code 151 = .ok (.iconst 1, 1) := by decide +kernel
theorem d_M_levelOf_152 : decode prog_14_method_27_code 152 = .ok (.if_icmp .gt 7, 3) := by decide +kernel
theorem d_M_levelOf_159 : decode prog_14_method_27_code 159 = .ok (.iload 6, 2) := by decide +kernel
theorem d_M_levelOf_161 : decode prog_14_method_27_code 161 = .ok (.iconst 5, 1) := by decide +kernel
theorem d_M_levelOf_162 : decode prog_14_method_27_code 162 = .ok (.if_icmp .gt 7, 3) := by decide +kernel
theorem d_M_levelOf_169 : decode prog_14_method_27_code 169 = .ok (.iconst 3, 1) := by decide +kernel
theorem d_M_levelOf_170 : decode prog_14_method_27_code 170 = .ok (.goto 25, 3) := by decide +kernel
theorem d_M_levelOf_195 : decode prog_14_method_27_code 195 = .ok (.ireturn, 1) := by decide +kernel
theorem d_M_levelOf_165 : decode prog_14_method_27_code 165 = .ok (.iconst 2, 1) := by decide +kernel
theorem d_M_levelOf_166 : decode prog_14_method_27_code 166 = .ok (.goto 29, 3) := by decide +kernel
theorem d_M_levelOf_155 : decode prog_14_method_27_code 155 = .ok (.iconst 1, 1) := by decide +kernel
theorem d_M_levelOf_156 : decode prog_14_method_27_code 156 = .ok (.goto 39, 3) := by decide +kernel
theorem d_M_levelOf_173 : decode prog_14_method_27_code 173 = .ok (.iload 6, 2) := by decide +kernel
theorem d_M_levelOf_175 : decode prog_14_method_27_code 175 = .ok (.iconst 5, 1) := by decide +kernel
theorem d_M_levelOf_176 : decode prog_14_method_27_code 176 = .ok (.if_icmp .gt 7, 3) := by decide +kernel
theorem d_M_levelOf_183 : decode prog_14_method_27_code 183 = .ok (.iload 6, 2) := by decide +kernel
theorem d_M_levelOf_185 : decode prog_14_method_27_code 185 = .ok (.bipush 20, 2) := by decide +kernel
theorem d_M_levelOf_187 : decode prog_14_method_27_code 187 = .ok (.if_icmp .gt 7, 3) := by decide +kernel
theorem d_M_levelOf_194 : decode prog_14_method_27_code 194 = .ok (.iconst 3, 1) := by decide +kernel
theorem d_M_levelOf_190 : decode prog_14_method_27_code 190 = .ok (.iconst 2, 1) := by decide +kernel
theorem d_M_levelOf_191 : decode prog_14_method_27_code 191 = .ok (.goto 4, 3) := by decide +kernel
theorem d_M_levelOf_179 : decode prog_14_method_27_code 179 = .ok (.iconst 1, 1) := by decide +kernel
theorem d_M_levelOf_180 : decode prog_14_method_27_code 180 = .ok (.goto 15, 3) := by decide +kernel
theorem d_M_level_25 : decode prog_14_method_29_code 25 = .ok (.goto 5, 3) := by decide +kernel
theorem d_M_points_0 : decode prog_14_method_30_code 0 = .ok (.iload_n 1, 1) := by decide +kernel
theorem d_M_points_1 : decode prog_14_method_30_code 1 = .ok (.iconst 0, 1) := by decide +kernel
theorem d_M_points_2 : decode prog_14_method_30_code 2 = .ok (.iconst 3, 1) := by decide +kernel
theorem d_M_points_3 : decode prog_14_method_30_code 3 = .ok (.invokestatic 133, 3) := by decide +kernel
theorem d_M_points_6 : decode prog_14_method_30_code 6 = .ok (.ifCond .eq 23, 3) := by decide +kernel
theorem d_M_points_29 : decode prog_14_method_30_code 29 = .ok (.sipush (-1000), 3) := by decide +kernel
theorem d_M_points_32 : decode prog_14_method_30_code 32 = .ok (.ireturn, 1) := by decide +kernel
theorem d_M_points_9 : decode prog_14_method_30_code 9 = .ok (.iload_n 2, 1) := by decide +kernel
theorem d_M_points_10 : decode prog_14_method_30_code 10 = .ok (.iconst 0, 1) := by decide +kernel
theorem d_M_points_11 : decode prog_14_method_30_code 11 = .ok (.iconst 3, 1) := by decide +kernel
theorem d_M_points_12 : decode prog_14_method_30_code 12 = .ok (.invokestatic 133, 3) := by decide +kernel
theorem d_M_points_15 : decode prog_14_method_30_code 15 = .ok (.ifCond .eq 14, 3) := by decide +kernel
theorem d_M_points_18 : decode prog_14_method_30_code 18 = .ok (.iload_n 3, 1) := by decide +kernel
theorem d_M_points_19 : decode prog_14_method_30_code 19 = .ok (.bipush (-100), 2) := by decide +kernel
theorem d_M_points_21 : decode prog_14_method_30_code 21 = .ok (.bipush 100, 2) := by decide +kernel
theorem d_M_points_23 : decode prog_14_method_30_code 23 = .ok (.invokestatic 133, 3) := by decide +kernel
theorem d_M_points_26 : decode prog_14_method_30_code 26 = .ok (.ifCond .ne 7, 3) := by decide +kernel
theorem d_M_points_33 : decode prog_14_method_30_code 33 = .ok (.aload_n 0, 1) := by decide +kernel
theorem d_M_points_34 : decode prog_14_method_30_code 34 = .ok (.getfield 56, 3) := by decide +kernel
theorem d_M_points_37 : decode prog_14_method_30_code 37 = .ok (.iconst 4, 1) := by decide +kernel
theorem d_M_points_38 : decode prog_14_method_30_code 38 = .ok (.iload_n 1, 1) := by decide +kernel
theorem d_M_points_39 : decode prog_14_method_30_code 39 = .ok (.imul, 1) := by decide +kernel
theorem d_M_points_40 : decode prog_14_method_30_code 40 = .ok (.iload_n 2, 1) := by decide +kernel
theorem d_M_points_41 : decode prog_14_method_30_code 41 = .ok (.iadd, 1) := by decide +kernel
theorem d_M_points_42 : decode prog_14_method_30_code 42 = .ok (.iaload, 1) := by decide +kernel
theorem d_M_points_43 : decode prog_14_method_30_code 43 = .ok (.istore 4, 2) := by decide +kernel
theorem d_M_points_45 : decode prog_14_method_30_code 45 = .ok (.aload_n 0, 1) := by decide +kernel
theorem d_M_points_46 : decode prog_14_method_30_code 46 = .ok (.getfield 56, 3) := by decide +kernel
theorem d_M_points_49 : decode prog_14_method_30_code 49 = .ok (.iconst 4, 1) := by decide +kernel
theorem d_M_points_50 : decode prog_14_method_30_code 50 = .ok (.iload_n 1, 1) := by decide +kernel
theorem d_M_points_51 : decode prog_14_method_30_code 51 = .ok (.imul, 1) := by decide +kernel
theorem d_M_points_52 : decode prog_14_method_30_code 52 = .ok (.iload_n 2, 1) := by decide +kernel
theorem d_M_points_53 : decode prog_14_method_30_code 53 = .ok (.iadd, 1) := by decide +kernel
theorem d_M_points_54 : decode prog_14_method_30_code 54 = .ok (.iload_n 3, 1) := by decide +kernel
theorem d_M_points_55 : decode prog_14_method_30_code 55 = .ok (.iastore, 1) := by decide +kernel
theorem d_M_points_56 : decode prog_14_method_30_code 56 = .ok (.iload 4, 2) := by decide +kernel
theorem d_M_points_58 : decode prog_14_method_30_code 58 = .ok (.ireturn, 1) := by decide +kernel
theorem d_M_score_0 : decode prog_14_method_32_code 0 = .ok (.aload_n 0, 1) := by decide +kernel
theorem d_M_score_1 : decode prog_14_method_32_code 1 = .ok (.iload_n 1, 1) := by decide +kernel
theorem d_M_score_2 : decode prog_14_method_32_code 2 = .ok (.iload_n 2, 1) := by decide +kernel
theorem d_M_score_3 : decode prog_14_method_32_code 3 = .ok (.invokevirtual 194, 3) := by decide +kernel
theorem d_M_score_6 : decode prog_14_method_32_code 6 = .ok (.ifCond .eq 12, 3) := by decide +kernel
theorem d_M_score_18 : decode prog_14_method_32_code 18 = .ok (.sipush (-1000), 3) := by decide +kernel
theorem d_M_score_21 : decode prog_14_method_32_code 21 = .ok (.ireturn, 1) := by decide +kernel
theorem d_M_score_9 : decode prog_14_method_32_code 9 = .ok (.aload_n 0, 1) := by decide +kernel
theorem d_M_score_10 : decode prog_14_method_32_code 10 = .ok (.iload_n 1, 1) := by decide +kernel
theorem d_M_score_11 : decode prog_14_method_32_code 11 = .ok (.iload_n 2, 1) := by decide +kernel
theorem d_M_score_12 : decode prog_14_method_32_code 12 = .ok (.invokevirtual 201, 3) := by decide +kernel
theorem d_M_scoreOf_0 : decode prog_14_method_31_code 0 = .ok (.iconst 0, 1) := by decide +kernel
theorem d_M_scoreOf_1 : decode prog_14_method_31_code 1 = .ok (.istore_n 3, 1) := by decide +kernel
theorem d_M_scoreOf_2 : decode prog_14_method_31_code 2 = .ok (.iconst 0, 1) := by decide +kernel
theorem d_M_scoreOf_3 : decode prog_14_method_31_code 3 = .ok (.istore 4, 2) := by decide +kernel
theorem d_M_scoreOf_5 : decode prog_14_method_31_code 5 = .ok (.iload 4, 2) := by decide +kernel
theorem d_M_scoreOf_7 : decode prog_14_method_31_code 7 = .ok (.iconst 4, 1) := by decide +kernel
theorem d_M_scoreOf_8 : decode prog_14_method_31_code 8 = .ok (.if_icmp .ge 44, 3) := by decide +kernel
theorem d_M_scoreOf_52 : decode prog_14_method_31_code 52 = .ok (.iload_n 3, 1) := by decide +kernel
theorem d_M_scoreOf_53 : decode prog_14_method_31_code 53 = .ok (.ireturn, 1) := by decide +kernel
theorem d_M_scoreOf_11 : decode prog_14_method_31_code 11 = .ok (.aload_n 0, 1) := by decide +kernel
theorem d_M_scoreOf_12 : decode prog_14_method_31_code 12 = .ok (.iload_n 1, 1) := by decide +kernel
theorem d_M_scoreOf_13 : decode prog_14_method_31_code 13 = .ok (.iload_n 2, 1) := by decide +kernel
theorem d_M_scoreOf_14 : decode prog_14_method_31_code 14 = .ok (.iload 4, 2) := by decide +kernel
theorem d_M_scoreOf_16 : decode prog_14_method_31_code 16 = .ok (.invokevirtual 197, 3) := by decide +kernel
theorem d_M_scoreOf_19 : decode prog_14_method_31_code 19 = .ok (.istore 5, 2) := by decide +kernel
theorem d_M_scoreOf_21 : decode prog_14_method_31_code 21 = .ok (.iload_n 3, 1) := by decide +kernel
theorem d_M_scoreOf_22 : decode prog_14_method_31_code 22 = .ok (.iload 5, 2) := by decide +kernel
theorem d_M_scoreOf_24 : decode prog_14_method_31_code 24 = .ok (.iconst (-1), 1) := by decide +kernel
theorem d_M_scoreOf_25 : decode prog_14_method_31_code 25 = .ok (.if_icmp .ne 7, 3) := by decide +kernel
theorem d_M_scoreOf_28 : decode prog_14_method_31_code 28 = .ok (.iconst 0, 1) := by decide +kernel
theorem d_M_scoreOf_29 : decode prog_14_method_31_code 29 = .ok (.goto 15, 3) := by decide +kernel
theorem d_M_scoreOf_32 : decode prog_14_method_31_code 32 = .ok (.aload_n 0, 1) := by decide +kernel
theorem d_M_scoreOf_33 : decode prog_14_method_31_code 33 = .ok (.getfield 56, 3) := by decide +kernel
theorem d_M_scoreOf_36 : decode prog_14_method_31_code 36 = .ok (.iconst 4, 1) := by decide +kernel
theorem d_M_scoreOf_37 : decode prog_14_method_31_code 37 = .ok (.iload 4, 2) := by decide +kernel
theorem d_M_scoreOf_39 : decode prog_14_method_31_code 39 = .ok (.imul, 1) := by decide +kernel
theorem d_M_scoreOf_40 : decode prog_14_method_31_code 40 = .ok (.iload 5, 2) := by decide +kernel
theorem d_M_scoreOf_42 : decode prog_14_method_31_code 42 = .ok (.iadd, 1) := by decide +kernel
theorem d_M_scoreOf_43 : decode prog_14_method_31_code 43 = .ok (.iaload, 1) := by decide +kernel
theorem d_M_scoreOf_44 : decode prog_14_method_31_code 44 = .ok (.iadd, 1) := by decide +kernel
theorem d_M_scoreOf_45 : decode prog_14_method_31_code 45 = .ok (.istore_n 3, 1) := by decide +kernel
theorem d_M_scoreOf_46 : decode prog_14_method_31_code 46 = .ok (.iinc 4 1, 3) := by decide +kernel
theorem d_M_scoreOf_49 : decode prog_14_method_31_code 49 = .ok (.goto (-44), 3) := by decide +kernel
theorem d_M_score_15 : decode prog_14_method_32_code 15 = .ok (.goto 6, 3) := by decide +kernel
theorem d_M_chance_0 : decode prog_14_method_33_code 0 = .ok (.iload_n 2, 1) := by decide +kernel
theorem d_M_chance_1 : decode prog_14_method_33_code 1 = .ok (.iconst 0, 1) := by decide +kernel
theorem d_M_chance_2 : decode prog_14_method_33_code 2 = .ok (.iconst 3, 1) := by decide +kernel
theorem d_M_chance_3 : decode prog_14_method_33_code 3 = .ok (.invokestatic 133, 3) := by decide +kernel
theorem d_M_chance_6 : decode prog_14_method_33_code 6 = .ok (.ifCond .eq 24, 3) := by decide +kernel
theorem d_M_chance_30 : decode prog_14_method_33_code 30 = .ok (.bipush (-2), 2) := by decide +kernel
theorem d_M_chance_32 : decode prog_14_method_33_code 32 = .ok (.ireturn, 1) := by decide +kernel
theorem d_M_chance_9 : decode prog_14_method_33_code 9 = .ok (.iload_n 3, 1) := by decide +kernel
theorem d_M_chance_10 : decode prog_14_method_33_code 10 = .ok (.iconst 0, 1) := by decide +kernel
theorem d_M_chance_11 : decode prog_14_method_33_code 11 = .ok (.iconst 3, 1) := by decide +kernel
theorem d_M_chance_12 : decode prog_14_method_33_code 12 = .ok (.invokestatic 133, 3) := by decide +kernel
theorem d_M_chance_15 : decode prog_14_method_33_code 15 = .ok (.ifCond .eq 15, 3) := by decide +kernel
theorem d_M_chance_18 : decode prog_14_method_33_code 18 = .ok (.iload 4, 2) := by decide +kernel
theorem d_M_chance_20 : decode prog_14_method_33_code 20 = .ok (.iconst 1, 1) := by decide +kernel
theorem d_M_chance_21 : decode prog_14_method_33_code 21 = .ok (.sipush 1000, 3) := by decide +kernel
theorem d_M_chance_24 : decode prog_14_method_33_code 24 = .ok (.invokestatic 133, 3) := by decide +kernel
theorem d_M_chance_27 : decode prog_14_method_33_code 27 = .ok (.ifCond .ne 6, 3) := by decide +kernel
theorem d_M_chance_33 : decode prog_14_method_33_code 33 = .ok (.iload_n 1, 1) := by decide +kernel
theorem d_M_chance_34 : decode prog_14_method_33_code 34 = .ok (.ifCond .eq 8, 3) := by decide +kernel
theorem d_M_chance_42 : decode prog_14_method_33_code 42 = .ok (.iconst 0, 1) := by decide +kernel
theorem d_M_chance_37 : decode prog_14_method_33_code 37 = .ok (.bipush 16, 2) := by decide +kernel
theorem d_M_chance_39 : decode prog_14_method_33_code 39 = .ok (.goto 4, 3) := by decide +kernel
theorem d_M_chance_43 : decode prog_14_method_33_code 43 = .ok (.iconst 4, 1) := by decide +kernel
theorem d_M_chance_44 : decode prog_14_method_33_code 44 = .ok (.iload_n 2, 1) := by decide +kernel
theorem d_M_chance_45 : decode prog_14_method_33_code 45 = .ok (.imul, 1) := by decide +kernel
theorem d_M_chance_46 : decode prog_14_method_33_code 46 = .ok (.iadd, 1) := by decide +kernel
theorem d_M_chance_47 : decode prog_14_method_33_code 47 = .ok (.iload_n 3, 1) := by decide +kernel
theorem d_M_chance_48 : decode prog_14_method_33_code 48 = .ok (.iadd, 1) := by decide +kernel
theorem d_M_chance_49 : decode prog_14_method_33_code 49 = .ok (.istore 5, 2) := by decide +kernel
theorem d_M_chance_51 : decode prog_14_method_33_code 51 = .ok (.aload_n 0, 1) := by decide +kernel
theorem d_M_chance_52 : decode prog_14_method_33_code 52 = .ok (.getfield 59, 3) := by decide +kernel
theorem d_M_chance_55 : decode prog_14_method_33_code 55 = .ok (.iload 5, 2) := by decide +kernel
theorem d_M_chance_57 : decode prog_14_method_33_code 57 = .ok (.iaload, 1) := by decide +kernel
theorem d_M_chance_58 : decode prog_14_method_33_code 58 = .ok (.istore 6, 2) := by decide +kernel
theorem d_M_chance_60 : decode prog_14_method_33_code 60 = .ok (.aload_n 0, 1) := by decide +kernel
theorem d_M_chance_61 : decode prog_14_method_33_code 61 = .ok (.getfield 59, 3) := by decide +kernel
theorem d_M_chance_64 : decode prog_14_method_33_code 64 = .ok (.iload 5, 2) := by decide +kernel
theorem d_M_chance_66 : decode prog_14_method_33_code 66 = .ok (.iload 4, 2) := by decide +kernel
theorem d_M_chance_68 : decode prog_14_method_33_code 68 = .ok (.iastore, 1) := by decide +kernel
theorem d_M_chance_69 : decode prog_14_method_33_code 69 = .ok (.iload 6, 2) := by decide +kernel
theorem d_M_chance_71 : decode prog_14_method_33_code 71 = .ok (.ireturn, 1) := by decide +kernel
theorem d_M_odds_0 : decode prog_14_method_36_code 0 = .ok (.aload_n 0, 1) := by decide +kernel
theorem d_M_odds_1 : decode prog_14_method_36_code 1 = .ok (.iload_n 1, 1) := by decide +kernel
theorem d_M_odds_2 : decode prog_14_method_36_code 2 = .ok (.iload_n 2, 1) := by decide +kernel
theorem d_M_odds_3 : decode prog_14_method_36_code 3 = .ok (.invokevirtual 194, 3) := by decide +kernel
theorem d_M_odds_6 : decode prog_14_method_36_code 6 = .ok (.ifCond .eq 12, 3) := by decide +kernel
theorem d_M_odds_18 : decode prog_14_method_36_code 18 = .ok (.ldc2_w 215, 3) := by decide +kernel
theorem d_M_odds_21 : decode prog_14_method_36_code 21 = .ok (.lreturn, 1) := by decide +kernel
theorem d_M_odds_9 : decode prog_14_method_36_code 9 = .ok (.iload_n 3, 1) := by decide +kernel
theorem d_M_odds_10 : decode prog_14_method_36_code 10 = .ok (.iconst 0, 1) := by decide +kernel
theorem d_M_odds_11 : decode prog_14_method_36_code 11 = .ok (.iconst 1, 1) := by decide +kernel
theorem d_M_odds_12 : decode prog_14_method_36_code 12 = .ok (.invokestatic 133, 3) := by decide +kernel
theorem d_M_odds_15 : decode prog_14_method_36_code 15 = .ok (.ifCond .ne 7, 3) := by decide +kernel
theorem d_M_odds_22 : decode prog_14_method_36_code 22 = .ok (.aload_n 0, 1) := by decide +kernel
theorem d_M_odds_23 : decode prog_14_method_36_code 23 = .ok (.iload_n 1, 1) := by decide +kernel
theorem d_M_odds_24 : decode prog_14_method_36_code 24 = .ok (.iload_n 2, 1) := by decide +kernel
theorem d_M_odds_25 : decode prog_14_method_36_code 25 = .ok (.invokevirtual 217, 3) := by decide +kernel
theorem d_M_oddsOf_0 : decode prog_14_method_35_code 0 = .ok (.aload_n 0, 1) := by decide +kernel
theorem d_M_oddsOf_1 : decode prog_14_method_35_code 1 = .ok (.lconst 1, 1) := by decide +kernel
theorem d_M_oddsOf_2 : decode prog_14_method_35_code 2 = .ok (.putfield 204, 3) := by decide +kernel
theorem d_M_oddsOf_5 : decode prog_14_method_35_code 5 = .ok (.aload_n 0, 1) := by decide +kernel
theorem d_M_oddsOf_6 : decode prog_14_method_35_code 6 = .ok (.lconst 1, 1) := by decide +kernel
theorem d_M_oddsOf_7 : decode prog_14_method_35_code 7 = .ok (.putfield 208, 3) := by decide +kernel
theorem d_M_oddsOf_10 : decode prog_14_method_35_code 10 = .ok (.iconst 0, 1) := by decide +kernel
theorem d_M_oddsOf_11 : decode prog_14_method_35_code 11 = .ok (.istore_n 3, 1) := by decide +kernel
theorem d_M_oddsOf_12 : decode prog_14_method_35_code 12 = .ok (.iload_n 3, 1) := by decide +kernel
theorem d_M_oddsOf_13 : decode prog_14_method_35_code 13 = .ok (.iconst 4, 1) := by decide +kernel
theorem d_M_oddsOf_14 : decode prog_14_method_35_code 14 = .ok (.if_icmp .ge 83, 3) := by decide +kernel
theorem d_M_oddsOf_97 : decode prog_14_method_35_code 97 = .ok (.aload_n 0, 1) := by decide +kernel
theorem d_M_oddsOf_98 : decode prog_14_method_35_code 98 = .ok (.getfield 204, 3) := by decide +kernel
theorem d_M_oddsOf_101 : decode prog_14_method_35_code 101 = .ok (.aload_n 0, 1) := by decide +kernel
theorem d_M_oddsOf_102 : decode prog_14_method_35_code 102 = .ok (.getfield 208, 3) := by decide +kernel
theorem d_M_oddsOf_105 : decode prog_14_method_35_code 105 = .ok (.invokestatic 211, 3) := by decide +kernel
theorem d_M_divisor_0 : decode prog_14_method_34_code 0 = .ok (.lload_n 0, 1) := by decide +kernel
theorem d_M_divisor_1 : decode prog_14_method_34_code 1 = .ok (.lstore 4, 2) := by decide +kernel
theorem d_M_divisor_3 : decode prog_14_method_34_code 3 = .ok (.lload_n 2, 1) := by decide +kernel
theorem d_M_divisor_4 : decode prog_14_method_34_code 4 = .ok (.lstore 6, 2) := by decide +kernel
theorem d_M_divisor_6 : decode prog_14_method_34_code 6 = .ok (.lload 6, 2) := by decide +kernel
theorem d_M_divisor_8 : decode prog_14_method_34_code 8 = .ok (.lconst 0, 1) := by decide +kernel
theorem d_M_divisor_9 : decode prog_14_method_34_code 9 = .ok (.lcmp, 1) := by decide +kernel
theorem d_M_divisor_10 : decode prog_14_method_34_code 10 = .ok (.ifCond .eq 21, 3) := by decide +kernel
theorem d_M_divisor_31 : decode prog_14_method_34_code 31 = .ok (.lload 4, 2) := by decide +kernel
theorem d_M_divisor_33 : decode prog_14_method_34_code 33 = .ok (.lreturn, 1) := by decide +kernel
theorem d_M_divisor_13 : decode prog_14_method_34_code 13 = .ok (.lload 4, 2) := by decide +kernel
theorem d_M_divisor_15 : decode prog_14_method_34_code 15 = .ok (.lload 6, 2) := by decide +kernel
theorem d_M_divisor_17 : decode prog_14_method_34_code 17 = .ok (.lrem, 1) := by decide +kernel
theorem d_M_divisor_18 : decode prog_14_method_34_code 18 = .ok (.lstore 8, 2) := by decide +kernel
theorem d_M_divisor_20 : decode prog_14_method_34_code 20 = .ok (.lload 6, 2) := by decide +kernel
theorem d_M_divisor_22 : decode prog_14_method_34_code 22 = .ok (.lstore 4, 2) := by decide +kernel
theorem d_M_divisor_24 : decode prog_14_method_34_code 24 = .ok (.lload 8, 2) := by decide +kernel
theorem d_M_divisor_26 : decode prog_14_method_34_code 26 = .ok (.lstore 6, 2) := by decide +kernel
theorem d_M_divisor_28 : decode prog_14_method_34_code 28 = .ok (.goto (-22), 3) := by decide +kernel
theorem d_M_oddsOf_108 : decode prog_14_method_35_code 108 = .ok (.lstore_n 3, 1) := by decide +kernel
theorem d_M_oddsOf_109 : decode prog_14_method_35_code 109 = .ok (.aload_n 0, 1) := by decide +kernel
theorem d_M_oddsOf_110 : decode prog_14_method_35_code 110 = .ok (.dup, 1) := by decide +kernel
theorem d_M_oddsOf_111 : decode prog_14_method_35_code 111 = .ok (.getfield 204, 3) := by decide +kernel
theorem d_M_oddsOf_114 : decode prog_14_method_35_code 114 = .ok (.lload_n 3, 1) := by decide +kernel
theorem d_M_oddsOf_115 : decode prog_14_method_35_code 115 = .ok (.ldiv, 1) := by decide +kernel
theorem d_M_oddsOf_116 : decode prog_14_method_35_code 116 = .ok (.putfield 204, 3) := by decide +kernel
theorem d_M_oddsOf_119 : decode prog_14_method_35_code 119 = .ok (.aload_n 0, 1) := by decide +kernel
theorem d_M_oddsOf_120 : decode prog_14_method_35_code 120 = .ok (.dup, 1) := by decide +kernel
theorem d_M_oddsOf_121 : decode prog_14_method_35_code 121 = .ok (.getfield 208, 3) := by decide +kernel
theorem d_M_oddsOf_124 : decode prog_14_method_35_code 124 = .ok (.lload_n 3, 1) := by decide +kernel
theorem d_M_oddsOf_125 : decode prog_14_method_35_code 125 = .ok (.ldiv, 1) := by decide +kernel
theorem d_M_oddsOf_126 : decode prog_14_method_35_code 126 = .ok (.putfield 208, 3) := by decide +kernel
theorem d_M_oddsOf_129 : decode prog_14_method_35_code 129 = .ok (.return_, 1) := by decide +kernel
theorem d_M_oddsOf_17 : decode prog_14_method_35_code 17 = .ok (.aload_n 0, 1) := by decide +kernel
theorem d_M_oddsOf_18 : decode prog_14_method_35_code 18 = .ok (.iload_n 1, 1) := by decide +kernel
theorem d_M_oddsOf_19 : decode prog_14_method_35_code 19 = .ok (.iload_n 2, 1) := by decide +kernel
theorem d_M_oddsOf_20 : decode prog_14_method_35_code 20 = .ok (.iload_n 3, 1) := by decide +kernel
theorem d_M_oddsOf_21 : decode prog_14_method_35_code 21 = .ok (.invokevirtual 197, 3) := by decide +kernel
theorem d_M_oddsOf_24 : decode prog_14_method_35_code 24 = .ok (.istore 4, 2) := by decide +kernel
theorem d_M_oddsOf_26 : decode prog_14_method_35_code 26 = .ok (.aload_n 0, 1) := by decide +kernel
theorem d_M_oddsOf_27 : decode prog_14_method_35_code 27 = .ok (.dup, 1) := by decide +kernel
theorem d_M_oddsOf_28 : decode prog_14_method_35_code 28 = .ok (.getfield 204, 3) := by decide +kernel
theorem d_M_oddsOf_31 : decode prog_14_method_35_code 31 = .ok (.iload 4, 2) := by decide +kernel
theorem d_M_oddsOf_33 : decode prog_14_method_35_code 33 = .ok (.iconst (-1), 1) := by decide +kernel
theorem d_M_oddsOf_34 : decode prog_14_method_35_code 34 = .ok (.if_icmp .ne 7, 3) := by decide +kernel
theorem d_M_oddsOf_37 : decode prog_14_method_35_code 37 = .ok (.lconst 1, 1) := by decide +kernel
theorem d_M_oddsOf_38 : decode prog_14_method_35_code 38 = .ok (.goto 18, 3) := by decide +kernel
theorem d_M_oddsOf_41 : decode prog_14_method_35_code 41 = .ok (.aload_n 0, 1) := by decide +kernel
theorem d_M_oddsOf_42 : decode prog_14_method_35_code 42 = .ok (.getfield 59, 3) := by decide +kernel
theorem d_M_oddsOf_45 : decode prog_14_method_35_code 45 = .ok (.bipush 16, 2) := by decide +kernel
theorem d_M_oddsOf_47 : decode prog_14_method_35_code 47 = .ok (.iconst 4, 1) := by decide +kernel
theorem d_M_oddsOf_48 : decode prog_14_method_35_code 48 = .ok (.iload_n 3, 1) := by decide +kernel
theorem d_M_oddsOf_49 : decode prog_14_method_35_code 49 = .ok (.imul, 1) := by decide +kernel
theorem d_M_oddsOf_50 : decode prog_14_method_35_code 50 = .ok (.iadd, 1) := by decide +kernel
theorem d_M_oddsOf_51 : decode prog_14_method_35_code 51 = .ok (.iload 4, 2) := by decide +kernel
theorem d_M_oddsOf_53 : decode prog_14_method_35_code 53 = .ok (.iadd, 1) := by decide +kernel
theorem d_M_oddsOf_54 : decode prog_14_method_35_code 54 = .ok (.iaload, 1) := by decide +kernel
theorem d_M_oddsOf_55 : decode prog_14_method_35_code 55 = .ok (.i2l, 1) := by decide +kernel
theorem d_M_oddsOf_56 : decode prog_14_method_35_code 56 = .ok (.lmul, 1) := by decide +kernel
theorem d_M_oddsOf_57 : decode prog_14_method_35_code 57 = .ok (.putfield 204, 3) := by decide +kernel
theorem d_M_oddsOf_60 : decode prog_14_method_35_code 60 = .ok (.aload_n 0, 1) := by decide +kernel
theorem d_M_oddsOf_61 : decode prog_14_method_35_code 61 = .ok (.dup, 1) := by decide +kernel
theorem d_M_oddsOf_62 : decode prog_14_method_35_code 62 = .ok (.getfield 208, 3) := by decide +kernel
theorem d_M_oddsOf_65 : decode prog_14_method_35_code 65 = .ok (.iload 4, 2) := by decide +kernel
theorem d_M_oddsOf_67 : decode prog_14_method_35_code 67 = .ok (.iconst (-1), 1) := by decide +kernel
theorem d_M_oddsOf_68 : decode prog_14_method_35_code 68 = .ok (.if_icmp .ne 7, 3) := by decide +kernel
theorem d_M_oddsOf_71 : decode prog_14_method_35_code 71 = .ok (.lconst 1, 1) := by decide +kernel
theorem d_M_oddsOf_72 : decode prog_14_method_35_code 72 = .ok (.goto 15, 3) := by decide +kernel
theorem d_M_oddsOf_75 : decode prog_14_method_35_code 75 = .ok (.aload_n 0, 1) := by decide +kernel
theorem d_M_oddsOf_76 : decode prog_14_method_35_code 76 = .ok (.getfield 59, 3) := by decide +kernel
theorem d_M_oddsOf_79 : decode prog_14_method_35_code 79 = .ok (.iconst 4, 1) := by decide +kernel
theorem d_M_oddsOf_80 : decode prog_14_method_35_code 80 = .ok (.iload_n 3, 1) := by decide +kernel
theorem d_M_oddsOf_81 : decode prog_14_method_35_code 81 = .ok (.imul, 1) := by decide +kernel
theorem d_M_oddsOf_82 : decode prog_14_method_35_code 82 = .ok (.iload 4, 2) := by decide +kernel
theorem d_M_oddsOf_84 : decode prog_14_method_35_code 84 = .ok (.iadd, 1) := by decide +kernel
theorem d_M_oddsOf_85 : decode prog_14_method_35_code 85 = .ok (.iaload, 1) := by decide +kernel
theorem d_M_oddsOf_86 : decode prog_14_method_35_code 86 = .ok (.i2l, 1) := by decide +kernel
theorem d_M_oddsOf_87 : decode prog_14_method_35_code 87 = .ok (.lmul, 1) := by decide +kernel
theorem d_M_oddsOf_88 : decode prog_14_method_35_code 88 = .ok (.putfield 208, 3) := by decide +kernel
theorem d_M_oddsOf_91 : decode prog_14_method_35_code 91 = .ok (.iinc 3 1, 3) := by decide +kernel
theorem d_M_oddsOf_94 : decode prog_14_method_35_code 94 = .ok (.goto (-82), 3) := by decide +kernel
theorem d_M_odds_28 : decode prog_14_method_36_code 28 = .ok (.iload_n 3, 1) := by decide +kernel
theorem d_M_odds_29 : decode prog_14_method_36_code 29 = .ok (.ifCond .ne 10, 3) := by decide +kernel
theorem d_M_odds_32 : decode prog_14_method_36_code 32 = .ok (.aload_n 0, 1) := by decide +kernel
theorem d_M_odds_33 : decode prog_14_method_36_code 33 = .ok (.getfield 204, 3) := by decide +kernel
theorem d_M_odds_36 : decode prog_14_method_36_code 36 = .ok (.goto 7, 3) := by decide +kernel
theorem d_M_odds_43 : decode prog_14_method_36_code 43 = .ok (.lreturn, 1) := by decide +kernel
theorem d_M_odds_39 : decode prog_14_method_36_code 39 = .ok (.aload_n 0, 1) := by decide +kernel
theorem d_M_odds_40 : decode prog_14_method_36_code 40 = .ok (.getfield 208, 3) := by decide +kernel
theorem d_M_belief_0 : decode prog_14_method_37_code 0 = .ok (.aload_n 0, 1) := by decide +kernel
theorem d_M_belief_1 : decode prog_14_method_37_code 1 = .ok (.iload_n 1, 1) := by decide +kernel
theorem d_M_belief_2 : decode prog_14_method_37_code 2 = .ok (.iload_n 2, 1) := by decide +kernel
theorem d_M_belief_3 : decode prog_14_method_37_code 3 = .ok (.invokevirtual 194, 3) := by decide +kernel
theorem d_M_belief_6 : decode prog_14_method_37_code 6 = .ok (.ifCond .eq 27, 3) := by decide +kernel
theorem d_M_belief_33 : decode prog_14_method_37_code 33 = .ok (.bipush (-2), 2) := by decide +kernel
theorem d_M_belief_35 : decode prog_14_method_37_code 35 = .ok (.ireturn, 1) := by decide +kernel
theorem d_M_belief_9 : decode prog_14_method_37_code 9 = .ok (.iload_n 3, 1) := by decide +kernel
theorem d_M_belief_10 : decode prog_14_method_37_code 10 = .ok (.iconst 1, 1) := by decide +kernel
theorem d_M_belief_11 : decode prog_14_method_37_code 11 = .ok (.sipush 1000, 3) := by decide +kernel
theorem d_M_belief_14 : decode prog_14_method_37_code 14 = .ok (.invokestatic 133, 3) := by decide +kernel
theorem d_M_belief_17 : decode prog_14_method_37_code 17 = .ok (.ifCond .eq 16, 3) := by decide +kernel
theorem d_M_belief_20 : decode prog_14_method_37_code 20 = .ok (.iload 4, 2) := by decide +kernel
theorem d_M_belief_22 : decode prog_14_method_37_code 22 = .ok (.iload_n 3, 1) := by decide +kernel
theorem d_M_belief_23 : decode prog_14_method_37_code 23 = .ok (.iconst 1, 1) := by decide +kernel
theorem d_M_belief_24 : decode prog_14_method_37_code 24 = .ok (.iadd, 1) := by decide +kernel
theorem d_M_belief_25 : decode prog_14_method_37_code 25 = .ok (.ldc 220, 2) := by decide +kernel
theorem d_M_belief_27 : decode prog_14_method_37_code 27 = .ok (.invokestatic 133, 3) := by decide +kernel
theorem d_M_belief_30 : decode prog_14_method_37_code 30 = .ok (.ifCond .ne 6, 3) := by decide +kernel
theorem d_M_belief_36 : decode prog_14_method_37_code 36 = .ok (.aload_n 0, 1) := by decide +kernel
theorem d_M_belief_37 : decode prog_14_method_37_code 37 = .ok (.iload_n 1, 1) := by decide +kernel
theorem d_M_belief_38 : decode prog_14_method_37_code 38 = .ok (.iload_n 2, 1) := by decide +kernel
theorem d_M_belief_39 : decode prog_14_method_37_code 39 = .ok (.invokevirtual 217, 3) := by decide +kernel
theorem d_M_belief_42 : decode prog_14_method_37_code 42 = .ok (.iload_n 3, 1) := by decide +kernel
theorem d_M_belief_43 : decode prog_14_method_37_code 43 = .ok (.i2l, 1) := by decide +kernel
theorem d_M_belief_44 : decode prog_14_method_37_code 44 = .ok (.aload_n 0, 1) := by decide +kernel
theorem d_M_belief_45 : decode prog_14_method_37_code 45 = .ok (.getfield 204, 3) := by decide +kernel
theorem d_M_belief_48 : decode prog_14_method_37_code 48 = .ok (.lmul, 1) := by decide +kernel
theorem d_M_belief_49 : decode prog_14_method_37_code 49 = .ok (.lstore 5, 2) := by decide +kernel
theorem d_M_belief_51 : decode prog_14_method_37_code 51 = .ok (.lload 5, 2) := by decide +kernel
theorem d_M_belief_53 : decode prog_14_method_37_code 53 = .ok (.iload 4, 2) := by decide +kernel
theorem d_M_belief_55 : decode prog_14_method_37_code 55 = .ok (.iload_n 3, 1) := by decide +kernel
theorem d_M_belief_56 : decode prog_14_method_37_code 56 = .ok (.isub, 1) := by decide +kernel
theorem d_M_belief_57 : decode prog_14_method_37_code 57 = .ok (.i2l, 1) := by decide +kernel
theorem d_M_belief_58 : decode prog_14_method_37_code 58 = .ok (.aload_n 0, 1) := by decide +kernel
theorem d_M_belief_59 : decode prog_14_method_37_code 59 = .ok (.getfield 208, 3) := by decide +kernel
theorem d_M_belief_62 : decode prog_14_method_37_code 62 = .ok (.lmul, 1) := by decide +kernel
theorem d_M_belief_63 : decode prog_14_method_37_code 63 = .ok (.ladd, 1) := by decide +kernel
theorem d_M_belief_64 : decode prog_14_method_37_code 64 = .ok (.lstore 7, 2) := by decide +kernel
theorem d_M_belief_66 : decode prog_14_method_37_code 66 = .ok (.iconst 0, 1) := by decide +kernel
theorem d_M_belief_67 : decode prog_14_method_37_code 67 = .ok (.istore 9, 2) := by decide +kernel
theorem d_M_belief_69 : decode prog_14_method_37_code 69 = .ok (.iconst 0, 1) := by decide +kernel
theorem d_M_belief_70 : decode prog_14_method_37_code 70 = .ok (.istore 10, 2) := by decide +kernel
theorem d_M_belief_72 : decode prog_14_method_37_code 72 = .ok (.iload 10, 2) := by decide +kernel
theorem d_M_belief_74 : decode prog_14_method_37_code 74 = .ok (.bipush 6, 2) := by decide +kernel
theorem d_M_belief_76 : decode prog_14_method_37_code 76 = .ok (.if_icmp .ge 38, 3) := by decide +kernel
theorem d_M_belief_114 : decode prog_14_method_37_code 114 = .ok (.iload 9, 2) := by decide +kernel
theorem d_M_belief_116 : decode prog_14_method_37_code 116 = .ok (.ireturn, 1) := by decide +kernel
theorem d_M_belief_79 : decode prog_14_method_37_code 79 = .ok (.lload 5, 2) := by decide +kernel
theorem d_M_belief_81 : decode prog_14_method_37_code 81 = .ok (.ldc2_w 221, 3) := by decide +kernel
theorem d_M_belief_84 : decode prog_14_method_37_code 84 = .ok (.lmul, 1) := by decide +kernel
theorem d_M_belief_85 : decode prog_14_method_37_code 85 = .ok (.lstore 5, 2) := by decide +kernel
theorem d_M_belief_87 : decode prog_14_method_37_code 87 = .ok (.bipush 10, 2) := by decide +kernel
theorem d_M_belief_89 : decode prog_14_method_37_code 89 = .ok (.iload 9, 2) := by decide +kernel
theorem d_M_belief_91 : decode prog_14_method_37_code 91 = .ok (.imul, 1) := by decide +kernel
theorem d_M_belief_92 : decode prog_14_method_37_code 92 = .ok (.lload 5, 2) := by decide +kernel
theorem d_M_belief_94 : decode prog_14_method_37_code 94 = .ok (.lload 7, 2) := by decide +kernel
theorem d_M_belief_96 : decode prog_14_method_37_code 96 = .ok (.ldiv, 1) := by decide +kernel
theorem d_M_belief_97 : decode prog_14_method_37_code 97 = .ok (.l2i, 1) := by decide +kernel
theorem d_M_belief_98 : decode prog_14_method_37_code 98 = .ok (.iadd, 1) := by decide +kernel
theorem d_M_belief_99 : decode prog_14_method_37_code 99 = .ok (.istore 9, 2) := by decide +kernel
theorem d_M_belief_101 : decode prog_14_method_37_code 101 = .ok (.lload 5, 2) := by decide +kernel
theorem d_M_belief_103 : decode prog_14_method_37_code 103 = .ok (.lload 7, 2) := by decide +kernel
theorem d_M_belief_105 : decode prog_14_method_37_code 105 = .ok (.lrem, 1) := by decide +kernel
theorem d_M_belief_106 : decode prog_14_method_37_code 106 = .ok (.lstore 5, 2) := by decide +kernel
theorem d_M_belief_108 : decode prog_14_method_37_code 108 = .ok (.iinc 10 1, 3) := by decide +kernel
theorem d_M_belief_111 : decode prog_14_method_37_code 111 = .ok (.goto (-39), 3) := by decide +kernel
theorem d_M_line_0 : decode prog_14_method_38_code 0 = .ok (.iload_n 1, 1) := by decide +kernel
theorem d_M_line_1 : decode prog_14_method_38_code 1 = .ok (.sipush (-400), 3) := by decide +kernel
theorem d_M_line_4 : decode prog_14_method_38_code 4 = .ok (.sipush 400, 3) := by decide +kernel
theorem d_M_line_7 : decode prog_14_method_38_code 7 = .ok (.invokestatic 133, 3) := by decide +kernel
theorem d_M_line_10 : decode prog_14_method_38_code 10 = .ok (.ifCond .ne 7, 3) := by decide +kernel
theorem d_M_line_13 : decode prog_14_method_38_code 13 = .ok (.sipush (-1000), 3) := by decide +kernel
theorem d_M_line_16 : decode prog_14_method_38_code 16 = .ok (.ireturn, 1) := by decide +kernel
theorem d_M_line_17 : decode prog_14_method_38_code 17 = .ok (.aload_n 0, 1) := by decide +kernel
theorem d_M_line_18 : decode prog_14_method_38_code 18 = .ok (.getfield 62, 3) := by decide +kernel
theorem d_M_line_21 : decode prog_14_method_38_code 21 = .ok (.istore_n 2, 1) := by decide +kernel
theorem d_M_line_22 : decode prog_14_method_38_code 22 = .ok (.aload_n 0, 1) := by decide +kernel
theorem d_M_line_23 : decode prog_14_method_38_code 23 = .ok (.iload_n 1, 1) := by decide +kernel
theorem d_M_line_24 : decode prog_14_method_38_code 24 = .ok (.putfield 62, 3) := by decide +kernel
theorem d_M_line_27 : decode prog_14_method_38_code 27 = .ok (.iload_n 2, 1) := by decide +kernel
theorem d_M_line_28 : decode prog_14_method_38_code 28 = .ok (.ireturn, 1) := by decide +kernel
theorem d_M_links_0 : decode prog_14_method_40_code 0 = .ok (.aload_n 0, 1) := by decide +kernel
theorem d_M_links_1 : decode prog_14_method_40_code 1 = .ok (.invokevirtual 226, 3) := by decide +kernel
theorem d_M_looks_0 : decode prog_14_method_39_code 0 = .ok (.aload_n 0, 1) := by decide +kernel
theorem d_M_looks_1 : decode prog_14_method_39_code 1 = .ok (.iconst 0, 1) := by decide +kernel
theorem d_M_looks_2 : decode prog_14_method_39_code 2 = .ok (.putfield 223, 3) := by decide +kernel
theorem d_M_looks_5 : decode prog_14_method_39_code 5 = .ok (.iconst 0, 1) := by decide +kernel
theorem d_M_looks_6 : decode prog_14_method_39_code 6 = .ok (.istore_n 1, 1) := by decide +kernel
theorem d_M_looks_7 : decode prog_14_method_39_code 7 = .ok (.iload_n 1, 1) := by decide +kernel
theorem d_M_looks_8 : decode prog_14_method_39_code 8 = .ok (.aload_n 0, 1) := by decide +kernel
theorem d_M_looks_9 : decode prog_14_method_39_code 9 = .ok (.getfield 130, 3) := by decide +kernel
theorem d_M_looks_12 : decode prog_14_method_39_code 12 = .ok (.if_icmp .ge 99, 3) := by decide +kernel
theorem d_M_looks_111 : decode prog_14_method_39_code 111 = .ok (.return_, 1) := by decide +kernel
theorem d_M_looks_15 : decode prog_14_method_39_code 15 = .ok (.iconst 0, 1) := by decide +kernel
theorem d_M_looks_16 : decode prog_14_method_39_code 16 = .ok (.istore_n 2, 1) := by decide +kernel
theorem d_M_looks_17 : decode prog_14_method_39_code 17 = .ok (.iload_n 2, 1) := by decide +kernel
theorem d_M_looks_18 : decode prog_14_method_39_code 18 = .ok (.iload_n 1, 1) := by decide +kernel
theorem d_M_looks_19 : decode prog_14_method_39_code 19 = .ok (.if_icmp .ge 86, 3) := by decide +kernel
theorem d_M_looks_105 : decode prog_14_method_39_code 105 = .ok (.iinc 1 1, 3) := by decide +kernel
theorem d_M_looks_108 : decode prog_14_method_39_code 108 = .ok (.goto (-101), 3) := by decide +kernel
theorem d_M_looks_22 : decode prog_14_method_39_code 22 = .ok (.aload_n 0, 1) := by decide +kernel
theorem d_M_looks_23 : decode prog_14_method_39_code 23 = .ok (.iload_n 1, 1) := by decide +kernel
theorem d_M_looks_24 : decode prog_14_method_39_code 24 = .ok (.invokevirtual 151, 3) := by decide +kernel
theorem d_M_looks_27 : decode prog_14_method_39_code 27 = .ok (.ifCond .eq 28, 3) := by decide +kernel
theorem d_M_looks_30 : decode prog_14_method_39_code 30 = .ok (.aload_n 0, 1) := by decide +kernel
theorem d_M_looks_31 : decode prog_14_method_39_code 31 = .ok (.iload_n 2, 1) := by decide +kernel
theorem d_M_looks_32 : decode prog_14_method_39_code 32 = .ok (.invokevirtual 151, 3) := by decide +kernel
theorem d_M_looks_35 : decode prog_14_method_39_code 35 = .ok (.ifCond .eq 20, 3) := by decide +kernel
theorem d_M_looks_38 : decode prog_14_method_39_code 38 = .ok (.aload_n 0, 1) := by decide +kernel
theorem d_M_looks_39 : decode prog_14_method_39_code 39 = .ok (.iload_n 1, 1) := by decide +kernel
theorem d_M_looks_40 : decode prog_14_method_39_code 40 = .ok (.iload_n 2, 1) := by decide +kernel
theorem d_M_looks_41 : decode prog_14_method_39_code 41 = .ok (.invokevirtual 201, 3) := by decide +kernel
theorem d_M_looks_44 : decode prog_14_method_39_code 44 = .ok (.aload_n 0, 1) := by decide +kernel
theorem d_M_looks_45 : decode prog_14_method_39_code 45 = .ok (.getfield 62, 3) := by decide +kernel
theorem d_M_looks_48 : decode prog_14_method_39_code 48 = .ok (.if_icmp .lt 7, 3) := by decide +kernel
theorem d_M_looks_51 : decode prog_14_method_39_code 51 = .ok (.iconst 1, 1) := by decide +kernel
theorem d_M_looks_52 : decode prog_14_method_39_code 52 = .ok (.goto 4, 3) := by decide +kernel
theorem d_M_looks_55 : decode prog_14_method_39_code 55 = .ok (.iconst 0, 1) := by decide +kernel
theorem d_M_looks_56 : decode prog_14_method_39_code 56 = .ok (.istore_n 3, 1) := by decide +kernel
theorem d_M_looks_57 : decode prog_14_method_39_code 57 = .ok (.aload_n 0, 1) := by decide +kernel
theorem d_M_looks_58 : decode prog_14_method_39_code 58 = .ok (.getfield 65, 3) := by decide +kernel
theorem d_M_looks_61 : decode prog_14_method_39_code 61 = .ok (.bipush 36, 2) := by decide +kernel
theorem d_M_looks_63 : decode prog_14_method_39_code 63 = .ok (.iload_n 1, 1) := by decide +kernel
theorem d_M_looks_64 : decode prog_14_method_39_code 64 = .ok (.imul, 1) := by decide +kernel
theorem d_M_looks_65 : decode prog_14_method_39_code 65 = .ok (.iload_n 2, 1) := by decide +kernel
theorem d_M_looks_66 : decode prog_14_method_39_code 66 = .ok (.iadd, 1) := by decide +kernel
theorem d_M_looks_67 : decode prog_14_method_39_code 67 = .ok (.iload_n 3, 1) := by decide +kernel
theorem d_M_looks_68 : decode prog_14_method_39_code 68 = .ok (.bastore, 1) := by decide +kernel
theorem d_M_looks_69 : decode prog_14_method_39_code 69 = .ok (.aload_n 0, 1) := by decide +kernel
theorem d_M_looks_70 : decode prog_14_method_39_code 70 = .ok (.getfield 65, 3) := by decide +kernel
theorem d_M_looks_73 : decode prog_14_method_39_code 73 = .ok (.bipush 36, 2) := by decide +kernel
theorem d_M_looks_75 : decode prog_14_method_39_code 75 = .ok (.iload_n 2, 1) := by decide +kernel
theorem d_M_looks_76 : decode prog_14_method_39_code 76 = .ok (.imul, 1) := by decide +kernel
theorem d_M_looks_77 : decode prog_14_method_39_code 77 = .ok (.iload_n 1, 1) := by decide +kernel
theorem d_M_looks_78 : decode prog_14_method_39_code 78 = .ok (.iadd, 1) := by decide +kernel
theorem d_M_looks_79 : decode prog_14_method_39_code 79 = .ok (.iload_n 3, 1) := by decide +kernel
theorem d_M_looks_80 : decode prog_14_method_39_code 80 = .ok (.bastore, 1) := by decide +kernel
theorem d_M_looks_81 : decode prog_14_method_39_code 81 = .ok (.aload_n 0, 1) := by decide +kernel
theorem d_M_looks_82 : decode prog_14_method_39_code 82 = .ok (.dup, 1) := by decide +kernel
theorem d_M_looks_83 : decode prog_14_method_39_code 83 = .ok (.getfield 223, 3) := by decide +kernel
theorem d_M_looks_86 : decode prog_14_method_39_code 86 = .ok (.iload_n 3, 1) := by decide +kernel
theorem d_M_looks_87 : decode prog_14_method_39_code 87 = .ok (.ifCond .eq 7, 3) := by decide +kernel
theorem d_M_looks_94 : decode prog_14_method_39_code 94 = .ok (.iconst 0, 1) := by decide +kernel
theorem d_M_looks_90 : decode prog_14_method_39_code 90 = .ok (.iconst 1, 1) := by decide +kernel
theorem d_M_looks_91 : decode prog_14_method_39_code 91 = .ok (.goto 4, 3) := by decide +kernel
theorem d_M_looks_95 : decode prog_14_method_39_code 95 = .ok (.iadd, 1) := by decide +kernel
theorem d_M_looks_96 : decode prog_14_method_39_code 96 = .ok (.putfield 223, 3) := by decide +kernel
theorem d_M_looks_99 : decode prog_14_method_39_code 99 = .ok (.iinc 2 1, 3) := by decide +kernel
theorem d_M_looks_102 : decode prog_14_method_39_code 102 = .ok (.goto (-85), 3) := by decide +kernel
theorem d_M_links_4 : decode prog_14_method_40_code 4 = .ok (.aload_n 0, 1) := by decide +kernel
theorem d_M_links_5 : decode prog_14_method_40_code 5 = .ok (.getfield 223, 3) := by decide +kernel
theorem d_M_links_8 : decode prog_14_method_40_code 8 = .ok (.ireturn, 1) := by decide +kernel
theorem d_M_laid_0 : decode prog_14_method_45_code 0 = .ok (.iload_n 1, 1) := by decide +kernel
theorem d_M_laid_1 : decode prog_14_method_45_code 1 = .ok (.iload_n 2, 1) := by decide +kernel
theorem d_M_laid_2 : decode prog_14_method_45_code 2 = .ok (.invokestatic 244, 3) := by decide +kernel
theorem d_M_areRegisters_0 : decode prog_14_method_44_code 0 = .ok (.iload_n 0, 1) := by decide +kernel
theorem d_M_areRegisters_1 : decode prog_14_method_44_code 1 = .ok (.iconst 0, 1) := by decide +kernel
theorem d_M_areRegisters_2 : decode prog_14_method_44_code 2 = .ok (.iconst 2, 1) := by decide +kernel
theorem d_M_areRegisters_3 : decode prog_14_method_44_code 3 = .ok (.invokestatic 133, 3) := by decide +kernel
theorem d_M_areRegisters_6 : decode prog_14_method_44_code 6 = .ok (.ifCond .eq 21, 3) := by decide +kernel
theorem d_M_areRegisters_27 : decode prog_14_method_44_code 27 = .ok (.iconst 0, 1) := by decide +kernel
theorem d_M_areRegisters_28 : decode prog_14_method_44_code 28 = .ok (.ireturn, 1) := by decide +kernel
theorem d_M_areRegisters_9 : decode prog_14_method_44_code 9 = .ok (.iload_n 1, 1) := by decide +kernel
theorem d_M_areRegisters_10 : decode prog_14_method_44_code 10 = .ok (.iconst 0, 1) := by decide +kernel
theorem d_M_areRegisters_11 : decode prog_14_method_44_code 11 = .ok (.iconst 2, 1) := by decide +kernel
theorem d_M_areRegisters_12 : decode prog_14_method_44_code 12 = .ok (.invokestatic 133, 3) := by decide +kernel
theorem d_M_areRegisters_15 : decode prog_14_method_44_code 15 = .ok (.ifCond .eq 12, 3) := by decide +kernel
theorem d_M_areRegisters_18 : decode prog_14_method_44_code 18 = .ok (.iload_n 0, 1) := by decide +kernel
theorem d_M_areRegisters_19 : decode prog_14_method_44_code 19 = .ok (.iload_n 1, 1) := by decide +kernel
theorem d_M_areRegisters_20 : decode prog_14_method_44_code 20 = .ok (.if_icmp .eq 7, 3) := by decide +kernel
theorem d_M_areRegisters_23 : decode prog_14_method_44_code 23 = .ok (.iconst 1, 1) := by decide +kernel
theorem d_M_areRegisters_24 : decode prog_14_method_44_code 24 = .ok (.goto 4, 3) := by decide +kernel
theorem d_M_laid_5 : decode prog_14_method_45_code 5 = .ok (.ifCond .eq 12, 3) := by decide +kernel
theorem d_M_laid_17 : decode prog_14_method_45_code 17 = .ok (.bipush (-2), 2) := by decide +kernel
theorem d_M_laid_19 : decode prog_14_method_45_code 19 = .ok (.ireturn, 1) := by decide +kernel
theorem d_M_laid_8 : decode prog_14_method_45_code 8 = .ok (.iload_n 3, 1) := by decide +kernel
theorem d_M_laid_9 : decode prog_14_method_45_code 9 = .ok (.iconst 0, 1) := by decide +kernel
theorem d_M_laid_10 : decode prog_14_method_45_code 10 = .ok (.iconst 1, 1) := by decide +kernel
theorem d_M_laid_11 : decode prog_14_method_45_code 11 = .ok (.invokestatic 133, 3) := by decide +kernel
theorem d_M_laid_14 : decode prog_14_method_45_code 14 = .ok (.ifCond .ne 6, 3) := by decide +kernel
theorem d_M_laid_20 : decode prog_14_method_45_code 20 = .ok (.aload_n 0, 1) := by decide +kernel
theorem d_M_laid_21 : decode prog_14_method_45_code 21 = .ok (.iload_n 1, 1) := by decide +kernel
theorem d_M_laid_22 : decode prog_14_method_45_code 22 = .ok (.iload_n 2, 1) := by decide +kernel
theorem d_M_laid_23 : decode prog_14_method_45_code 23 = .ok (.invokevirtual 247, 3) := by decide +kernel
theorem d_M_lays_0 : decode prog_14_method_42_code 0 = .ok (.aload_n 0, 1) := by decide +kernel
theorem d_M_lays_1 : decode prog_14_method_42_code 1 = .ok (.iload_n 1, 1) := by decide +kernel
theorem d_M_lays_2 : decode prog_14_method_42_code 2 = .ok (.invokevirtual 229, 3) := by decide +kernel
theorem d_M_knownOf_0 : decode prog_14_method_41_code 0 = .ok (.iconst 0, 1) := by decide +kernel
theorem d_M_knownOf_1 : decode prog_14_method_41_code 1 = .ok (.istore_n 2, 1) := by decide +kernel
theorem d_M_knownOf_2 : decode prog_14_method_41_code 2 = .ok (.iconst 0, 1) := by decide +kernel
theorem d_M_knownOf_3 : decode prog_14_method_41_code 3 = .ok (.istore_n 3, 1) := by decide +kernel
theorem d_M_knownOf_4 : decode prog_14_method_41_code 4 = .ok (.iload_n 3, 1) := by decide +kernel
theorem d_M_knownOf_5 : decode prog_14_method_41_code 5 = .ok (.aload_n 0, 1) := by decide +kernel
theorem d_M_knownOf_6 : decode prog_14_method_41_code 6 = .ok (.getfield 130, 3) := by decide +kernel
theorem d_M_knownOf_9 : decode prog_14_method_41_code 9 = .ok (.if_icmp .ge 35, 3) := by decide +kernel
theorem d_M_knownOf_44 : decode prog_14_method_41_code 44 = .ok (.iload_n 2, 1) := by decide +kernel
theorem d_M_knownOf_45 : decode prog_14_method_41_code 45 = .ok (.ireturn, 1) := by decide +kernel
theorem d_M_knownOf_12 : decode prog_14_method_41_code 12 = .ok (.iload_n 2, 1) := by decide +kernel
theorem d_M_knownOf_13 : decode prog_14_method_41_code 13 = .ok (.aload_n 0, 1) := by decide +kernel
theorem d_M_knownOf_14 : decode prog_14_method_41_code 14 = .ok (.iload_n 3, 1) := by decide +kernel
theorem d_M_knownOf_15 : decode prog_14_method_41_code 15 = .ok (.invokevirtual 151, 3) := by decide +kernel
theorem d_M_knownOf_18 : decode prog_14_method_41_code 18 = .ok (.ifCond .eq 17, 3) := by decide +kernel
theorem d_M_knownOf_21 : decode prog_14_method_41_code 21 = .ok (.aload_n 0, 1) := by decide +kernel
theorem d_M_knownOf_22 : decode prog_14_method_41_code 22 = .ok (.getfield 7, 3) := by decide +kernel
theorem d_M_knownOf_25 : decode prog_14_method_41_code 25 = .ok (.iload_n 3, 1) := by decide +kernel
theorem d_M_knownOf_26 : decode prog_14_method_41_code 26 = .ok (.iaload, 1) := by decide +kernel
theorem d_M_knownOf_27 : decode prog_14_method_41_code 27 = .ok (.iload_n 1, 1) := by decide +kernel
theorem d_M_knownOf_28 : decode prog_14_method_41_code 28 = .ok (.if_icmp .ne 7, 3) := by decide +kernel
theorem d_M_knownOf_31 : decode prog_14_method_41_code 31 = .ok (.iconst 1, 1) := by decide +kernel
theorem d_M_knownOf_32 : decode prog_14_method_41_code 32 = .ok (.goto 4, 3) := by decide +kernel
theorem d_M_knownOf_35 : decode prog_14_method_41_code 35 = .ok (.iconst 0, 1) := by decide +kernel
theorem d_M_knownOf_36 : decode prog_14_method_41_code 36 = .ok (.iadd, 1) := by decide +kernel
theorem d_M_knownOf_37 : decode prog_14_method_41_code 37 = .ok (.istore_n 2, 1) := by decide +kernel
theorem d_M_knownOf_38 : decode prog_14_method_41_code 38 = .ok (.iinc 3 1, 3) := by decide +kernel
theorem d_M_knownOf_41 : decode prog_14_method_41_code 41 = .ok (.goto (-37), 3) := by decide +kernel
theorem d_M_lays_5 : decode prog_14_method_42_code 5 = .ok (.bipush 10, 2) := by decide +kernel
theorem d_M_lays_7 : decode prog_14_method_42_code 7 = .ok (.if_icmp .gt 13, 3) := by decide +kernel
theorem d_M_lays_20 : decode prog_14_method_42_code 20 = .ok (.iconst 0, 1) := by decide +kernel
theorem d_M_lays_21 : decode prog_14_method_42_code 21 = .ok (.ireturn, 1) := by decide +kernel
theorem d_M_lays_10 : decode prog_14_method_42_code 10 = .ok (.aload_n 0, 1) := by decide +kernel
theorem d_M_lays_11 : decode prog_14_method_42_code 11 = .ok (.iload_n 2, 1) := by decide +kernel
theorem d_M_lays_12 : decode prog_14_method_42_code 12 = .ok (.invokevirtual 229, 3) := by decide +kernel
theorem d_M_lays_15 : decode prog_14_method_42_code 15 = .ok (.bipush 10, 2) := by decide +kernel
theorem d_M_lays_17 : decode prog_14_method_42_code 17 = .ok (.if_icmp .le 5, 3) := by decide +kernel
theorem d_M_lays_22 : decode prog_14_method_42_code 22 = .ok (.aload_n 0, 1) := by decide +kernel
theorem d_M_lays_23 : decode prog_14_method_42_code 23 = .ok (.invokevirtual 226, 3) := by decide +kernel
theorem d_M_lays_26 : decode prog_14_method_42_code 26 = .ok (.aload_n 0, 1) := by decide +kernel
theorem d_M_lays_27 : decode prog_14_method_42_code 27 = .ok (.iconst 0, 1) := by decide +kernel
theorem d_M_lays_28 : decode prog_14_method_42_code 28 = .ok (.putfield 232, 3) := by decide +kernel
theorem d_M_lays_31 : decode prog_14_method_42_code 31 = .ok (.aload_n 0, 1) := by decide +kernel
theorem d_M_lays_32 : decode prog_14_method_42_code 32 = .ok (.iconst 0, 1) := by decide +kernel
theorem d_M_lays_33 : decode prog_14_method_42_code 33 = .ok (.putfield 235, 3) := by decide +kernel
theorem d_M_lays_36 : decode prog_14_method_42_code 36 = .ok (.iconst 0, 1) := by decide +kernel
theorem d_M_lays_37 : decode prog_14_method_42_code 37 = .ok (.istore_n 3, 1) := by decide +kernel
theorem d_M_lays_38 : decode prog_14_method_42_code 38 = .ok (.iload_n 3, 1) := by decide +kernel
theorem d_M_lays_39 : decode prog_14_method_42_code 39 = .ok (.aload_n 0, 1) := by decide +kernel
theorem d_M_lays_40 : decode prog_14_method_42_code 40 = .ok (.getfield 130, 3) := by decide +kernel
theorem d_M_lays_43 : decode prog_14_method_42_code 43 = .ok (.if_icmp .ge 88, 3) := by decide +kernel
theorem d_M_lays_131 : decode prog_14_method_42_code 131 = .ok (.iconst 0, 1) := by decide +kernel
theorem d_M_lays_132 : decode prog_14_method_42_code 132 = .ok (.istore_n 3, 1) := by decide +kernel
theorem d_M_lays_46 : decode prog_14_method_42_code 46 = .ok (.aload_n 0, 1) := by decide +kernel
theorem d_M_lays_47 : decode prog_14_method_42_code 47 = .ok (.iload_n 3, 1) := by decide +kernel
theorem d_M_lays_48 : decode prog_14_method_42_code 48 = .ok (.invokevirtual 151, 3) := by decide +kernel
theorem d_M_lays_51 : decode prog_14_method_42_code 51 = .ok (.ifCond .eq 36, 3) := by decide +kernel
theorem d_M_lays_54 : decode prog_14_method_42_code 54 = .ok (.aload_n 0, 1) := by decide +kernel
theorem d_M_lays_55 : decode prog_14_method_42_code 55 = .ok (.getfield 7, 3) := by decide +kernel
theorem d_M_lays_58 : decode prog_14_method_42_code 58 = .ok (.iload_n 3, 1) := by decide +kernel
theorem d_M_lays_59 : decode prog_14_method_42_code 59 = .ok (.iaload, 1) := by decide +kernel
theorem d_M_lays_60 : decode prog_14_method_42_code 60 = .ok (.iload_n 1, 1) := by decide +kernel
theorem d_M_lays_61 : decode prog_14_method_42_code 61 = .ok (.if_icmp .ne 26, 3) := by decide +kernel
theorem d_M_lays_64 : decode prog_14_method_42_code 64 = .ok (.aload_n 0, 1) := by decide +kernel
theorem d_M_lays_65 : decode prog_14_method_42_code 65 = .ok (.getfield 69, 3) := by decide +kernel
theorem d_M_lays_68 : decode prog_14_method_42_code 68 = .ok (.aload_n 0, 1) := by decide +kernel
theorem d_M_lays_69 : decode prog_14_method_42_code 69 = .ok (.getfield 232, 3) := by decide +kernel
theorem d_M_lays_72 : decode prog_14_method_42_code 72 = .ok (.iload_n 3, 1) := by decide +kernel
theorem d_M_lays_73 : decode prog_14_method_42_code 73 = .ok (.iastore, 1) := by decide +kernel
theorem d_M_lays_74 : decode prog_14_method_42_code 74 = .ok (.aload_n 0, 1) := by decide +kernel
theorem d_M_lays_75 : decode prog_14_method_42_code 75 = .ok (.dup, 1) := by decide +kernel
theorem d_M_lays_76 : decode prog_14_method_42_code 76 = .ok (.getfield 232, 3) := by decide +kernel
theorem d_M_lays_79 : decode prog_14_method_42_code 79 = .ok (.iconst 1, 1) := by decide +kernel
theorem d_M_lays_80 : decode prog_14_method_42_code 80 = .ok (.iadd, 1) := by decide +kernel
theorem d_M_lays_81 : decode prog_14_method_42_code 81 = .ok (.putfield 232, 3) := by decide +kernel
theorem d_M_lays_84 : decode prog_14_method_42_code 84 = .ok (.goto 41, 3) := by decide +kernel
theorem d_M_lays_133 : decode prog_14_method_42_code 133 = .ok (.iload_n 3, 1) := by decide +kernel
theorem d_M_lays_134 : decode prog_14_method_42_code 134 = .ok (.aload_n 0, 1) := by decide +kernel
theorem d_M_lays_135 : decode prog_14_method_42_code 135 = .ok (.getfield 232, 3) := by decide +kernel
theorem d_M_lays_138 : decode prog_14_method_42_code 138 = .ok (.if_icmp .ge 92, 3) := by decide +kernel
theorem d_M_lays_230 : decode prog_14_method_42_code 230 = .ok (.aload_n 0, 1) := by decide +kernel
theorem d_M_lays_231 : decode prog_14_method_42_code 231 = .ok (.getfield 232, 3) := by decide +kernel
theorem d_M_lays_234 : decode prog_14_method_42_code 234 = .ok (.istore_n 3, 1) := by decide +kernel
theorem d_M_lays_141 : decode prog_14_method_42_code 141 = .ok (.iconst 0, 1) := by decide +kernel
theorem d_M_lays_142 : decode prog_14_method_42_code 142 = .ok (.istore 4, 2) := by decide +kernel
theorem d_M_lays_87 : decode prog_14_method_42_code 87 = .ok (.aload_n 0, 1) := by decide +kernel
theorem d_M_lays_88 : decode prog_14_method_42_code 88 = .ok (.iload_n 3, 1) := by decide +kernel
theorem d_M_lays_89 : decode prog_14_method_42_code 89 = .ok (.invokevirtual 151, 3) := by decide +kernel
theorem d_M_lays_92 : decode prog_14_method_42_code 92 = .ok (.ifCond .eq 33, 3) := by decide +kernel
theorem d_M_lays_95 : decode prog_14_method_42_code 95 = .ok (.aload_n 0, 1) := by decide +kernel
theorem d_M_lays_96 : decode prog_14_method_42_code 96 = .ok (.getfield 7, 3) := by decide +kernel
theorem d_M_lays_99 : decode prog_14_method_42_code 99 = .ok (.iload_n 3, 1) := by decide +kernel
theorem d_M_lays_100 : decode prog_14_method_42_code 100 = .ok (.iaload, 1) := by decide +kernel
theorem d_M_lays_101 : decode prog_14_method_42_code 101 = .ok (.iload_n 2, 1) := by decide +kernel
theorem d_M_lays_102 : decode prog_14_method_42_code 102 = .ok (.if_icmp .ne 23, 3) := by decide +kernel
theorem d_M_lays_105 : decode prog_14_method_42_code 105 = .ok (.aload_n 0, 1) := by decide +kernel
theorem d_M_lays_106 : decode prog_14_method_42_code 106 = .ok (.getfield 72, 3) := by decide +kernel
theorem d_M_lays_109 : decode prog_14_method_42_code 109 = .ok (.aload_n 0, 1) := by decide +kernel
theorem d_M_lays_110 : decode prog_14_method_42_code 110 = .ok (.getfield 235, 3) := by decide +kernel
theorem d_M_lays_113 : decode prog_14_method_42_code 113 = .ok (.iload_n 3, 1) := by decide +kernel
theorem d_M_lays_114 : decode prog_14_method_42_code 114 = .ok (.iastore, 1) := by decide +kernel
theorem d_M_lays_115 : decode prog_14_method_42_code 115 = .ok (.aload_n 0, 1) := by decide +kernel
theorem d_M_lays_116 : decode prog_14_method_42_code 116 = .ok (.dup, 1) := by decide +kernel
theorem d_M_lays_117 : decode prog_14_method_42_code 117 = .ok (.getfield 235, 3) := by decide +kernel
theorem d_M_lays_120 : decode prog_14_method_42_code 120 = .ok (.iconst 1, 1) := by decide +kernel
theorem d_M_lays_121 : decode prog_14_method_42_code 121 = .ok (.iadd, 1) := by decide +kernel
theorem d_M_lays_122 : decode prog_14_method_42_code 122 = .ok (.putfield 235, 3) := by decide +kernel
theorem d_M_lays_125 : decode prog_14_method_42_code 125 = .ok (.iinc 3 1, 3) := by decide +kernel
theorem d_M_lays_128 : decode prog_14_method_42_code 128 = .ok (.goto (-90), 3) := by decide +kernel
theorem d_M_lays_235 : decode prog_14_method_42_code 235 = .ok (.iload_n 3, 1) := by decide +kernel
theorem d_M_lays_236 : decode prog_14_method_42_code 236 = .ok (.ifCond .lt 179, 3) := by decide +kernel
theorem d_M_lays_415 : decode prog_14_method_42_code 415 = .ok (.aload_n 0, 1) := by decide +kernel
theorem d_M_lays_416 : decode prog_14_method_42_code 416 = .ok (.invokevirtual 238, 3) := by decide +kernel
theorem d_M_follows_0 : decode prog_14_method_43_code 0 = .ok (.iconst 0, 1) := by decide +kernel
theorem d_M_follows_1 : decode prog_14_method_43_code 1 = .ok (.istore_n 1, 1) := by decide +kernel
theorem d_M_follows_2 : decode prog_14_method_43_code 2 = .ok (.aload_n 0, 1) := by decide +kernel
theorem d_M_follows_3 : decode prog_14_method_43_code 3 = .ok (.iconst 0, 1) := by decide +kernel
theorem d_M_follows_4 : decode prog_14_method_43_code 4 = .ok (.putfield 241, 3) := by decide +kernel
theorem d_M_follows_7 : decode prog_14_method_43_code 7 = .ok (.iconst 0, 1) := by decide +kernel
theorem d_M_follows_8 : decode prog_14_method_43_code 8 = .ok (.istore_n 2, 1) := by decide +kernel
theorem d_M_follows_9 : decode prog_14_method_43_code 9 = .ok (.iload_n 2, 1) := by decide +kernel
theorem d_M_follows_10 : decode prog_14_method_43_code 10 = .ok (.aload_n 0, 1) := by decide +kernel
theorem d_M_follows_11 : decode prog_14_method_43_code 11 = .ok (.getfield 232, 3) := by decide +kernel
theorem d_M_follows_14 : decode prog_14_method_43_code 14 = .ok (.if_icmp .ge 177, 3) := by decide +kernel
theorem d_M_follows_191 : decode prog_14_method_43_code 191 = .ok (.return_, 1) := by decide +kernel
theorem d_M_follows_17 : decode prog_14_method_43_code 17 = .ok (.aload_n 0, 1) := by decide +kernel
theorem d_M_follows_18 : decode prog_14_method_43_code 18 = .ok (.getfield 81, 3) := by decide +kernel
theorem d_M_follows_21 : decode prog_14_method_43_code 21 = .ok (.iload_n 2, 1) := by decide +kernel
theorem d_M_follows_22 : decode prog_14_method_43_code 22 = .ok (.iconst (-1), 1) := by decide +kernel
theorem d_M_follows_23 : decode prog_14_method_43_code 23 = .ok (.iastore, 1) := by decide +kernel
theorem d_M_follows_24 : decode prog_14_method_43_code 24 = .ok (.aload_n 0, 1) := by decide +kernel
theorem d_M_follows_25 : decode prog_14_method_43_code 25 = .ok (.getfield 235, 3) := by decide +kernel
theorem d_M_follows_28 : decode prog_14_method_43_code 28 = .ok (.iconst 1, 1) := by decide +kernel
theorem d_M_follows_29 : decode prog_14_method_43_code 29 = .ok (.isub, 1) := by decide +kernel
theorem d_M_follows_30 : decode prog_14_method_43_code 30 = .ok (.istore_n 3, 1) := by decide +kernel
theorem d_M_follows_31 : decode prog_14_method_43_code 31 = .ok (.iload_n 3, 1) := by decide +kernel
theorem d_M_follows_32 : decode prog_14_method_43_code 32 = .ok (.ifCond .lt 104, 3) := by decide +kernel
theorem d_M_follows_136 : decode prog_14_method_43_code 136 = .ok (.iload_n 1, 1) := by decide +kernel
theorem d_M_follows_137 : decode prog_14_method_43_code 137 = .ok (.aload_n 0, 1) := by decide +kernel
theorem d_M_follows_138 : decode prog_14_method_43_code 138 = .ok (.getfield 81, 3) := by decide +kernel
theorem d_M_follows_141 : decode prog_14_method_43_code 141 = .ok (.iload_n 2, 1) := by decide +kernel
theorem d_M_follows_142 : decode prog_14_method_43_code 142 = .ok (.iaload, 1) := by decide +kernel
theorem d_M_follows_143 : decode prog_14_method_43_code 143 = .ok (.iconst (-1), 1) := by decide +kernel
theorem d_M_follows_144 : decode prog_14_method_43_code 144 = .ok (.if_icmp .ne 7, 3) := by decide +kernel
theorem d_M_follows_147 : decode prog_14_method_43_code 147 = .ok (.iconst 0, 1) := by decide +kernel
theorem d_M_follows_148 : decode prog_14_method_43_code 148 = .ok (.goto 11, 3) := by decide +kernel
theorem d_M_follows_151 : decode prog_14_method_43_code 151 = .ok (.iconst 1, 1) := by decide +kernel
theorem d_M_follows_152 : decode prog_14_method_43_code 152 = .ok (.aload_n 0, 1) := by decide +kernel
theorem d_M_follows_153 : decode prog_14_method_43_code 153 = .ok (.getfield 81, 3) := by decide +kernel
theorem d_M_follows_156 : decode prog_14_method_43_code 156 = .ok (.iload_n 2, 1) := by decide +kernel
theorem d_M_follows_157 : decode prog_14_method_43_code 157 = .ok (.iaload, 1) := by decide +kernel
theorem d_M_follows_158 : decode prog_14_method_43_code 158 = .ok (.ishl, 1) := by decide +kernel
theorem d_M_follows_35 : decode prog_14_method_43_code 35 = .ok (.aload_n 0, 1) := by decide +kernel
theorem d_M_follows_36 : decode prog_14_method_43_code 36 = .ok (.getfield 75, 3) := by decide +kernel
theorem d_M_follows_39 : decode prog_14_method_43_code 39 = .ok (.bipush 10, 2) := by decide +kernel
theorem d_M_follows_41 : decode prog_14_method_43_code 41 = .ok (.iload_n 2, 1) := by decide +kernel
theorem d_M_follows_42 : decode prog_14_method_43_code 42 = .ok (.imul, 1) := by decide +kernel
theorem d_M_follows_43 : decode prog_14_method_43_code 43 = .ok (.iload_n 3, 1) := by decide +kernel
theorem d_M_follows_44 : decode prog_14_method_43_code 44 = .ok (.iadd, 1) := by decide +kernel
theorem d_M_follows_45 : decode prog_14_method_43_code 45 = .ok (.iaload, 1) := by decide +kernel
theorem d_M_follows_46 : decode prog_14_method_43_code 46 = .ok (.ifCond .le 15, 3) := by decide +kernel
theorem d_M_follows_49 : decode prog_14_method_43_code 49 = .ok (.iload_n 1, 1) := by decide +kernel
theorem d_M_follows_50 : decode prog_14_method_43_code 50 = .ok (.iload_n 3, 1) := by decide +kernel
theorem d_M_follows_51 : decode prog_14_method_43_code 51 = .ok (.ishr, 1) := by decide +kernel
theorem d_M_follows_52 : decode prog_14_method_43_code 52 = .ok (.iconst 1, 1) := by decide +kernel
theorem d_M_follows_53 : decode prog_14_method_43_code 53 = .ok (.iand, 1) := by decide +kernel
theorem d_M_follows_54 : decode prog_14_method_43_code 54 = .ok (.ifCond .ne 7, 3) := by decide +kernel
theorem d_M_follows_57 : decode prog_14_method_43_code 57 = .ok (.iconst 1, 1) := by decide +kernel
theorem d_M_follows_58 : decode prog_14_method_43_code 58 = .ok (.goto 4, 3) := by decide +kernel
theorem d_M_follows_159 : decode prog_14_method_43_code 159 = .ok (.ior, 1) := by decide +kernel
theorem d_M_follows_160 : decode prog_14_method_43_code 160 = .ok (.istore_n 1, 1) := by decide +kernel
theorem d_M_follows_161 : decode prog_14_method_43_code 161 = .ok (.aload_n 0, 1) := by decide +kernel
theorem d_M_follows_162 : decode prog_14_method_43_code 162 = .ok (.dup, 1) := by decide +kernel
theorem d_M_follows_163 : decode prog_14_method_43_code 163 = .ok (.getfield 241, 3) := by decide +kernel
theorem d_M_follows_166 : decode prog_14_method_43_code 166 = .ok (.aload_n 0, 1) := by decide +kernel
theorem d_M_follows_167 : decode prog_14_method_43_code 167 = .ok (.getfield 81, 3) := by decide +kernel
theorem d_M_follows_170 : decode prog_14_method_43_code 170 = .ok (.iload_n 2, 1) := by decide +kernel
theorem d_M_follows_171 : decode prog_14_method_43_code 171 = .ok (.iaload, 1) := by decide +kernel
theorem d_M_follows_172 : decode prog_14_method_43_code 172 = .ok (.iconst (-1), 1) := by decide +kernel
theorem d_M_follows_173 : decode prog_14_method_43_code 173 = .ok (.if_icmp .ne 7, 3) := by decide +kernel
theorem d_M_follows_176 : decode prog_14_method_43_code 176 = .ok (.iconst 0, 1) := by decide +kernel
theorem d_M_follows_177 : decode prog_14_method_43_code 177 = .ok (.goto 4, 3) := by decide +kernel
theorem d_M_follows_180 : decode prog_14_method_43_code 180 = .ok (.iconst 1, 1) := by decide +kernel
theorem d_M_follows_61 : decode prog_14_method_43_code 61 = .ok (.iconst 0, 1) := by decide +kernel
theorem d_M_follows_62 : decode prog_14_method_43_code 62 = .ok (.istore 4, 2) := by decide +kernel
theorem d_M_follows_64 : decode prog_14_method_43_code 64 = .ok (.aload_n 0, 1) := by decide +kernel
theorem d_M_follows_65 : decode prog_14_method_43_code 65 = .ok (.getfield 81, 3) := by decide +kernel
theorem d_M_follows_68 : decode prog_14_method_43_code 68 = .ok (.iload_n 2, 1) := by decide +kernel
theorem d_M_follows_69 : decode prog_14_method_43_code 69 = .ok (.iload 4, 2) := by decide +kernel
theorem d_M_follows_71 : decode prog_14_method_43_code 71 = .ok (.ifCond .eq 52, 3) := by decide +kernel
theorem d_M_follows_74 : decode prog_14_method_43_code 74 = .ok (.aload_n 0, 1) := by decide +kernel
theorem d_M_follows_75 : decode prog_14_method_43_code 75 = .ok (.getfield 75, 3) := by decide +kernel
theorem d_M_follows_78 : decode prog_14_method_43_code 78 = .ok (.bipush 10, 2) := by decide +kernel
theorem d_M_follows_80 : decode prog_14_method_43_code 80 = .ok (.iload_n 2, 1) := by decide +kernel
theorem d_M_follows_81 : decode prog_14_method_43_code 81 = .ok (.imul, 1) := by decide +kernel
theorem d_M_follows_82 : decode prog_14_method_43_code 82 = .ok (.iload_n 3, 1) := by decide +kernel
theorem d_M_follows_83 : decode prog_14_method_43_code 83 = .ok (.iadd, 1) := by decide +kernel
theorem d_M_follows_84 : decode prog_14_method_43_code 84 = .ok (.iaload, 1) := by decide +kernel
theorem d_M_follows_85 : decode prog_14_method_43_code 85 = .ok (.aload_n 0, 1) := by decide +kernel
theorem d_M_follows_86 : decode prog_14_method_43_code 86 = .ok (.getfield 78, 3) := by decide +kernel
theorem d_M_follows_89 : decode prog_14_method_43_code 89 = .ok (.sipush 1024, 3) := by decide +kernel
theorem d_M_follows_92 : decode prog_14_method_43_code 92 = .ok (.iload_n 2, 1) := by decide +kernel
theorem d_M_follows_93 : decode prog_14_method_43_code 93 = .ok (.iconst 1, 1) := by decide +kernel
theorem d_M_follows_94 : decode prog_14_method_43_code 94 = .ok (.iadd, 1) := by decide +kernel
theorem d_M_follows_95 : decode prog_14_method_43_code 95 = .ok (.imul, 1) := by decide +kernel
theorem d_M_follows_96 : decode prog_14_method_43_code 96 = .ok (.iload_n 1, 1) := by decide +kernel
theorem d_M_follows_97 : decode prog_14_method_43_code 97 = .ok (.iconst 1, 1) := by decide +kernel
theorem d_M_follows_98 : decode prog_14_method_43_code 98 = .ok (.iload_n 3, 1) := by decide +kernel
theorem d_M_follows_99 : decode prog_14_method_43_code 99 = .ok (.ishl, 1) := by decide +kernel
theorem d_M_follows_100 : decode prog_14_method_43_code 100 = .ok (.ior, 1) := by decide +kernel
theorem d_M_follows_101 : decode prog_14_method_43_code 101 = .ok (.iadd, 1) := by decide +kernel
theorem d_M_follows_102 : decode prog_14_method_43_code 102 = .ok (.iaload, 1) := by decide +kernel
theorem d_M_follows_103 : decode prog_14_method_43_code 103 = .ok (.iadd, 1) := by decide +kernel
theorem d_M_follows_104 : decode prog_14_method_43_code 104 = .ok (.aload_n 0, 1) := by decide +kernel
theorem d_M_follows_105 : decode prog_14_method_43_code 105 = .ok (.getfield 78, 3) := by decide +kernel
theorem d_M_follows_108 : decode prog_14_method_43_code 108 = .ok (.sipush 1024, 3) := by decide +kernel
theorem d_M_follows_111 : decode prog_14_method_43_code 111 = .ok (.iload_n 2, 1) := by decide +kernel
theorem d_M_follows_112 : decode prog_14_method_43_code 112 = .ok (.imul, 1) := by decide +kernel
theorem d_M_follows_113 : decode prog_14_method_43_code 113 = .ok (.iload_n 1, 1) := by decide +kernel
theorem d_M_follows_114 : decode prog_14_method_43_code 114 = .ok (.iadd, 1) := by decide +kernel
theorem d_M_follows_115 : decode prog_14_method_43_code 115 = .ok (.iaload, 1) := by decide +kernel
theorem d_M_follows_116 : decode prog_14_method_43_code 116 = .ok (.if_icmp .ne 7, 3) := by decide +kernel
theorem d_M_follows_119 : decode prog_14_method_43_code 119 = .ok (.iload_n 3, 1) := by decide +kernel
theorem d_M_follows_120 : decode prog_14_method_43_code 120 = .ok (.goto 9, 3) := by decide +kernel
theorem d_M_follows_181 : decode prog_14_method_43_code 181 = .ok (.iadd, 1) := by decide +kernel
theorem d_M_follows_182 : decode prog_14_method_43_code 182 = .ok (.putfield 241, 3) := by decide +kernel
theorem d_M_follows_185 : decode prog_14_method_43_code 185 = .ok (.iinc 2 1, 3) := by decide +kernel
theorem d_M_follows_188 : decode prog_14_method_43_code 188 = .ok (.goto (-179), 3) := by decide +kernel
theorem d_M_follows_123 : decode prog_14_method_43_code 123 = .ok (.aload_n 0, 1) := by decide +kernel
theorem d_M_follows_124 : decode prog_14_method_43_code 124 = .ok (.getfield 81, 3) := by decide +kernel
theorem d_M_follows_127 : decode prog_14_method_43_code 127 = .ok (.iload_n 2, 1) := by decide +kernel
theorem d_M_follows_128 : decode prog_14_method_43_code 128 = .ok (.iaload, 1) := by decide +kernel
theorem d_M_follows_129 : decode prog_14_method_43_code 129 = .ok (.iastore, 1) := by decide +kernel
theorem d_M_follows_130 : decode prog_14_method_43_code 130 = .ok (.iinc 3 (-1), 3) := by decide +kernel
theorem d_M_follows_133 : decode prog_14_method_43_code 133 = .ok (.goto (-102), 3) := by decide +kernel
theorem d_M_lays_419 : decode prog_14_method_42_code 419 = .ok (.iconst 1, 1) := by decide +kernel
theorem d_M_lays_420 : decode prog_14_method_42_code 420 = .ok (.ireturn, 1) := by decide +kernel
theorem d_M_lays_239 : decode prog_14_method_42_code 239 = .ok (.iconst 0, 1) := by decide +kernel
theorem d_M_lays_240 : decode prog_14_method_42_code 240 = .ok (.istore 4, 2) := by decide +kernel
theorem d_M_lays_144 : decode prog_14_method_42_code 144 = .ok (.iload 4, 2) := by decide +kernel
theorem d_M_lays_146 : decode prog_14_method_42_code 146 = .ok (.aload_n 0, 1) := by decide +kernel
theorem d_M_lays_147 : decode prog_14_method_42_code 147 = .ok (.getfield 235, 3) := by decide +kernel
theorem d_M_lays_150 : decode prog_14_method_42_code 150 = .ok (.if_icmp .ge 74, 3) := by decide +kernel
theorem d_M_lays_224 : decode prog_14_method_42_code 224 = .ok (.iinc 3 1, 3) := by decide +kernel
theorem d_M_lays_227 : decode prog_14_method_42_code 227 = .ok (.goto (-94), 3) := by decide +kernel
theorem d_M_lays_153 : decode prog_14_method_42_code 153 = .ok (.aload_n 0, 1) := by decide +kernel
theorem d_M_lays_154 : decode prog_14_method_42_code 154 = .ok (.getfield 75, 3) := by decide +kernel
theorem d_M_lays_157 : decode prog_14_method_42_code 157 = .ok (.bipush 10, 2) := by decide +kernel
theorem d_M_lays_159 : decode prog_14_method_42_code 159 = .ok (.iload_n 3, 1) := by decide +kernel
theorem d_M_lays_160 : decode prog_14_method_42_code 160 = .ok (.imul, 1) := by decide +kernel
theorem d_M_lays_161 : decode prog_14_method_42_code 161 = .ok (.iload 4, 2) := by decide +kernel
theorem d_M_lays_163 : decode prog_14_method_42_code 163 = .ok (.iadd, 1) := by decide +kernel
theorem d_M_lays_164 : decode prog_14_method_42_code 164 = .ok (.aload_n 0, 1) := by decide +kernel
theorem d_M_lays_165 : decode prog_14_method_42_code 165 = .ok (.getfield 65, 3) := by decide +kernel
theorem d_M_lays_168 : decode prog_14_method_42_code 168 = .ok (.bipush 36, 2) := by decide +kernel
theorem d_M_lays_170 : decode prog_14_method_42_code 170 = .ok (.aload_n 0, 1) := by decide +kernel
theorem d_M_lays_171 : decode prog_14_method_42_code 171 = .ok (.getfield 69, 3) := by decide +kernel
theorem d_M_lays_174 : decode prog_14_method_42_code 174 = .ok (.iload_n 3, 1) := by decide +kernel
theorem d_M_lays_175 : decode prog_14_method_42_code 175 = .ok (.iaload, 1) := by decide +kernel
theorem d_M_lays_176 : decode prog_14_method_42_code 176 = .ok (.imul, 1) := by decide +kernel
theorem d_M_lays_177 : decode prog_14_method_42_code 177 = .ok (.aload_n 0, 1) := by decide +kernel
theorem d_M_lays_178 : decode prog_14_method_42_code 178 = .ok (.getfield 72, 3) := by decide +kernel
theorem d_M_lays_181 : decode prog_14_method_42_code 181 = .ok (.iload 4, 2) := by decide +kernel
theorem d_M_lays_183 : decode prog_14_method_42_code 183 = .ok (.iaload, 1) := by decide +kernel
theorem d_M_lays_184 : decode prog_14_method_42_code 184 = .ok (.iadd, 1) := by decide +kernel
theorem d_M_lays_185 : decode prog_14_method_42_code 185 = .ok (.baload, 1) := by decide +kernel
theorem d_M_lays_186 : decode prog_14_method_42_code 186 = .ok (.ifCond .eq 30, 3) := by decide +kernel
theorem d_M_lays_216 : decode prog_14_method_42_code 216 = .ok (.iconst 0, 1) := by decide +kernel
theorem d_M_lays_189 : decode prog_14_method_42_code 189 = .ok (.aload_n 0, 1) := by decide +kernel
theorem d_M_lays_190 : decode prog_14_method_42_code 190 = .ok (.aload_n 0, 1) := by decide +kernel
theorem d_M_lays_191 : decode prog_14_method_42_code 191 = .ok (.getfield 69, 3) := by decide +kernel
theorem d_M_lays_194 : decode prog_14_method_42_code 194 = .ok (.iload_n 3, 1) := by decide +kernel
theorem d_M_lays_195 : decode prog_14_method_42_code 195 = .ok (.iaload, 1) := by decide +kernel
theorem d_M_lays_196 : decode prog_14_method_42_code 196 = .ok (.aload_n 0, 1) := by decide +kernel
theorem d_M_lays_197 : decode prog_14_method_42_code 197 = .ok (.getfield 72, 3) := by decide +kernel
theorem d_M_lays_200 : decode prog_14_method_42_code 200 = .ok (.iload 4, 2) := by decide +kernel
theorem d_M_lays_202 : decode prog_14_method_42_code 202 = .ok (.iaload, 1) := by decide +kernel
theorem d_M_lays_203 : decode prog_14_method_42_code 203 = .ok (.invokevirtual 201, 3) := by decide +kernel
theorem d_M_lays_206 : decode prog_14_method_42_code 206 = .ok (.aload_n 0, 1) := by decide +kernel
theorem d_M_lays_207 : decode prog_14_method_42_code 207 = .ok (.getfield 62, 3) := by decide +kernel
theorem d_M_lays_210 : decode prog_14_method_42_code 210 = .ok (.isub, 1) := by decide +kernel
theorem d_M_lays_211 : decode prog_14_method_42_code 211 = .ok (.iconst 1, 1) := by decide +kernel
theorem d_M_lays_212 : decode prog_14_method_42_code 212 = .ok (.iadd, 1) := by decide +kernel
theorem d_M_lays_213 : decode prog_14_method_42_code 213 = .ok (.goto 4, 3) := by decide +kernel
theorem d_M_lays_242 : decode prog_14_method_42_code 242 = .ok (.iload 4, 2) := by decide +kernel
theorem d_M_lays_244 : decode prog_14_method_42_code 244 = .ok (.iconst 1, 1) := by decide +kernel
theorem d_M_lays_245 : decode prog_14_method_42_code 245 = .ok (.aload_n 0, 1) := by decide +kernel
theorem d_M_lays_246 : decode prog_14_method_42_code 246 = .ok (.getfield 235, 3) := by decide +kernel
theorem d_M_lays_249 : decode prog_14_method_42_code 249 = .ok (.ishl, 1) := by decide +kernel
theorem d_M_lays_250 : decode prog_14_method_42_code 250 = .ok (.if_icmp .ge 159, 3) := by decide +kernel
theorem d_M_lays_409 : decode prog_14_method_42_code 409 = .ok (.iinc 3 (-1), 3) := by decide +kernel
theorem d_M_lays_412 : decode prog_14_method_42_code 412 = .ok (.goto (-177), 3) := by decide +kernel
theorem d_M_lays_253 : decode prog_14_method_42_code 253 = .ok (.iload_n 3, 1) := by decide +kernel
theorem d_M_lays_254 : decode prog_14_method_42_code 254 = .ok (.aload_n 0, 1) := by decide +kernel
theorem d_M_lays_255 : decode prog_14_method_42_code 255 = .ok (.getfield 232, 3) := by decide +kernel
theorem d_M_lays_258 : decode prog_14_method_42_code 258 = .ok (.if_icmp .ne 7, 3) := by decide +kernel
theorem d_M_lays_261 : decode prog_14_method_42_code 261 = .ok (.iconst 0, 1) := by decide +kernel
theorem d_M_lays_262 : decode prog_14_method_42_code 262 = .ok (.goto 18, 3) := by decide +kernel
theorem d_M_lays_265 : decode prog_14_method_42_code 265 = .ok (.aload_n 0, 1) := by decide +kernel
theorem d_M_lays_266 : decode prog_14_method_42_code 266 = .ok (.getfield 78, 3) := by decide +kernel
theorem d_M_lays_269 : decode prog_14_method_42_code 269 = .ok (.sipush 1024, 3) := by decide +kernel
theorem d_M_lays_272 : decode prog_14_method_42_code 272 = .ok (.iload_n 3, 1) := by decide +kernel
theorem d_M_lays_273 : decode prog_14_method_42_code 273 = .ok (.iconst 1, 1) := by decide +kernel
theorem d_M_lays_274 : decode prog_14_method_42_code 274 = .ok (.iadd, 1) := by decide +kernel
theorem d_M_lays_275 : decode prog_14_method_42_code 275 = .ok (.imul, 1) := by decide +kernel
theorem d_M_lays_276 : decode prog_14_method_42_code 276 = .ok (.iload 4, 2) := by decide +kernel
theorem d_M_lays_278 : decode prog_14_method_42_code 278 = .ok (.iadd, 1) := by decide +kernel
theorem d_M_lays_279 : decode prog_14_method_42_code 279 = .ok (.iaload, 1) := by decide +kernel
theorem d_M_lays_217 : decode prog_14_method_42_code 217 = .ok (.iastore, 1) := by decide +kernel
theorem d_M_lays_218 : decode prog_14_method_42_code 218 = .ok (.iinc 4 1, 3) := by decide +kernel
theorem d_M_lays_221 : decode prog_14_method_42_code 221 = .ok (.goto (-77), 3) := by decide +kernel
theorem d_M_lays_280 : decode prog_14_method_42_code 280 = .ok (.istore 5, 2) := by decide +kernel
theorem d_M_lays_282 : decode prog_14_method_42_code 282 = .ok (.iconst 0, 1) := by decide +kernel
theorem d_M_lays_283 : decode prog_14_method_42_code 283 = .ok (.istore 6, 2) := by decide +kernel
theorem d_M_lays_285 : decode prog_14_method_42_code 285 = .ok (.iload 6, 2) := by decide +kernel
theorem d_M_lays_287 : decode prog_14_method_42_code 287 = .ok (.aload_n 0, 1) := by decide +kernel
theorem d_M_lays_288 : decode prog_14_method_42_code 288 = .ok (.getfield 235, 3) := by decide +kernel
theorem d_M_lays_291 : decode prog_14_method_42_code 291 = .ok (.if_icmp .ge 97, 3) := by decide +kernel
theorem d_M_lays_294 : decode prog_14_method_42_code 294 = .ok (.iload_n 3, 1) := by decide +kernel
theorem d_M_lays_295 : decode prog_14_method_42_code 295 = .ok (.aload_n 0, 1) := by decide +kernel
theorem d_M_lays_296 : decode prog_14_method_42_code 296 = .ok (.getfield 232, 3) := by decide +kernel
theorem d_M_lays_299 : decode prog_14_method_42_code 299 = .ok (.if_icmp .ge 89, 3) := by decide +kernel
theorem d_M_lays_302 : decode prog_14_method_42_code 302 = .ok (.aload_n 0, 1) := by decide +kernel
theorem d_M_lays_303 : decode prog_14_method_42_code 303 = .ok (.getfield 75, 3) := by decide +kernel
theorem d_M_lays_306 : decode prog_14_method_42_code 306 = .ok (.bipush 10, 2) := by decide +kernel
theorem d_M_lays_308 : decode prog_14_method_42_code 308 = .ok (.iload_n 3, 1) := by decide +kernel
theorem d_M_lays_309 : decode prog_14_method_42_code 309 = .ok (.imul, 1) := by decide +kernel
theorem d_M_lays_310 : decode prog_14_method_42_code 310 = .ok (.iload 6, 2) := by decide +kernel
theorem d_M_lays_312 : decode prog_14_method_42_code 312 = .ok (.iadd, 1) := by decide +kernel
theorem d_M_lays_313 : decode prog_14_method_42_code 313 = .ok (.iaload, 1) := by decide +kernel
theorem d_M_lays_314 : decode prog_14_method_42_code 314 = .ok (.ifCond .le 49, 3) := by decide +kernel
theorem d_M_lays_317 : decode prog_14_method_42_code 317 = .ok (.iload 4, 2) := by decide +kernel
theorem d_M_lays_319 : decode prog_14_method_42_code 319 = .ok (.iload 6, 2) := by decide +kernel
theorem d_M_lays_321 : decode prog_14_method_42_code 321 = .ok (.ishr, 1) := by decide +kernel
theorem d_M_lays_322 : decode prog_14_method_42_code 322 = .ok (.iconst 1, 1) := by decide +kernel
theorem d_M_lays_323 : decode prog_14_method_42_code 323 = .ok (.iand, 1) := by decide +kernel
theorem d_M_lays_324 : decode prog_14_method_42_code 324 = .ok (.ifCond .ne 39, 3) := by decide +kernel
theorem d_M_lays_327 : decode prog_14_method_42_code 327 = .ok (.aload_n 0, 1) := by decide +kernel
theorem d_M_lays_328 : decode prog_14_method_42_code 328 = .ok (.getfield 75, 3) := by decide +kernel
theorem d_M_lays_331 : decode prog_14_method_42_code 331 = .ok (.bipush 10, 2) := by decide +kernel
theorem d_M_lays_333 : decode prog_14_method_42_code 333 = .ok (.iload_n 3, 1) := by decide +kernel
theorem d_M_lays_334 : decode prog_14_method_42_code 334 = .ok (.imul, 1) := by decide +kernel
theorem d_M_lays_335 : decode prog_14_method_42_code 335 = .ok (.iload 6, 2) := by decide +kernel
theorem d_M_lays_337 : decode prog_14_method_42_code 337 = .ok (.iadd, 1) := by decide +kernel
theorem d_M_lays_338 : decode prog_14_method_42_code 338 = .ok (.iaload, 1) := by decide +kernel
theorem d_M_lays_339 : decode prog_14_method_42_code 339 = .ok (.aload_n 0, 1) := by decide +kernel
theorem d_M_lays_340 : decode prog_14_method_42_code 340 = .ok (.getfield 78, 3) := by decide +kernel
theorem d_M_lays_343 : decode prog_14_method_42_code 343 = .ok (.sipush 1024, 3) := by decide +kernel
theorem d_M_lays_346 : decode prog_14_method_42_code 346 = .ok (.iload_n 3, 1) := by decide +kernel
theorem d_M_lays_347 : decode prog_14_method_42_code 347 = .ok (.iconst 1, 1) := by decide +kernel
theorem d_M_lays_348 : decode prog_14_method_42_code 348 = .ok (.iadd, 1) := by decide +kernel
theorem d_M_lays_349 : decode prog_14_method_42_code 349 = .ok (.imul, 1) := by decide +kernel
theorem d_M_lays_350 : decode prog_14_method_42_code 350 = .ok (.iload 4, 2) := by decide +kernel
theorem d_M_lays_352 : decode prog_14_method_42_code 352 = .ok (.iconst 1, 1) := by decide +kernel
theorem d_M_lays_353 : decode prog_14_method_42_code 353 = .ok (.iload 6, 2) := by decide +kernel
theorem d_M_lays_355 : decode prog_14_method_42_code 355 = .ok (.ishl, 1) := by decide +kernel
theorem d_M_lays_356 : decode prog_14_method_42_code 356 = .ok (.ior, 1) := by decide +kernel
theorem d_M_lays_357 : decode prog_14_method_42_code 357 = .ok (.iadd, 1) := by decide +kernel
theorem d_M_lays_358 : decode prog_14_method_42_code 358 = .ok (.iaload, 1) := by decide +kernel
theorem d_M_lays_359 : decode prog_14_method_42_code 359 = .ok (.iadd, 1) := by decide +kernel
theorem d_M_lays_360 : decode prog_14_method_42_code 360 = .ok (.goto 4, 3) := by decide +kernel
theorem d_M_lays_388 : decode prog_14_method_42_code 388 = .ok (.aload_n 0, 1) := by decide +kernel
theorem d_M_lays_389 : decode prog_14_method_42_code 389 = .ok (.getfield 78, 3) := by decide +kernel
theorem d_M_lays_392 : decode prog_14_method_42_code 392 = .ok (.sipush 1024, 3) := by decide +kernel
theorem d_M_lays_395 : decode prog_14_method_42_code 395 = .ok (.iload_n 3, 1) := by decide +kernel
theorem d_M_lays_396 : decode prog_14_method_42_code 396 = .ok (.imul, 1) := by decide +kernel
theorem d_M_lays_397 : decode prog_14_method_42_code 397 = .ok (.iload 4, 2) := by decide +kernel
theorem d_M_lays_399 : decode prog_14_method_42_code 399 = .ok (.iadd, 1) := by decide +kernel
theorem d_M_lays_400 : decode prog_14_method_42_code 400 = .ok (.iload 5, 2) := by decide +kernel
theorem d_M_lays_402 : decode prog_14_method_42_code 402 = .ok (.iastore, 1) := by decide +kernel
theorem d_M_lays_403 : decode prog_14_method_42_code 403 = .ok (.iinc 4 1, 3) := by decide +kernel
theorem d_M_lays_406 : decode prog_14_method_42_code 406 = .ok (.goto (-164), 3) := by decide +kernel
theorem d_M_lays_363 : decode prog_14_method_42_code 363 = .ok (.iconst 0, 1) := by decide +kernel
theorem d_M_lays_364 : decode prog_14_method_42_code 364 = .ok (.istore 7, 2) := by decide +kernel
theorem d_M_lays_366 : decode prog_14_method_42_code 366 = .ok (.iload 7, 2) := by decide +kernel
theorem d_M_lays_368 : decode prog_14_method_42_code 368 = .ok (.iload 5, 2) := by decide +kernel
theorem d_M_lays_370 : decode prog_14_method_42_code 370 = .ok (.if_icmp .le 8, 3) := by decide +kernel
theorem d_M_lays_378 : decode prog_14_method_42_code 378 = .ok (.iload 5, 2) := by decide +kernel
theorem d_M_lays_373 : decode prog_14_method_42_code 373 = .ok (.iload 7, 2) := by decide +kernel
theorem d_M_lays_375 : decode prog_14_method_42_code 375 = .ok (.goto 5, 3) := by decide +kernel
theorem d_M_lays_380 : decode prog_14_method_42_code 380 = .ok (.istore 5, 2) := by decide +kernel
theorem d_M_lays_382 : decode prog_14_method_42_code 382 = .ok (.iinc 6 1, 3) := by decide +kernel
theorem d_M_lays_385 : decode prog_14_method_42_code 385 = .ok (.goto (-100), 3) := by decide +kernel
theorem d_M_laid_26 : decode prog_14_method_45_code 26 = .ok (.ifCond .ne 8, 3) := by decide +kernel
theorem d_M_laid_29 : decode prog_14_method_45_code 29 = .ok (.bipush (-3), 2) := by decide +kernel
theorem d_M_laid_31 : decode prog_14_method_45_code 31 = .ok (.goto 20, 3) := by decide +kernel
theorem d_M_laid_51 : decode prog_14_method_45_code 51 = .ok (.ireturn, 1) := by decide +kernel
theorem d_M_laid_34 : decode prog_14_method_45_code 34 = .ok (.iload_n 3, 1) := by decide +kernel
theorem d_M_laid_35 : decode prog_14_method_45_code 35 = .ok (.ifCond .ne 10, 3) := by decide +kernel
theorem d_M_laid_38 : decode prog_14_method_45_code 38 = .ok (.aload_n 0, 1) := by decide +kernel
theorem d_M_laid_39 : decode prog_14_method_45_code 39 = .ok (.getfield 241, 3) := by decide +kernel
theorem d_M_laid_42 : decode prog_14_method_45_code 42 = .ok (.goto 9, 3) := by decide +kernel
theorem d_M_laid_45 : decode prog_14_method_45_code 45 = .ok (.aload_n 0, 1) := by decide +kernel
theorem d_M_laid_46 : decode prog_14_method_45_code 46 = .ok (.getfield 78, 3) := by decide +kernel
theorem d_M_laid_49 : decode prog_14_method_45_code 49 = .ok (.iconst 0, 1) := by decide +kernel
theorem d_M_laid_50 : decode prog_14_method_45_code 50 = .ok (.iaload, 1) := by decide +kernel
theorem d_M_mate_0 : decode prog_14_method_46_code 0 = .ok (.aload_n 0, 1) := by decide +kernel
theorem d_M_mate_1 : decode prog_14_method_46_code 1 = .ok (.iload_n 1, 1) := by decide +kernel
theorem d_M_mate_2 : decode prog_14_method_46_code 2 = .ok (.invokevirtual 148, 3) := by decide +kernel
theorem d_M_mate_5 : decode prog_14_method_46_code 5 = .ok (.ifCond .eq 24, 3) := by decide +kernel
theorem d_M_mate_29 : decode prog_14_method_46_code 29 = .ok (.bipush (-2), 2) := by decide +kernel
theorem d_M_mate_31 : decode prog_14_method_46_code 31 = .ok (.ireturn, 1) := by decide +kernel
theorem d_M_mate_8 : decode prog_14_method_46_code 8 = .ok (.aload_n 0, 1) := by decide +kernel
theorem d_M_mate_9 : decode prog_14_method_46_code 9 = .ok (.iload_n 1, 1) := by decide +kernel
theorem d_M_mate_10 : decode prog_14_method_46_code 10 = .ok (.invokevirtual 151, 3) := by decide +kernel
theorem d_M_mate_13 : decode prog_14_method_46_code 13 = .ok (.ifCond .eq 16, 3) := by decide +kernel
theorem d_M_mate_16 : decode prog_14_method_46_code 16 = .ok (.aload_n 0, 1) := by decide +kernel
theorem d_M_mate_17 : decode prog_14_method_46_code 17 = .ok (.getfield 7, 3) := by decide +kernel
theorem d_M_mate_20 : decode prog_14_method_46_code 20 = .ok (.iload_n 1, 1) := by decide +kernel
theorem d_M_mate_21 : decode prog_14_method_46_code 21 = .ok (.iaload, 1) := by decide +kernel
theorem d_M_mate_22 : decode prog_14_method_46_code 22 = .ok (.iload_n 2, 1) := by decide +kernel
theorem d_M_mate_23 : decode prog_14_method_46_code 23 = .ok (.invokestatic 244, 3) := by decide +kernel
theorem d_M_mate_26 : decode prog_14_method_46_code 26 = .ok (.ifCond .ne 6, 3) := by decide +kernel
theorem d_M_mate_32 : decode prog_14_method_46_code 32 = .ok (.aload_n 0, 1) := by decide +kernel
theorem d_M_mate_33 : decode prog_14_method_46_code 33 = .ok (.aload_n 0, 1) := by decide +kernel
theorem d_M_mate_34 : decode prog_14_method_46_code 34 = .ok (.getfield 7, 3) := by decide +kernel
theorem d_M_mate_37 : decode prog_14_method_46_code 37 = .ok (.iload_n 1, 1) := by decide +kernel
theorem d_M_mate_38 : decode prog_14_method_46_code 38 = .ok (.iaload, 1) := by decide +kernel
theorem d_M_mate_39 : decode prog_14_method_46_code 39 = .ok (.iload_n 2, 1) := by decide +kernel
theorem d_M_mate_40 : decode prog_14_method_46_code 40 = .ok (.invokevirtual 247, 3) := by decide +kernel
theorem d_M_mate_43 : decode prog_14_method_46_code 43 = .ok (.ifCond .ne 6, 3) := by decide +kernel
theorem d_M_mate_46 : decode prog_14_method_46_code 46 = .ok (.bipush (-3), 2) := by decide +kernel
theorem d_M_mate_48 : decode prog_14_method_46_code 48 = .ok (.ireturn, 1) := by decide +kernel
theorem d_M_mate_49 : decode prog_14_method_46_code 49 = .ok (.iconst 0, 1) := by decide +kernel
theorem d_M_mate_50 : decode prog_14_method_46_code 50 = .ok (.istore_n 3, 1) := by decide +kernel
theorem d_M_mate_51 : decode prog_14_method_46_code 51 = .ok (.iload_n 3, 1) := by decide +kernel
theorem d_M_mate_52 : decode prog_14_method_46_code 52 = .ok (.aload_n 0, 1) := by decide +kernel
theorem d_M_mate_53 : decode prog_14_method_46_code 53 = .ok (.getfield 232, 3) := by decide +kernel
theorem d_M_mate_56 : decode prog_14_method_46_code 56 = .ok (.if_icmp .ge 45, 3) := by decide +kernel
theorem d_M_mate_101 : decode prog_14_method_46_code 101 = .ok (.iconst (-1), 1) := by decide +kernel
theorem d_M_mate_102 : decode prog_14_method_46_code 102 = .ok (.ireturn, 1) := by decide +kernel
theorem d_M_mate_59 : decode prog_14_method_46_code 59 = .ok (.aload_n 0, 1) := by decide +kernel
theorem d_M_mate_60 : decode prog_14_method_46_code 60 = .ok (.getfield 69, 3) := by decide +kernel
theorem d_M_mate_63 : decode prog_14_method_46_code 63 = .ok (.iload_n 3, 1) := by decide +kernel
theorem d_M_mate_64 : decode prog_14_method_46_code 64 = .ok (.iaload, 1) := by decide +kernel
theorem d_M_mate_65 : decode prog_14_method_46_code 65 = .ok (.iload_n 1, 1) := by decide +kernel
theorem d_M_mate_66 : decode prog_14_method_46_code 66 = .ok (.if_icmp .ne 29, 3) := by decide +kernel
theorem d_M_mate_69 : decode prog_14_method_46_code 69 = .ok (.aload_n 0, 1) := by decide +kernel
theorem d_M_mate_70 : decode prog_14_method_46_code 70 = .ok (.getfield 81, 3) := by decide +kernel
theorem d_M_mate_73 : decode prog_14_method_46_code 73 = .ok (.iload_n 3, 1) := by decide +kernel
theorem d_M_mate_74 : decode prog_14_method_46_code 74 = .ok (.iaload, 1) := by decide +kernel
theorem d_M_mate_75 : decode prog_14_method_46_code 75 = .ok (.iconst (-1), 1) := by decide +kernel
theorem d_M_mate_76 : decode prog_14_method_46_code 76 = .ok (.if_icmp .ne 7, 3) := by decide +kernel
theorem d_M_mate_79 : decode prog_14_method_46_code 79 = .ok (.iconst (-1), 1) := by decide +kernel
theorem d_M_mate_80 : decode prog_14_method_46_code 80 = .ok (.goto 14, 3) := by decide +kernel
theorem d_M_mate_94 : decode prog_14_method_46_code 94 = .ok (.ireturn, 1) := by decide +kernel
theorem d_M_mate_83 : decode prog_14_method_46_code 83 = .ok (.aload_n 0, 1) := by decide +kernel
theorem d_M_mate_84 : decode prog_14_method_46_code 84 = .ok (.getfield 72, 3) := by decide +kernel
theorem d_M_mate_87 : decode prog_14_method_46_code 87 = .ok (.aload_n 0, 1) := by decide +kernel
theorem d_M_mate_88 : decode prog_14_method_46_code 88 = .ok (.getfield 81, 3) := by decide +kernel
theorem d_M_mate_91 : decode prog_14_method_46_code 91 = .ok (.iload_n 3, 1) := by decide +kernel
theorem d_M_mate_92 : decode prog_14_method_46_code 92 = .ok (.iaload, 1) := by decide +kernel
theorem d_M_mate_93 : decode prog_14_method_46_code 93 = .ok (.iaload, 1) := by decide +kernel
theorem d_M_mate_95 : decode prog_14_method_46_code 95 = .ok (.iinc 3 1, 3) := by decide +kernel
theorem d_M_mate_98 : decode prog_14_method_46_code 98 = .ok (.goto (-47), 3) := by decide +kernel
theorem d_M_bundle_0 : decode prog_14_method_48_code 0 = .ok (.aload_n 0, 1) := by decide +kernel
theorem d_M_bundle_1 : decode prog_14_method_48_code 1 = .ok (.iload_n 1, 1) := by decide +kernel
theorem d_M_bundle_2 : decode prog_14_method_48_code 2 = .ok (.invokevirtual 148, 3) := by decide +kernel
theorem d_M_bundle_5 : decode prog_14_method_48_code 5 = .ok (.ifCond .ne 6, 3) := by decide +kernel
theorem d_M_bundle_8 : decode prog_14_method_48_code 8 = .ok (.bipush (-2), 2) := by decide +kernel
theorem d_M_bundle_10 : decode prog_14_method_48_code 10 = .ok (.ireturn, 1) := by decide +kernel
theorem d_M_bundle_11 : decode prog_14_method_48_code 11 = .ok (.aload_n 0, 1) := by decide +kernel
theorem d_M_bundle_12 : decode prog_14_method_48_code 12 = .ok (.invokevirtual 250, 3) := by decide +kernel
theorem d_M_binds_0 : decode prog_14_method_47_code 0 = .ok (.aload_n 0, 1) := by decide +kernel
theorem d_M_binds_1 : decode prog_14_method_47_code 1 = .ok (.invokevirtual 226, 3) := by decide +kernel
theorem d_M_binds_4 : decode prog_14_method_47_code 4 = .ok (.iconst 0, 1) := by decide +kernel
theorem d_M_binds_5 : decode prog_14_method_47_code 5 = .ok (.istore_n 1, 1) := by decide +kernel
theorem d_M_binds_6 : decode prog_14_method_47_code 6 = .ok (.iload_n 1, 1) := by decide +kernel
theorem d_M_binds_7 : decode prog_14_method_47_code 7 = .ok (.aload_n 0, 1) := by decide +kernel
theorem d_M_binds_8 : decode prog_14_method_47_code 8 = .ok (.getfield 130, 3) := by decide +kernel
theorem d_M_binds_11 : decode prog_14_method_47_code 11 = .ok (.if_icmp .ge 28, 3) := by decide +kernel
theorem d_M_binds_39 : decode prog_14_method_47_code 39 = .ok (.iconst 1, 1) := by decide +kernel
theorem d_M_binds_40 : decode prog_14_method_47_code 40 = .ok (.istore_n 1, 1) := by decide +kernel
theorem d_M_binds_14 : decode prog_14_method_47_code 14 = .ok (.aload_n 0, 1) := by decide +kernel
theorem d_M_binds_15 : decode prog_14_method_47_code 15 = .ok (.getfield 84, 3) := by decide +kernel
theorem d_M_binds_18 : decode prog_14_method_47_code 18 = .ok (.iload_n 1, 1) := by decide +kernel
theorem d_M_binds_19 : decode prog_14_method_47_code 19 = .ok (.aload_n 0, 1) := by decide +kernel
theorem d_M_binds_20 : decode prog_14_method_47_code 20 = .ok (.iload_n 1, 1) := by decide +kernel
theorem d_M_binds_21 : decode prog_14_method_47_code 21 = .ok (.invokevirtual 151, 3) := by decide +kernel
theorem d_M_binds_24 : decode prog_14_method_47_code 24 = .ok (.ifCond .eq 7, 3) := by decide +kernel
theorem d_M_binds_31 : decode prog_14_method_47_code 31 = .ok (.iconst (-1), 1) := by decide +kernel
theorem d_M_binds_27 : decode prog_14_method_47_code 27 = .ok (.iload_n 1, 1) := by decide +kernel
theorem d_M_binds_28 : decode prog_14_method_47_code 28 = .ok (.goto 4, 3) := by decide +kernel
theorem d_M_binds_41 : decode prog_14_method_47_code 41 = .ok (.iload_n 1, 1) := by decide +kernel
theorem d_M_binds_42 : decode prog_14_method_47_code 42 = .ok (.ifCond .eq 88, 3) := by decide +kernel
theorem d_M_binds_130 : decode prog_14_method_47_code 130 = .ok (.return_, 1) := by decide +kernel
theorem d_M_binds_45 : decode prog_14_method_47_code 45 = .ok (.iconst 0, 1) := by decide +kernel
theorem d_M_binds_46 : decode prog_14_method_47_code 46 = .ok (.istore_n 1, 1) := by decide +kernel
theorem d_M_binds_47 : decode prog_14_method_47_code 47 = .ok (.iconst 0, 1) := by decide +kernel
theorem d_M_binds_48 : decode prog_14_method_47_code 48 = .ok (.istore_n 2, 1) := by decide +kernel
theorem d_M_binds_32 : decode prog_14_method_47_code 32 = .ok (.iastore, 1) := by decide +kernel
theorem d_M_binds_33 : decode prog_14_method_47_code 33 = .ok (.iinc 1 1, 3) := by decide +kernel
theorem d_M_binds_36 : decode prog_14_method_47_code 36 = .ok (.goto (-30), 3) := by decide +kernel
theorem d_M_binds_49 : decode prog_14_method_47_code 49 = .ok (.iload_n 2, 1) := by decide +kernel
theorem d_M_binds_50 : decode prog_14_method_47_code 50 = .ok (.aload_n 0, 1) := by decide +kernel
theorem d_M_binds_51 : decode prog_14_method_47_code 51 = .ok (.getfield 130, 3) := by decide +kernel
theorem d_M_binds_54 : decode prog_14_method_47_code 54 = .ok (.if_icmp .ge 73, 3) := by decide +kernel
theorem d_M_binds_127 : decode prog_14_method_47_code 127 = .ok (.goto (-86), 3) := by decide +kernel
theorem d_M_binds_57 : decode prog_14_method_47_code 57 = .ok (.iconst 0, 1) := by decide +kernel
theorem d_M_binds_58 : decode prog_14_method_47_code 58 = .ok (.istore_n 3, 1) := by decide +kernel
theorem d_M_binds_59 : decode prog_14_method_47_code 59 = .ok (.iload_n 3, 1) := by decide +kernel
theorem d_M_binds_60 : decode prog_14_method_47_code 60 = .ok (.aload_n 0, 1) := by decide +kernel
theorem d_M_binds_61 : decode prog_14_method_47_code 61 = .ok (.getfield 130, 3) := by decide +kernel
theorem d_M_binds_64 : decode prog_14_method_47_code 64 = .ok (.if_icmp .ge 57, 3) := by decide +kernel
theorem d_M_binds_121 : decode prog_14_method_47_code 121 = .ok (.iinc 2 1, 3) := by decide +kernel
theorem d_M_binds_124 : decode prog_14_method_47_code 124 = .ok (.goto (-75), 3) := by decide +kernel
theorem d_M_binds_67 : decode prog_14_method_47_code 67 = .ok (.iload_n 2, 1) := by decide +kernel
theorem d_M_binds_68 : decode prog_14_method_47_code 68 = .ok (.iload_n 3, 1) := by decide +kernel
theorem d_M_binds_69 : decode prog_14_method_47_code 69 = .ok (.if_icmp .eq 46, 3) := by decide +kernel
theorem d_M_binds_72 : decode prog_14_method_47_code 72 = .ok (.aload_n 0, 1) := by decide +kernel
theorem d_M_binds_73 : decode prog_14_method_47_code 73 = .ok (.getfield 65, 3) := by decide +kernel
theorem d_M_binds_76 : decode prog_14_method_47_code 76 = .ok (.bipush 36, 2) := by decide +kernel
theorem d_M_binds_78 : decode prog_14_method_47_code 78 = .ok (.iload_n 2, 1) := by decide +kernel
theorem d_M_binds_79 : decode prog_14_method_47_code 79 = .ok (.imul, 1) := by decide +kernel
theorem d_M_binds_80 : decode prog_14_method_47_code 80 = .ok (.iload_n 3, 1) := by decide +kernel
theorem d_M_binds_81 : decode prog_14_method_47_code 81 = .ok (.iadd, 1) := by decide +kernel
theorem d_M_binds_82 : decode prog_14_method_47_code 82 = .ok (.baload, 1) := by decide +kernel
theorem d_M_binds_83 : decode prog_14_method_47_code 83 = .ok (.ifCond .eq 32, 3) := by decide +kernel
theorem d_M_binds_86 : decode prog_14_method_47_code 86 = .ok (.aload_n 0, 1) := by decide +kernel
theorem d_M_binds_87 : decode prog_14_method_47_code 87 = .ok (.getfield 84, 3) := by decide +kernel
theorem d_M_binds_90 : decode prog_14_method_47_code 90 = .ok (.iload_n 3, 1) := by decide +kernel
theorem d_M_binds_91 : decode prog_14_method_47_code 91 = .ok (.iaload, 1) := by decide +kernel
theorem d_M_binds_92 : decode prog_14_method_47_code 92 = .ok (.aload_n 0, 1) := by decide +kernel
theorem d_M_binds_93 : decode prog_14_method_47_code 93 = .ok (.getfield 84, 3) := by decide +kernel
theorem d_M_binds_96 : decode prog_14_method_47_code 96 = .ok (.iload_n 2, 1) := by decide +kernel
theorem d_M_binds_97 : decode prog_14_method_47_code 97 = .ok (.iaload, 1) := by decide +kernel
theorem d_M_binds_98 : decode prog_14_method_47_code 98 = .ok (.if_icmp .ge 17, 3) := by decide +kernel
theorem d_M_binds_101 : decode prog_14_method_47_code 101 = .ok (.aload_n 0, 1) := by decide +kernel
theorem d_M_binds_102 : decode prog_14_method_47_code 102 = .ok (.getfield 84, 3) := by decide +kernel
theorem d_M_binds_105 : decode prog_14_method_47_code 105 = .ok (.iload_n 2, 1) := by decide +kernel
theorem d_M_binds_106 : decode prog_14_method_47_code 106 = .ok (.aload_n 0, 1) := by decide +kernel
theorem d_M_binds_107 : decode prog_14_method_47_code 107 = .ok (.getfield 84, 3) := by decide +kernel
theorem d_M_binds_110 : decode prog_14_method_47_code 110 = .ok (.iload_n 3, 1) := by decide +kernel
theorem d_M_binds_111 : decode prog_14_method_47_code 111 = .ok (.iaload, 1) := by decide +kernel
theorem d_M_binds_112 : decode prog_14_method_47_code 112 = .ok (.iastore, 1) := by decide +kernel
theorem d_M_binds_113 : decode prog_14_method_47_code 113 = .ok (.iconst 1, 1) := by decide +kernel
theorem d_M_binds_114 : decode prog_14_method_47_code 114 = .ok (.istore_n 1, 1) := by decide +kernel
theorem d_M_binds_115 : decode prog_14_method_47_code 115 = .ok (.iinc 3 1, 3) := by decide +kernel
theorem d_M_binds_118 : decode prog_14_method_47_code 118 = .ok (.goto (-59), 3) := by decide +kernel
theorem d_M_bundle_15 : decode prog_14_method_48_code 15 = .ok (.aload_n 0, 1) := by decide +kernel
theorem d_M_bundle_16 : decode prog_14_method_48_code 16 = .ok (.getfield 84, 3) := by decide +kernel
theorem d_M_bundle_19 : decode prog_14_method_48_code 19 = .ok (.iload_n 1, 1) := by decide +kernel
theorem d_M_bundle_20 : decode prog_14_method_48_code 20 = .ok (.iaload, 1) := by decide +kernel
theorem d_M_bundle_21 : decode prog_14_method_48_code 21 = .ok (.iconst (-1), 1) := by decide +kernel
theorem d_M_bundle_22 : decode prog_14_method_48_code 22 = .ok (.if_icmp .ne 8, 3) := by decide +kernel
theorem d_M_bundle_25 : decode prog_14_method_48_code 25 = .ok (.bipush (-3), 2) := by decide +kernel
theorem d_M_bundle_27 : decode prog_14_method_48_code 27 = .ok (.goto 9, 3) := by decide +kernel
theorem d_M_bundle_36 : decode prog_14_method_48_code 36 = .ok (.ireturn, 1) := by decide +kernel
theorem d_M_bundle_30 : decode prog_14_method_48_code 30 = .ok (.aload_n 0, 1) := by decide +kernel
theorem d_M_bundle_31 : decode prog_14_method_48_code 31 = .ok (.getfield 84, 3) := by decide +kernel
theorem d_M_bundle_34 : decode prog_14_method_48_code 34 = .ok (.iload_n 1, 1) := by decide +kernel
theorem d_M_bundle_35 : decode prog_14_method_48_code 35 = .ok (.iaload, 1) := by decide +kernel
theorem d_M_bundles_0 : decode prog_14_method_52_code 0 = .ok (.iload_n 1, 1) := by decide +kernel
theorem d_M_bundles_1 : decode prog_14_method_52_code 1 = .ok (.iconst 0, 1) := by decide +kernel
theorem d_M_bundles_2 : decode prog_14_method_52_code 2 = .ok (.iconst 2, 1) := by decide +kernel
theorem d_M_bundles_3 : decode prog_14_method_52_code 3 = .ok (.invokestatic 133, 3) := by decide +kernel
theorem d_M_bundles_6 : decode prog_14_method_52_code 6 = .ok (.ifCond .ne 6, 3) := by decide +kernel
theorem d_M_bundles_9 : decode prog_14_method_52_code 9 = .ok (.bipush (-2), 2) := by decide +kernel
theorem d_M_bundles_11 : decode prog_14_method_52_code 11 = .ok (.ireturn, 1) := by decide +kernel
theorem d_M_bundles_12 : decode prog_14_method_52_code 12 = .ok (.aload_n 0, 1) := by decide +kernel
theorem d_M_bundles_13 : decode prog_14_method_52_code 13 = .ok (.invokevirtual 250, 3) := by decide +kernel
theorem d_M_bundles_16 : decode prog_14_method_52_code 16 = .ok (.aload_n 0, 1) := by decide +kernel
theorem d_M_bundles_17 : decode prog_14_method_52_code 17 = .ok (.iload_n 1, 1) := by decide +kernel
theorem d_M_bundles_18 : decode prog_14_method_52_code 18 = .ok (.invokevirtual 259, 3) := by decide +kernel
theorem d_M_bundlesOf_0 : decode prog_14_method_51_code 0 = .ok (.iconst 0, 1) := by decide +kernel
theorem d_M_bundlesOf_1 : decode prog_14_method_51_code 1 = .ok (.istore_n 2, 1) := by decide +kernel
theorem d_M_bundlesOf_2 : decode prog_14_method_51_code 2 = .ok (.iconst 0, 1) := by decide +kernel
theorem d_M_bundlesOf_3 : decode prog_14_method_51_code 3 = .ok (.istore_n 3, 1) := by decide +kernel
theorem d_M_bundlesOf_4 : decode prog_14_method_51_code 4 = .ok (.iload_n 3, 1) := by decide +kernel
theorem d_M_bundlesOf_5 : decode prog_14_method_51_code 5 = .ok (.aload_n 0, 1) := by decide +kernel
theorem d_M_bundlesOf_6 : decode prog_14_method_51_code 6 = .ok (.getfield 130, 3) := by decide +kernel
theorem d_M_bundlesOf_9 : decode prog_14_method_51_code 9 = .ok (.if_icmp .ge 72, 3) := by decide +kernel
theorem d_M_bundlesOf_81 : decode prog_14_method_51_code 81 = .ok (.iload_n 2, 1) := by decide +kernel
theorem d_M_bundlesOf_82 : decode prog_14_method_51_code 82 = .ok (.ireturn, 1) := by decide +kernel
theorem d_M_bundlesOf_12 : decode prog_14_method_51_code 12 = .ok (.aload_n 0, 1) := by decide +kernel
theorem d_M_bundlesOf_13 : decode prog_14_method_51_code 13 = .ok (.getfield 84, 3) := by decide +kernel
theorem d_M_bundlesOf_16 : decode prog_14_method_51_code 16 = .ok (.iload_n 3, 1) := by decide +kernel
theorem d_M_bundlesOf_17 : decode prog_14_method_51_code 17 = .ok (.iaload, 1) := by decide +kernel
theorem d_M_bundlesOf_18 : decode prog_14_method_51_code 18 = .ok (.iload_n 3, 1) := by decide +kernel
theorem d_M_bundlesOf_19 : decode prog_14_method_51_code 19 = .ok (.if_icmp .ne 56, 3) := by decide +kernel
theorem d_M_bundlesOf_22 : decode prog_14_method_51_code 22 = .ok (.aload_n 0, 1) := by decide +kernel
theorem d_M_bundlesOf_23 : decode prog_14_method_51_code 23 = .ok (.iload_n 3, 1) := by decide +kernel
theorem d_M_bundlesOf_24 : decode prog_14_method_51_code 24 = .ok (.invokevirtual 253, 3) := by decide +kernel
theorem d_M_sizeOf_0 : decode prog_14_method_50_code 0 = .ok (.iconst 0, 1) := by decide +kernel
theorem d_M_sizeOf_1 : decode prog_14_method_50_code 1 = .ok (.istore_n 2, 1) := by decide +kernel
theorem d_M_sizeOf_2 : decode prog_14_method_50_code 2 = .ok (.iconst 0, 1) := by decide +kernel
theorem d_M_sizeOf_3 : decode prog_14_method_50_code 3 = .ok (.istore_n 3, 1) := by decide +kernel
theorem d_M_sizeOf_4 : decode prog_14_method_50_code 4 = .ok (.iload_n 3, 1) := by decide +kernel
theorem d_M_sizeOf_5 : decode prog_14_method_50_code 5 = .ok (.aload_n 0, 1) := by decide +kernel
theorem d_M_sizeOf_6 : decode prog_14_method_50_code 6 = .ok (.getfield 130, 3) := by decide +kernel
theorem d_M_sizeOf_9 : decode prog_14_method_50_code 9 = .ok (.if_icmp .ge 27, 3) := by decide +kernel
theorem d_M_sizeOf_36 : decode prog_14_method_50_code 36 = .ok (.iload_n 2, 1) := by decide +kernel
theorem d_M_sizeOf_37 : decode prog_14_method_50_code 37 = .ok (.ireturn, 1) := by decide +kernel
theorem d_M_sizeOf_12 : decode prog_14_method_50_code 12 = .ok (.iload_n 2, 1) := by decide +kernel
theorem d_M_sizeOf_13 : decode prog_14_method_50_code 13 = .ok (.aload_n 0, 1) := by decide +kernel
theorem d_M_sizeOf_14 : decode prog_14_method_50_code 14 = .ok (.getfield 84, 3) := by decide +kernel
theorem d_M_sizeOf_17 : decode prog_14_method_50_code 17 = .ok (.iload_n 3, 1) := by decide +kernel
theorem d_M_sizeOf_18 : decode prog_14_method_50_code 18 = .ok (.iaload, 1) := by decide +kernel
theorem d_M_sizeOf_19 : decode prog_14_method_50_code 19 = .ok (.iload_n 1, 1) := by decide +kernel
theorem d_M_sizeOf_20 : decode prog_14_method_50_code 20 = .ok (.if_icmp .ne 7, 3) := by decide +kernel
theorem d_M_sizeOf_23 : decode prog_14_method_50_code 23 = .ok (.iconst 1, 1) := by decide +kernel
theorem d_M_sizeOf_24 : decode prog_14_method_50_code 24 = .ok (.goto 4, 3) := by decide +kernel
theorem d_M_sizeOf_27 : decode prog_14_method_50_code 27 = .ok (.iconst 0, 1) := by decide +kernel
theorem d_M_sizeOf_28 : decode prog_14_method_50_code 28 = .ok (.iadd, 1) := by decide +kernel
theorem d_M_sizeOf_29 : decode prog_14_method_50_code 29 = .ok (.istore_n 2, 1) := by decide +kernel
theorem d_M_sizeOf_30 : decode prog_14_method_50_code 30 = .ok (.iinc 3 1, 3) := by decide +kernel
theorem d_M_sizeOf_33 : decode prog_14_method_50_code 33 = .ok (.goto (-29), 3) := by decide +kernel
theorem d_M_bundlesOf_27 : decode prog_14_method_51_code 27 = .ok (.istore 4, 2) := by decide +kernel
theorem d_M_bundlesOf_29 : decode prog_14_method_51_code 29 = .ok (.iload_n 1, 1) := by decide +kernel
theorem d_M_bundlesOf_30 : decode prog_14_method_51_code 30 = .ok (.ifCond .ne 9, 3) := by decide +kernel
theorem d_M_bundlesOf_33 : decode prog_14_method_51_code 33 = .ok (.iload_n 2, 1) := by decide +kernel
theorem d_M_bundlesOf_34 : decode prog_14_method_51_code 34 = .ok (.iconst 1, 1) := by decide +kernel
theorem d_M_bundlesOf_35 : decode prog_14_method_51_code 35 = .ok (.iadd, 1) := by decide +kernel
theorem d_M_bundlesOf_36 : decode prog_14_method_51_code 36 = .ok (.goto 38, 3) := by decide +kernel
theorem d_M_bundlesOf_39 : decode prog_14_method_51_code 39 = .ok (.iload_n 1, 1) := by decide +kernel
theorem d_M_bundlesOf_40 : decode prog_14_method_51_code 40 = .ok (.iconst 1, 1) := by decide +kernel
theorem d_M_bundlesOf_41 : decode prog_14_method_51_code 41 = .ok (.if_icmp .ne 21, 3) := by decide +kernel
theorem d_M_bundlesOf_44 : decode prog_14_method_51_code 44 = .ok (.iload_n 2, 1) := by decide +kernel
theorem d_M_bundlesOf_45 : decode prog_14_method_51_code 45 = .ok (.aload_n 0, 1) := by decide +kernel
theorem d_M_bundlesOf_46 : decode prog_14_method_51_code 46 = .ok (.iload_n 3, 1) := by decide +kernel
theorem d_M_bundlesOf_47 : decode prog_14_method_51_code 47 = .ok (.invokevirtual 256, 3) := by decide +kernel
theorem d_M_isTorn_0 : decode prog_14_method_49_code 0 = .ok (.iconst 0, 1) := by decide +kernel
theorem d_M_isTorn_1 : decode prog_14_method_49_code 1 = .ok (.istore_n 2, 1) := by decide +kernel
theorem d_M_isTorn_2 : decode prog_14_method_49_code 2 = .ok (.iload_n 2, 1) := by decide +kernel
theorem d_M_isTorn_3 : decode prog_14_method_49_code 3 = .ok (.aload_n 0, 1) := by decide +kernel
theorem d_M_isTorn_4 : decode prog_14_method_49_code 4 = .ok (.getfield 130, 3) := by decide +kernel
theorem d_M_isTorn_7 : decode prog_14_method_49_code 7 = .ok (.if_icmp .ge 118, 3) := by decide +kernel
theorem d_M_isTorn_125 : decode prog_14_method_49_code 125 = .ok (.iconst 0, 1) := by decide +kernel
theorem d_M_isTorn_126 : decode prog_14_method_49_code 126 = .ok (.ireturn, 1) := by decide +kernel
theorem d_M_isTorn_10 : decode prog_14_method_49_code 10 = .ok (.iconst 0, 1) := by decide +kernel
theorem d_M_isTorn_11 : decode prog_14_method_49_code 11 = .ok (.istore_n 3, 1) := by decide +kernel
theorem d_M_isTorn_12 : decode prog_14_method_49_code 12 = .ok (.iload_n 3, 1) := by decide +kernel
theorem d_M_isTorn_13 : decode prog_14_method_49_code 13 = .ok (.iload_n 2, 1) := by decide +kernel
theorem d_M_isTorn_14 : decode prog_14_method_49_code 14 = .ok (.if_icmp .ge 105, 3) := by decide +kernel
theorem d_M_isTorn_119 : decode prog_14_method_49_code 119 = .ok (.iinc 2 1, 3) := by decide +kernel
theorem d_M_isTorn_122 : decode prog_14_method_49_code 122 = .ok (.goto (-120), 3) := by decide +kernel
theorem d_M_isTorn_17 : decode prog_14_method_49_code 17 = .ok (.aload_n 0, 1) := by decide +kernel
theorem d_M_isTorn_18 : decode prog_14_method_49_code 18 = .ok (.getfield 84, 3) := by decide +kernel
theorem d_M_isTorn_21 : decode prog_14_method_49_code 21 = .ok (.iload_n 2, 1) := by decide +kernel
theorem d_M_isTorn_22 : decode prog_14_method_49_code 22 = .ok (.iaload, 1) := by decide +kernel
theorem d_M_isTorn_23 : decode prog_14_method_49_code 23 = .ok (.iload_n 1, 1) := by decide +kernel
theorem d_M_isTorn_24 : decode prog_14_method_49_code 24 = .ok (.if_icmp .ne 17, 3) := by decide +kernel
theorem d_M_isTorn_27 : decode prog_14_method_49_code 27 = .ok (.aload_n 0, 1) := by decide +kernel
theorem d_M_isTorn_28 : decode prog_14_method_49_code 28 = .ok (.getfield 84, 3) := by decide +kernel
theorem d_M_isTorn_31 : decode prog_14_method_49_code 31 = .ok (.iload_n 3, 1) := by decide +kernel
theorem d_M_isTorn_32 : decode prog_14_method_49_code 32 = .ok (.iaload, 1) := by decide +kernel
theorem d_M_isTorn_33 : decode prog_14_method_49_code 33 = .ok (.iload_n 1, 1) := by decide +kernel
theorem d_M_isTorn_34 : decode prog_14_method_49_code 34 = .ok (.if_icmp .ne 7, 3) := by decide +kernel
theorem d_M_isTorn_37 : decode prog_14_method_49_code 37 = .ok (.iconst 1, 1) := by decide +kernel
theorem d_M_isTorn_38 : decode prog_14_method_49_code 38 = .ok (.goto 4, 3) := by decide +kernel
theorem d_M_isTorn_42 : decode prog_14_method_49_code 42 = .ok (.istore 4, 2) := by decide +kernel
theorem d_M_isTorn_44 : decode prog_14_method_49_code 44 = .ok (.aload_n 0, 1) := by decide +kernel
theorem d_M_isTorn_45 : decode prog_14_method_49_code 45 = .ok (.getfield 25, 3) := by decide +kernel
theorem d_M_isTorn_48 : decode prog_14_method_49_code 48 = .ok (.iload_n 2, 1) := by decide +kernel
theorem d_M_isTorn_49 : decode prog_14_method_49_code 49 = .ok (.iaload, 1) := by decide +kernel
theorem d_M_isTorn_50 : decode prog_14_method_49_code 50 = .ok (.iconst (-1), 1) := by decide +kernel
theorem d_M_isTorn_51 : decode prog_14_method_49_code 51 = .ok (.if_icmp .eq 32, 3) := by decide +kernel
theorem d_M_isTorn_54 : decode prog_14_method_49_code 54 = .ok (.aload_n 0, 1) := by decide +kernel
theorem d_M_isTorn_55 : decode prog_14_method_49_code 55 = .ok (.getfield 25, 3) := by decide +kernel
theorem d_M_isTorn_58 : decode prog_14_method_49_code 58 = .ok (.iload_n 3, 1) := by decide +kernel
theorem d_M_isTorn_59 : decode prog_14_method_49_code 59 = .ok (.iaload, 1) := by decide +kernel
theorem d_M_isTorn_60 : decode prog_14_method_49_code 60 = .ok (.iconst (-1), 1) := by decide +kernel
theorem d_M_isTorn_61 : decode prog_14_method_49_code 61 = .ok (.if_icmp .eq 22, 3) := by decide +kernel
theorem d_M_isTorn_64 : decode prog_14_method_49_code 64 = .ok (.aload_n 0, 1) := by decide +kernel
theorem d_M_isTorn_65 : decode prog_14_method_49_code 65 = .ok (.getfield 25, 3) := by decide +kernel
theorem d_M_isTorn_68 : decode prog_14_method_49_code 68 = .ok (.iload_n 2, 1) := by decide +kernel
theorem d_M_isTorn_69 : decode prog_14_method_49_code 69 = .ok (.iaload, 1) := by decide +kernel
theorem d_M_isTorn_70 : decode prog_14_method_49_code 70 = .ok (.aload_n 0, 1) := by decide +kernel
theorem d_M_isTorn_71 : decode prog_14_method_49_code 71 = .ok (.getfield 25, 3) := by decide +kernel
theorem d_M_isTorn_74 : decode prog_14_method_49_code 74 = .ok (.iload_n 3, 1) := by decide +kernel
theorem d_M_isTorn_75 : decode prog_14_method_49_code 75 = .ok (.iaload, 1) := by decide +kernel
theorem d_M_isTorn_76 : decode prog_14_method_49_code 76 = .ok (.if_icmp .eq 7, 3) := by decide +kernel
theorem d_M_isTorn_79 : decode prog_14_method_49_code 79 = .ok (.iconst 1, 1) := by decide +kernel
theorem d_M_isTorn_80 : decode prog_14_method_49_code 80 = .ok (.goto 4, 3) := by decide +kernel
theorem d_M_isTorn_41 : decode prog_14_method_49_code 41 = .ok (.iconst 0, 1) := by decide +kernel
theorem d_M_isTorn_83 : decode prog_14_method_49_code 83 = .ok (.iconst 0, 1) := by decide +kernel
theorem d_M_isTorn_84 : decode prog_14_method_49_code 84 = .ok (.istore 5, 2) := by decide +kernel
theorem d_M_isTorn_86 : decode prog_14_method_49_code 86 = .ok (.iload 4, 2) := by decide +kernel
theorem d_M_isTorn_88 : decode prog_14_method_49_code 88 = .ok (.ifCond .eq 25, 3) := by decide +kernel
theorem d_M_isTorn_91 : decode prog_14_method_49_code 91 = .ok (.aload_n 0, 1) := by decide +kernel
theorem d_M_isTorn_92 : decode prog_14_method_49_code 92 = .ok (.getfield 7, 3) := by decide +kernel
theorem d_M_isTorn_95 : decode prog_14_method_49_code 95 = .ok (.iload_n 2, 1) := by decide +kernel
theorem d_M_isTorn_96 : decode prog_14_method_49_code 96 = .ok (.iaload, 1) := by decide +kernel
theorem d_M_isTorn_97 : decode prog_14_method_49_code 97 = .ok (.aload_n 0, 1) := by decide +kernel
theorem d_M_isTorn_98 : decode prog_14_method_49_code 98 = .ok (.getfield 7, 3) := by decide +kernel
theorem d_M_isTorn_101 : decode prog_14_method_49_code 101 = .ok (.iload_n 3, 1) := by decide +kernel
theorem d_M_isTorn_102 : decode prog_14_method_49_code 102 = .ok (.iaload, 1) := by decide +kernel
theorem d_M_isTorn_103 : decode prog_14_method_49_code 103 = .ok (.if_icmp .eq 8, 3) := by decide +kernel
theorem d_M_isTorn_111 : decode prog_14_method_49_code 111 = .ok (.iconst 1, 1) := by decide +kernel
theorem d_M_isTorn_112 : decode prog_14_method_49_code 112 = .ok (.ireturn, 1) := by decide +kernel
theorem d_M_isTorn_106 : decode prog_14_method_49_code 106 = .ok (.iload 5, 2) := by decide +kernel
theorem d_M_isTorn_108 : decode prog_14_method_49_code 108 = .ok (.ifCond .eq 5, 3) := by decide +kernel
theorem d_M_isTorn_113 : decode prog_14_method_49_code 113 = .ok (.iinc 3 1, 3) := by decide +kernel
theorem d_M_isTorn_116 : decode prog_14_method_49_code 116 = .ok (.goto (-104), 3) := by decide +kernel
theorem d_M_bundlesOf_50 : decode prog_14_method_51_code 50 = .ok (.ifCond .eq 7, 3) := by decide +kernel
theorem d_M_bundlesOf_57 : decode prog_14_method_51_code 57 = .ok (.iconst 0, 1) := by decide +kernel
theorem d_M_bundlesOf_53 : decode prog_14_method_51_code 53 = .ok (.iconst 1, 1) := by decide +kernel
theorem d_M_bundlesOf_54 : decode prog_14_method_51_code 54 = .ok (.goto 4, 3) := by decide +kernel
theorem d_M_bundlesOf_62 : decode prog_14_method_51_code 62 = .ok (.iload 4, 2) := by decide +kernel
theorem d_M_bundlesOf_64 : decode prog_14_method_51_code 64 = .ok (.iload_n 2, 1) := by decide +kernel
theorem d_M_bundlesOf_65 : decode prog_14_method_51_code 65 = .ok (.if_icmp .le 8, 3) := by decide +kernel
theorem d_M_bundlesOf_73 : decode prog_14_method_51_code 73 = .ok (.iload_n 2, 1) := by decide +kernel
theorem d_M_bundlesOf_68 : decode prog_14_method_51_code 68 = .ok (.iload 4, 2) := by decide +kernel
theorem d_M_bundlesOf_70 : decode prog_14_method_51_code 70 = .ok (.goto 4, 3) := by decide +kernel
theorem d_M_bundlesOf_74 : decode prog_14_method_51_code 74 = .ok (.istore_n 2, 1) := by decide +kernel
theorem d_M_bundlesOf_58 : decode prog_14_method_51_code 58 = .ok (.iadd, 1) := by decide +kernel
theorem d_M_bundlesOf_59 : decode prog_14_method_51_code 59 = .ok (.goto 15, 3) := by decide +kernel
theorem d_M_bundlesOf_75 : decode prog_14_method_51_code 75 = .ok (.iinc 3 1, 3) := by decide +kernel
theorem d_M_bundlesOf_78 : decode prog_14_method_51_code 78 = .ok (.goto (-74), 3) := by decide +kernel
theorem d_M_bundles_21 : decode prog_14_method_52_code 21 = .ok (.ireturn, 1) := by decide +kernel
theorem d_M_torn_0 : decode prog_14_method_53_code 0 = .ok (.aload_n 0, 1) := by decide +kernel
theorem d_M_torn_1 : decode prog_14_method_53_code 1 = .ok (.iload_n 1, 1) := by decide +kernel
theorem d_M_torn_2 : decode prog_14_method_53_code 2 = .ok (.invokevirtual 148, 3) := by decide +kernel
theorem d_M_torn_5 : decode prog_14_method_53_code 5 = .ok (.ifCond .ne 6, 3) := by decide +kernel
theorem d_M_torn_8 : decode prog_14_method_53_code 8 = .ok (.bipush (-2), 2) := by decide +kernel
theorem d_M_torn_10 : decode prog_14_method_53_code 10 = .ok (.ireturn, 1) := by decide +kernel
theorem d_M_torn_11 : decode prog_14_method_53_code 11 = .ok (.aload_n 0, 1) := by decide +kernel
theorem d_M_torn_12 : decode prog_14_method_53_code 12 = .ok (.invokevirtual 250, 3) := by decide +kernel
theorem d_M_torn_15 : decode prog_14_method_53_code 15 = .ok (.aload_n 0, 1) := by decide +kernel
theorem d_M_torn_16 : decode prog_14_method_53_code 16 = .ok (.getfield 84, 3) := by decide +kernel
theorem d_M_torn_19 : decode prog_14_method_53_code 19 = .ok (.iload_n 1, 1) := by decide +kernel
theorem d_M_torn_20 : decode prog_14_method_53_code 20 = .ok (.iaload, 1) := by decide +kernel
theorem d_M_torn_21 : decode prog_14_method_53_code 21 = .ok (.iconst (-1), 1) := by decide +kernel
theorem d_M_torn_22 : decode prog_14_method_53_code 22 = .ok (.if_icmp .ne 8, 3) := by decide +kernel
theorem d_M_torn_25 : decode prog_14_method_53_code 25 = .ok (.bipush (-3), 2) := by decide +kernel
theorem d_M_torn_27 : decode prog_14_method_53_code 27 = .ok (.goto 21, 3) := by decide +kernel
theorem d_M_torn_48 : decode prog_14_method_53_code 48 = .ok (.ireturn, 1) := by decide +kernel
theorem d_M_torn_30 : decode prog_14_method_53_code 30 = .ok (.aload_n 0, 1) := by decide +kernel
theorem d_M_torn_31 : decode prog_14_method_53_code 31 = .ok (.aload_n 0, 1) := by decide +kernel
theorem d_M_torn_32 : decode prog_14_method_53_code 32 = .ok (.getfield 84, 3) := by decide +kernel
theorem d_M_torn_35 : decode prog_14_method_53_code 35 = .ok (.iload_n 1, 1) := by decide +kernel
theorem d_M_torn_36 : decode prog_14_method_53_code 36 = .ok (.iaload, 1) := by decide +kernel
theorem d_M_torn_37 : decode prog_14_method_53_code 37 = .ok (.invokevirtual 256, 3) := by decide +kernel
theorem d_M_torn_40 : decode prog_14_method_53_code 40 = .ok (.ifCond .eq 7, 3) := by decide +kernel
theorem d_M_torn_47 : decode prog_14_method_53_code 47 = .ok (.iconst 0, 1) := by decide +kernel
theorem d_M_torn_43 : decode prog_14_method_53_code 43 = .ok (.iconst 1, 1) := by decide +kernel
theorem d_M_torn_44 : decode prog_14_method_53_code 44 = .ok (.goto 4, 3) := by decide +kernel
theorem d_M_cut_0 : decode prog_14_method_54_code 0 = .ok (.aload_n 0, 1) := by decide +kernel
theorem d_M_cut_1 : decode prog_14_method_54_code 1 = .ok (.iload_n 1, 1) := by decide +kernel
theorem d_M_cut_2 : decode prog_14_method_54_code 2 = .ok (.iload_n 2, 1) := by decide +kernel
theorem d_M_cut_3 : decode prog_14_method_54_code 3 = .ok (.invokevirtual 194, 3) := by decide +kernel
theorem d_M_cut_6 : decode prog_14_method_54_code 6 = .ok (.ifCond .ne 6, 3) := by decide +kernel
theorem d_M_cut_9 : decode prog_14_method_54_code 9 = .ok (.bipush (-2), 2) := by decide +kernel
theorem d_M_cut_11 : decode prog_14_method_54_code 11 = .ok (.ireturn, 1) := by decide +kernel
theorem d_M_cut_12 : decode prog_14_method_54_code 12 = .ok (.aload_n 0, 1) := by decide +kernel
theorem d_M_cut_13 : decode prog_14_method_54_code 13 = .ok (.invokevirtual 250, 3) := by decide +kernel
theorem d_M_cut_16 : decode prog_14_method_54_code 16 = .ok (.aload_n 0, 1) := by decide +kernel
theorem d_M_cut_17 : decode prog_14_method_54_code 17 = .ok (.getfield 84, 3) := by decide +kernel
theorem d_M_cut_20 : decode prog_14_method_54_code 20 = .ok (.iload_n 1, 1) := by decide +kernel
theorem d_M_cut_21 : decode prog_14_method_54_code 21 = .ok (.iaload, 1) := by decide +kernel
theorem d_M_cut_22 : decode prog_14_method_54_code 22 = .ok (.iconst (-1), 1) := by decide +kernel
theorem d_M_cut_23 : decode prog_14_method_54_code 23 = .ok (.if_icmp .eq 18, 3) := by decide +kernel
theorem d_M_cut_41 : decode prog_14_method_54_code 41 = .ok (.bipush (-3), 2) := by decide +kernel
theorem d_M_cut_43 : decode prog_14_method_54_code 43 = .ok (.ireturn, 1) := by decide +kernel
theorem d_M_cut_26 : decode prog_14_method_54_code 26 = .ok (.aload_n 0, 1) := by decide +kernel
theorem d_M_cut_27 : decode prog_14_method_54_code 27 = .ok (.getfield 84, 3) := by decide +kernel
theorem d_M_cut_30 : decode prog_14_method_54_code 30 = .ok (.iload_n 1, 1) := by decide +kernel
theorem d_M_cut_31 : decode prog_14_method_54_code 31 = .ok (.iaload, 1) := by decide +kernel
theorem d_M_cut_32 : decode prog_14_method_54_code 32 = .ok (.aload_n 0, 1) := by decide +kernel
theorem d_M_cut_33 : decode prog_14_method_54_code 33 = .ok (.getfield 84, 3) := by decide +kernel
theorem d_M_cut_36 : decode prog_14_method_54_code 36 = .ok (.iload_n 2, 1) := by decide +kernel
theorem d_M_cut_37 : decode prog_14_method_54_code 37 = .ok (.iaload, 1) := by decide +kernel
theorem d_M_cut_38 : decode prog_14_method_54_code 38 = .ok (.if_icmp .eq 6, 3) := by decide +kernel
theorem d_M_cut_44 : decode prog_14_method_54_code 44 = .ok (.aload_n 0, 1) := by decide +kernel
theorem d_M_cut_45 : decode prog_14_method_54_code 45 = .ok (.aload_n 0, 1) := by decide +kernel
theorem d_M_cut_46 : decode prog_14_method_54_code 46 = .ok (.getfield 84, 3) := by decide +kernel
theorem d_M_cut_49 : decode prog_14_method_54_code 49 = .ok (.iload_n 1, 1) := by decide +kernel
theorem d_M_cut_50 : decode prog_14_method_54_code 50 = .ok (.iaload, 1) := by decide +kernel
theorem d_M_cut_51 : decode prog_14_method_54_code 51 = .ok (.invokevirtual 253, 3) := by decide +kernel
theorem d_M_cut_54 : decode prog_14_method_54_code 54 = .ok (.bipush 12, 2) := by decide +kernel
theorem d_M_cut_56 : decode prog_14_method_54_code 56 = .ok (.if_icmp .le 6, 3) := by decide +kernel
theorem d_M_cut_62 : decode prog_14_method_54_code 62 = .ok (.iconst 0, 1) := by decide +kernel
theorem d_M_cut_63 : decode prog_14_method_54_code 63 = .ok (.istore_n 3, 1) := by decide +kernel
theorem d_M_cut_64 : decode prog_14_method_54_code 64 = .ok (.iconst 0, 1) := by decide +kernel
theorem d_M_cut_65 : decode prog_14_method_54_code 65 = .ok (.istore 4, 2) := by decide +kernel
theorem d_M_cut_67 : decode prog_14_method_54_code 67 = .ok (.iconst 0, 1) := by decide +kernel
theorem d_M_cut_68 : decode prog_14_method_54_code 68 = .ok (.istore 5, 2) := by decide +kernel
theorem d_M_cut_70 : decode prog_14_method_54_code 70 = .ok (.iconst 0, 1) := by decide +kernel
theorem d_M_cut_71 : decode prog_14_method_54_code 71 = .ok (.istore 6, 2) := by decide +kernel
theorem d_M_cut_59 : decode prog_14_method_54_code 59 = .ok (.bipush (-4), 2) := by decide +kernel
theorem d_M_cut_61 : decode prog_14_method_54_code 61 = .ok (.ireturn, 1) := by decide +kernel
theorem d_M_cut_73 : decode prog_14_method_54_code 73 = .ok (.iload 6, 2) := by decide +kernel
theorem d_M_cut_75 : decode prog_14_method_54_code 75 = .ok (.aload_n 0, 1) := by decide +kernel
theorem d_M_cut_76 : decode prog_14_method_54_code 76 = .ok (.getfield 130, 3) := by decide +kernel
theorem d_M_cut_79 : decode prog_14_method_54_code 79 = .ok (.if_icmp .ge 64, 3) := by decide +kernel
theorem d_M_cut_143 : decode prog_14_method_54_code 143 = .ok (.sipush 399, 3) := by decide +kernel
theorem d_M_cut_146 : decode prog_14_method_54_code 146 = .ok (.istore 6, 2) := by decide +kernel
theorem d_M_cut_148 : decode prog_14_method_54_code 148 = .ok (.iconst 0, 1) := by decide +kernel
theorem d_M_cut_149 : decode prog_14_method_54_code 149 = .ok (.istore 7, 2) := by decide +kernel
theorem d_M_cut_82 : decode prog_14_method_54_code 82 = .ok (.aload_n 0, 1) := by decide +kernel
theorem d_M_cut_83 : decode prog_14_method_54_code 83 = .ok (.getfield 84, 3) := by decide +kernel
theorem d_M_cut_86 : decode prog_14_method_54_code 86 = .ok (.iload 6, 2) := by decide +kernel
theorem d_M_cut_88 : decode prog_14_method_54_code 88 = .ok (.iaload, 1) := by decide +kernel
theorem d_M_cut_89 : decode prog_14_method_54_code 89 = .ok (.aload_n 0, 1) := by decide +kernel
theorem d_M_cut_90 : decode prog_14_method_54_code 90 = .ok (.getfield 84, 3) := by decide +kernel
theorem d_M_cut_93 : decode prog_14_method_54_code 93 = .ok (.iload_n 1, 1) := by decide +kernel
theorem d_M_cut_94 : decode prog_14_method_54_code 94 = .ok (.iaload, 1) := by decide +kernel
theorem d_M_cut_95 : decode prog_14_method_54_code 95 = .ok (.if_icmp .ne 42, 3) := by decide +kernel
theorem d_M_cut_98 : decode prog_14_method_54_code 98 = .ok (.aload_n 0, 1) := by decide +kernel
theorem d_M_cut_99 : decode prog_14_method_54_code 99 = .ok (.getfield 87, 3) := by decide +kernel
theorem d_M_cut_102 : decode prog_14_method_54_code 102 = .ok (.iload_n 3, 1) := by decide +kernel
theorem d_M_cut_103 : decode prog_14_method_54_code 103 = .ok (.iload 6, 2) := by decide +kernel
theorem d_M_cut_105 : decode prog_14_method_54_code 105 = .ok (.iastore, 1) := by decide +kernel
theorem d_M_cut_106 : decode prog_14_method_54_code 106 = .ok (.iload 6, 2) := by decide +kernel
theorem d_M_cut_108 : decode prog_14_method_54_code 108 = .ok (.iload_n 1, 1) := by decide +kernel
theorem d_M_cut_109 : decode prog_14_method_54_code 109 = .ok (.if_icmp .ne 7, 3) := by decide +kernel
theorem d_M_cut_112 : decode prog_14_method_54_code 112 = .ok (.iload_n 3, 1) := by decide +kernel
theorem d_M_cut_113 : decode prog_14_method_54_code 113 = .ok (.goto 5, 3) := by decide +kernel
theorem d_M_cut_116 : decode prog_14_method_54_code 116 = .ok (.iload 4, 2) := by decide +kernel
theorem d_M_cut_151 : decode prog_14_method_54_code 151 = .ok (.iload 7, 2) := by decide +kernel
theorem d_M_cut_153 : decode prog_14_method_54_code 153 = .ok (.iconst 1, 1) := by decide +kernel
theorem d_M_cut_154 : decode prog_14_method_54_code 154 = .ok (.iload_n 3, 1) := by decide +kernel
theorem d_M_cut_155 : decode prog_14_method_54_code 155 = .ok (.ishl, 1) := by decide +kernel
theorem d_M_cut_156 : decode prog_14_method_54_code 156 = .ok (.if_icmp .ge 55, 3) := by decide +kernel
theorem d_M_cut_211 : decode prog_14_method_54_code 211 = .ok (.iload 6, 2) := by decide +kernel
theorem d_M_cut_213 : decode prog_14_method_54_code 213 = .ok (.ireturn, 1) := by decide +kernel
theorem d_M_cut_159 : decode prog_14_method_54_code 159 = .ok (.iload 7, 2) := by decide +kernel
theorem d_M_cut_161 : decode prog_14_method_54_code 161 = .ok (.iload 4, 2) := by decide +kernel
theorem d_M_cut_163 : decode prog_14_method_54_code 163 = .ok (.ishr, 1) := by decide +kernel
theorem d_M_cut_164 : decode prog_14_method_54_code 164 = .ok (.iconst 1, 1) := by decide +kernel
theorem d_M_cut_165 : decode prog_14_method_54_code 165 = .ok (.iand, 1) := by decide +kernel
theorem d_M_cut_166 : decode prog_14_method_54_code 166 = .ok (.iconst 1, 1) := by decide +kernel
theorem d_M_cut_167 : decode prog_14_method_54_code 167 = .ok (.if_icmp .ne 38, 3) := by decide +kernel
theorem d_M_cut_170 : decode prog_14_method_54_code 170 = .ok (.iload 7, 2) := by decide +kernel
theorem d_M_cut_172 : decode prog_14_method_54_code 172 = .ok (.iload 5, 2) := by decide +kernel
theorem d_M_cut_174 : decode prog_14_method_54_code 174 = .ok (.ishr, 1) := by decide +kernel
theorem d_M_cut_175 : decode prog_14_method_54_code 175 = .ok (.iconst 1, 1) := by decide +kernel
theorem d_M_cut_176 : decode prog_14_method_54_code 176 = .ok (.iand, 1) := by decide +kernel
theorem d_M_cut_177 : decode prog_14_method_54_code 177 = .ok (.ifCond .ne 28, 3) := by decide +kernel
theorem d_M_cut_180 : decode prog_14_method_54_code 180 = .ok (.aload_n 0, 1) := by decide +kernel
theorem d_M_cut_181 : decode prog_14_method_54_code 181 = .ok (.iload 7, 2) := by decide +kernel
theorem d_M_cut_183 : decode prog_14_method_54_code 183 = .ok (.iload_n 3, 1) := by decide +kernel
theorem d_M_cut_184 : decode prog_14_method_54_code 184 = .ok (.invokevirtual 262, 3) := by decide +kernel
theorem d_M_crossing_0 : decode prog_14_method_55_code 0 = .ok (.iconst 0, 1) := by decide +kernel
theorem d_M_crossing_1 : decode prog_14_method_55_code 1 = .ok (.istore_n 3, 1) := by decide +kernel
theorem d_M_crossing_2 : decode prog_14_method_55_code 2 = .ok (.iconst 0, 1) := by decide +kernel
theorem d_M_crossing_3 : decode prog_14_method_55_code 3 = .ok (.istore 4, 2) := by decide +kernel
theorem d_M_crossing_5 : decode prog_14_method_55_code 5 = .ok (.iload 4, 2) := by decide +kernel
theorem d_M_crossing_7 : decode prog_14_method_55_code 7 = .ok (.iload_n 2, 1) := by decide +kernel
theorem d_M_crossing_8 : decode prog_14_method_55_code 8 = .ok (.if_icmp .ge 77, 3) := by decide +kernel
theorem d_M_crossing_85 : decode prog_14_method_55_code 85 = .ok (.iload_n 3, 1) := by decide +kernel
theorem d_M_crossing_86 : decode prog_14_method_55_code 86 = .ok (.ireturn, 1) := by decide +kernel
theorem d_M_crossing_11 : decode prog_14_method_55_code 11 = .ok (.iconst 0, 1) := by decide +kernel
theorem d_M_crossing_12 : decode prog_14_method_55_code 12 = .ok (.istore 5, 2) := by decide +kernel
theorem d_M_crossing_14 : decode prog_14_method_55_code 14 = .ok (.iload 5, 2) := by decide +kernel
theorem d_M_crossing_16 : decode prog_14_method_55_code 16 = .ok (.iload_n 2, 1) := by decide +kernel
theorem d_M_crossing_17 : decode prog_14_method_55_code 17 = .ok (.if_icmp .ge 62, 3) := by decide +kernel
theorem d_M_crossing_79 : decode prog_14_method_55_code 79 = .ok (.iinc 4 1, 3) := by decide +kernel
theorem d_M_crossing_82 : decode prog_14_method_55_code 82 = .ok (.goto (-77), 3) := by decide +kernel
theorem d_M_crossing_20 : decode prog_14_method_55_code 20 = .ok (.iload_n 3, 1) := by decide +kernel
theorem d_M_crossing_21 : decode prog_14_method_55_code 21 = .ok (.iload_n 1, 1) := by decide +kernel
theorem d_M_crossing_22 : decode prog_14_method_55_code 22 = .ok (.iload 4, 2) := by decide +kernel
theorem d_M_crossing_24 : decode prog_14_method_55_code 24 = .ok (.ishr, 1) := by decide +kernel
theorem d_M_crossing_25 : decode prog_14_method_55_code 25 = .ok (.iconst 1, 1) := by decide +kernel
theorem d_M_crossing_26 : decode prog_14_method_55_code 26 = .ok (.iand, 1) := by decide +kernel
theorem d_M_crossing_27 : decode prog_14_method_55_code 27 = .ok (.iconst 1, 1) := by decide +kernel
theorem d_M_crossing_28 : decode prog_14_method_55_code 28 = .ok (.if_icmp .ne 42, 3) := by decide +kernel
theorem d_M_crossing_31 : decode prog_14_method_55_code 31 = .ok (.iload_n 1, 1) := by decide +kernel
theorem d_M_crossing_32 : decode prog_14_method_55_code 32 = .ok (.iload 5, 2) := by decide +kernel
theorem d_M_crossing_34 : decode prog_14_method_55_code 34 = .ok (.ishr, 1) := by decide +kernel
theorem d_M_crossing_35 : decode prog_14_method_55_code 35 = .ok (.iconst 1, 1) := by decide +kernel
theorem d_M_crossing_36 : decode prog_14_method_55_code 36 = .ok (.iand, 1) := by decide +kernel
theorem d_M_crossing_37 : decode prog_14_method_55_code 37 = .ok (.ifCond .ne 33, 3) := by decide +kernel
theorem d_M_crossing_40 : decode prog_14_method_55_code 40 = .ok (.aload_n 0, 1) := by decide +kernel
theorem d_M_crossing_41 : decode prog_14_method_55_code 41 = .ok (.getfield 65, 3) := by decide +kernel
theorem d_M_crossing_44 : decode prog_14_method_55_code 44 = .ok (.bipush 36, 2) := by decide +kernel
theorem d_M_crossing_46 : decode prog_14_method_55_code 46 = .ok (.aload_n 0, 1) := by decide +kernel
theorem d_M_crossing_47 : decode prog_14_method_55_code 47 = .ok (.getfield 87, 3) := by decide +kernel
theorem d_M_crossing_50 : decode prog_14_method_55_code 50 = .ok (.iload 4, 2) := by decide +kernel
theorem d_M_crossing_52 : decode prog_14_method_55_code 52 = .ok (.iaload, 1) := by decide +kernel
theorem d_M_crossing_53 : decode prog_14_method_55_code 53 = .ok (.imul, 1) := by decide +kernel
theorem d_M_crossing_54 : decode prog_14_method_55_code 54 = .ok (.aload_n 0, 1) := by decide +kernel
theorem d_M_crossing_55 : decode prog_14_method_55_code 55 = .ok (.getfield 87, 3) := by decide +kernel
theorem d_M_crossing_58 : decode prog_14_method_55_code 58 = .ok (.iload 5, 2) := by decide +kernel
theorem d_M_crossing_60 : decode prog_14_method_55_code 60 = .ok (.iaload, 1) := by decide +kernel
theorem d_M_crossing_61 : decode prog_14_method_55_code 61 = .ok (.iadd, 1) := by decide +kernel
theorem d_M_crossing_62 : decode prog_14_method_55_code 62 = .ok (.baload, 1) := by decide +kernel
theorem d_M_crossing_63 : decode prog_14_method_55_code 63 = .ok (.ifCond .eq 7, 3) := by decide +kernel
theorem d_M_crossing_66 : decode prog_14_method_55_code 66 = .ok (.iconst 1, 1) := by decide +kernel
theorem d_M_crossing_67 : decode prog_14_method_55_code 67 = .ok (.goto 4, 3) := by decide +kernel
theorem d_M_crossing_70 : decode prog_14_method_55_code 70 = .ok (.iconst 0, 1) := by decide +kernel
theorem d_M_crossing_71 : decode prog_14_method_55_code 71 = .ok (.iadd, 1) := by decide +kernel
theorem d_M_crossing_72 : decode prog_14_method_55_code 72 = .ok (.istore_n 3, 1) := by decide +kernel
theorem d_M_crossing_73 : decode prog_14_method_55_code 73 = .ok (.iinc 5 1, 3) := by decide +kernel
theorem d_M_crossing_76 : decode prog_14_method_55_code 76 = .ok (.goto (-62), 3) := by decide +kernel
theorem d_M_cut_187 : decode prog_14_method_54_code 187 = .ok (.istore 8, 2) := by decide +kernel
theorem d_M_cut_189 : decode prog_14_method_54_code 189 = .ok (.iload 8, 2) := by decide +kernel
theorem d_M_cut_191 : decode prog_14_method_54_code 191 = .ok (.iload 6, 2) := by decide +kernel
theorem d_M_cut_193 : decode prog_14_method_54_code 193 = .ok (.if_icmp .ge 8, 3) := by decide +kernel
theorem d_M_cut_201 : decode prog_14_method_54_code 201 = .ok (.iload 6, 2) := by decide +kernel
theorem d_M_cut_196 : decode prog_14_method_54_code 196 = .ok (.iload 8, 2) := by decide +kernel
theorem d_M_cut_198 : decode prog_14_method_54_code 198 = .ok (.goto 5, 3) := by decide +kernel
theorem d_M_cut_118 : decode prog_14_method_54_code 118 = .ok (.istore 4, 2) := by decide +kernel
theorem d_M_cut_120 : decode prog_14_method_54_code 120 = .ok (.iload 6, 2) := by decide +kernel
theorem d_M_cut_122 : decode prog_14_method_54_code 122 = .ok (.iload_n 2, 1) := by decide +kernel
theorem d_M_cut_123 : decode prog_14_method_54_code 123 = .ok (.if_icmp .ne 7, 3) := by decide +kernel
theorem d_M_cut_126 : decode prog_14_method_54_code 126 = .ok (.iload_n 3, 1) := by decide +kernel
theorem d_M_cut_127 : decode prog_14_method_54_code 127 = .ok (.goto 5, 3) := by decide +kernel
theorem d_M_cut_130 : decode prog_14_method_54_code 130 = .ok (.iload 5, 2) := by decide +kernel
theorem d_M_cut_137 : decode prog_14_method_54_code 137 = .ok (.iinc 6 1, 3) := by decide +kernel
theorem d_M_cut_140 : decode prog_14_method_54_code 140 = .ok (.goto (-67), 3) := by decide +kernel
theorem d_M_cut_203 : decode prog_14_method_54_code 203 = .ok (.istore 6, 2) := by decide +kernel
theorem d_M_cut_205 : decode prog_14_method_54_code 205 = .ok (.iinc 7 1, 3) := by decide +kernel
theorem d_M_cut_208 : decode prog_14_method_54_code 208 = .ok (.goto (-57), 3) := by decide +kernel
theorem d_M_cut_132 : decode prog_14_method_54_code 132 = .ok (.istore 5, 2) := by decide +kernel
theorem d_M_cut_134 : decode prog_14_method_54_code 134 = .ok (.iinc 3 1, 3) := by decide +kernel
theorem d_M_check_0 : decode prog_14_method_56_code 0 = .ok (.aload_n 0, 1) := by decide +kernel
theorem d_M_check_1 : decode prog_14_method_56_code 1 = .ok (.iload_n 1, 1) := by decide +kernel
theorem d_M_check_2 : decode prog_14_method_56_code 2 = .ok (.iload_n 2, 1) := by decide +kernel
theorem d_M_check_3 : decode prog_14_method_56_code 3 = .ok (.invokevirtual 194, 3) := by decide +kernel
theorem d_M_check_6 : decode prog_14_method_56_code 6 = .ok (.ifCond .ne 6, 3) := by decide +kernel
theorem d_M_check_9 : decode prog_14_method_56_code 9 = .ok (.bipush (-2), 2) := by decide +kernel
theorem d_M_check_11 : decode prog_14_method_56_code 11 = .ok (.ireturn, 1) := by decide +kernel
theorem d_M_check_12 : decode prog_14_method_56_code 12 = .ok (.iconst 0, 1) := by decide +kernel
theorem d_M_check_13 : decode prog_14_method_56_code 13 = .ok (.istore 4, 2) := by decide +kernel
theorem d_M_check_15 : decode prog_14_method_56_code 15 = .ok (.iload 4, 2) := by decide +kernel
theorem d_M_check_17 : decode prog_14_method_56_code 17 = .ok (.aload_n 0, 1) := by decide +kernel
theorem d_M_check_18 : decode prog_14_method_56_code 18 = .ok (.getfield 265, 3) := by decide +kernel
theorem d_M_check_21 : decode prog_14_method_56_code 21 = .ok (.if_icmp .ge 66, 3) := by decide +kernel
theorem d_M_check_87 : decode prog_14_method_56_code 87 = .ok (.aload_n 0, 1) := by decide +kernel
theorem d_M_check_88 : decode prog_14_method_56_code 88 = .ok (.getfield 265, 3) := by decide +kernel
theorem d_M_check_91 : decode prog_14_method_56_code 91 = .ok (.bipush 40, 2) := by decide +kernel
theorem d_M_check_93 : decode prog_14_method_56_code 93 = .ok (.if_icmp .ne 6, 3) := by decide +kernel
theorem d_M_check_96 : decode prog_14_method_56_code 96 = .ok (.bipush (-4), 2) := by decide +kernel
theorem d_M_check_98 : decode prog_14_method_56_code 98 = .ok (.ireturn, 1) := by decide +kernel
theorem d_M_check_99 : decode prog_14_method_56_code 99 = .ok (.aload_n 0, 1) := by decide +kernel
theorem d_M_check_100 : decode prog_14_method_56_code 100 = .ok (.getfield 90, 3) := by decide +kernel
theorem d_M_check_103 : decode prog_14_method_56_code 103 = .ok (.aload_n 0, 1) := by decide +kernel
theorem d_M_check_104 : decode prog_14_method_56_code 104 = .ok (.getfield 265, 3) := by decide +kernel
theorem d_M_check_107 : decode prog_14_method_56_code 107 = .ok (.iload_n 1, 1) := by decide +kernel
theorem d_M_check_108 : decode prog_14_method_56_code 108 = .ok (.iastore, 1) := by decide +kernel
theorem d_M_check_109 : decode prog_14_method_56_code 109 = .ok (.aload_n 0, 1) := by decide +kernel
theorem d_M_check_110 : decode prog_14_method_56_code 110 = .ok (.getfield 93, 3) := by decide +kernel
theorem d_M_check_113 : decode prog_14_method_56_code 113 = .ok (.aload_n 0, 1) := by decide +kernel
theorem d_M_check_114 : decode prog_14_method_56_code 114 = .ok (.getfield 265, 3) := by decide +kernel
theorem d_M_check_117 : decode prog_14_method_56_code 117 = .ok (.iload_n 2, 1) := by decide +kernel
theorem d_M_check_118 : decode prog_14_method_56_code 118 = .ok (.iastore, 1) := by decide +kernel
theorem d_M_check_119 : decode prog_14_method_56_code 119 = .ok (.aload_n 0, 1) := by decide +kernel
theorem d_M_check_120 : decode prog_14_method_56_code 120 = .ok (.getfield 96, 3) := by decide +kernel
theorem d_M_check_123 : decode prog_14_method_56_code 123 = .ok (.aload_n 0, 1) := by decide +kernel
theorem d_M_check_124 : decode prog_14_method_56_code 124 = .ok (.getfield 265, 3) := by decide +kernel
theorem d_M_check_127 : decode prog_14_method_56_code 127 = .ok (.iload_n 3, 1) := by decide +kernel
theorem d_M_check_128 : decode prog_14_method_56_code 128 = .ok (.bastore, 1) := by decide +kernel
theorem d_M_check_129 : decode prog_14_method_56_code 129 = .ok (.aload_n 0, 1) := by decide +kernel
theorem d_M_check_130 : decode prog_14_method_56_code 130 = .ok (.dup, 1) := by decide +kernel
theorem d_M_check_131 : decode prog_14_method_56_code 131 = .ok (.getfield 265, 3) := by decide +kernel
theorem d_M_check_134 : decode prog_14_method_56_code 134 = .ok (.iconst 1, 1) := by decide +kernel
theorem d_M_check_135 : decode prog_14_method_56_code 135 = .ok (.iadd, 1) := by decide +kernel
theorem d_M_check_136 : decode prog_14_method_56_code 136 = .ok (.putfield 265, 3) := by decide +kernel
theorem d_M_check_139 : decode prog_14_method_56_code 139 = .ok (.aload_n 0, 1) := by decide +kernel
theorem d_M_check_140 : decode prog_14_method_56_code 140 = .ok (.getfield 265, 3) := by decide +kernel
theorem d_M_check_143 : decode prog_14_method_56_code 143 = .ok (.ireturn, 1) := by decide +kernel
theorem d_M_check_24 : decode prog_14_method_56_code 24 = .ok (.aload_n 0, 1) := by decide +kernel
theorem d_M_check_25 : decode prog_14_method_56_code 25 = .ok (.getfield 90, 3) := by decide +kernel
theorem d_M_check_28 : decode prog_14_method_56_code 28 = .ok (.iload 4, 2) := by decide +kernel
theorem d_M_check_30 : decode prog_14_method_56_code 30 = .ok (.iaload, 1) := by decide +kernel
theorem d_M_check_31 : decode prog_14_method_56_code 31 = .ok (.iload_n 1, 1) := by decide +kernel
theorem d_M_check_32 : decode prog_14_method_56_code 32 = .ok (.if_icmp .ne 14, 3) := by decide +kernel
theorem d_M_check_35 : decode prog_14_method_56_code 35 = .ok (.aload_n 0, 1) := by decide +kernel
theorem d_M_check_36 : decode prog_14_method_56_code 36 = .ok (.getfield 93, 3) := by decide +kernel
theorem d_M_check_39 : decode prog_14_method_56_code 39 = .ok (.iload 4, 2) := by decide +kernel
theorem d_M_check_41 : decode prog_14_method_56_code 41 = .ok (.iaload, 1) := by decide +kernel
theorem d_M_check_42 : decode prog_14_method_56_code 42 = .ok (.iload_n 2, 1) := by decide +kernel
theorem d_M_check_43 : decode prog_14_method_56_code 43 = .ok (.if_icmp .eq 25, 3) := by decide +kernel
theorem d_M_check_68 : decode prog_14_method_56_code 68 = .ok (.aload_n 0, 1) := by decide +kernel
theorem d_M_check_69 : decode prog_14_method_56_code 69 = .ok (.getfield 96, 3) := by decide +kernel
theorem d_M_check_72 : decode prog_14_method_56_code 72 = .ok (.iload 4, 2) := by decide +kernel
theorem d_M_check_74 : decode prog_14_method_56_code 74 = .ok (.iload_n 3, 1) := by decide +kernel
theorem d_M_check_75 : decode prog_14_method_56_code 75 = .ok (.bastore, 1) := by decide +kernel
theorem d_M_check_76 : decode prog_14_method_56_code 76 = .ok (.aload_n 0, 1) := by decide +kernel
theorem d_M_check_77 : decode prog_14_method_56_code 77 = .ok (.getfield 265, 3) := by decide +kernel
theorem d_M_check_80 : decode prog_14_method_56_code 80 = .ok (.ireturn, 1) := by decide +kernel
theorem d_M_check_46 : decode prog_14_method_56_code 46 = .ok (.aload_n 0, 1) := by decide +kernel
theorem d_M_check_47 : decode prog_14_method_56_code 47 = .ok (.getfield 90, 3) := by decide +kernel
theorem d_M_check_50 : decode prog_14_method_56_code 50 = .ok (.iload 4, 2) := by decide +kernel
theorem d_M_check_52 : decode prog_14_method_56_code 52 = .ok (.iaload, 1) := by decide +kernel
theorem d_M_check_53 : decode prog_14_method_56_code 53 = .ok (.iload_n 2, 1) := by decide +kernel
theorem d_M_check_54 : decode prog_14_method_56_code 54 = .ok (.if_icmp .ne 27, 3) := by decide +kernel
theorem d_M_check_57 : decode prog_14_method_56_code 57 = .ok (.aload_n 0, 1) := by decide +kernel
theorem d_M_check_58 : decode prog_14_method_56_code 58 = .ok (.getfield 93, 3) := by decide +kernel
theorem d_M_check_61 : decode prog_14_method_56_code 61 = .ok (.iload 4, 2) := by decide +kernel
theorem d_M_check_63 : decode prog_14_method_56_code 63 = .ok (.iaload, 1) := by decide +kernel
theorem d_M_check_64 : decode prog_14_method_56_code 64 = .ok (.iload_n 1, 1) := by decide +kernel
theorem d_M_check_65 : decode prog_14_method_56_code 65 = .ok (.if_icmp .ne 16, 3) := by decide +kernel
theorem d_M_check_81 : decode prog_14_method_56_code 81 = .ok (.iinc 4 1, 3) := by decide +kernel
theorem d_M_check_84 : decode prog_14_method_56_code 84 = .ok (.goto (-69), 3) := by decide +kernel
theorem d_M_checked_0 : decode prog_14_method_59_code 0 = .ok (.iload_n 1, 1) := by decide +kernel
theorem d_M_checked_1 : decode prog_14_method_59_code 1 = .ok (.iconst 0, 1) := by decide +kernel
theorem d_M_checked_2 : decode prog_14_method_59_code 2 = .ok (.iconst 3, 1) := by decide +kernel
theorem d_M_checked_3 : decode prog_14_method_59_code 3 = .ok (.invokestatic 133, 3) := by decide +kernel
theorem d_M_checked_6 : decode prog_14_method_59_code 6 = .ok (.ifCond .eq 11, 3) := by decide +kernel
theorem d_M_checked_17 : decode prog_14_method_59_code 17 = .ok (.bipush (-2), 2) := by decide +kernel
theorem d_M_checked_19 : decode prog_14_method_59_code 19 = .ok (.ireturn, 1) := by decide +kernel
theorem d_M_checked_9 : decode prog_14_method_59_code 9 = .ok (.aload_n 0, 1) := by decide +kernel
theorem d_M_checked_10 : decode prog_14_method_59_code 10 = .ok (.iload_n 1, 1) := by decide +kernel
theorem d_M_checked_11 : decode prog_14_method_59_code 11 = .ok (.invokevirtual 271, 3) := by decide +kernel
theorem d_M_checkedOf_0 : decode prog_14_method_58_code 0 = .ok (.iconst 0, 1) := by decide +kernel
theorem d_M_checkedOf_1 : decode prog_14_method_58_code 1 = .ok (.istore_n 2, 1) := by decide +kernel
theorem d_M_checkedOf_2 : decode prog_14_method_58_code 2 = .ok (.iconst 0, 1) := by decide +kernel
theorem d_M_checkedOf_3 : decode prog_14_method_58_code 3 = .ok (.istore_n 3, 1) := by decide +kernel
theorem d_M_checkedOf_4 : decode prog_14_method_58_code 4 = .ok (.iload_n 3, 1) := by decide +kernel
theorem d_M_checkedOf_5 : decode prog_14_method_58_code 5 = .ok (.aload_n 0, 1) := by decide +kernel
theorem d_M_checkedOf_6 : decode prog_14_method_58_code 6 = .ok (.getfield 265, 3) := by decide +kernel
theorem d_M_checkedOf_9 : decode prog_14_method_58_code 9 = .ok (.if_icmp .ge 62, 3) := by decide +kernel
theorem d_M_checkedOf_71 : decode prog_14_method_58_code 71 = .ok (.iload_n 2, 1) := by decide +kernel
theorem d_M_checkedOf_72 : decode prog_14_method_58_code 72 = .ok (.ireturn, 1) := by decide +kernel
theorem d_M_checkedOf_12 : decode prog_14_method_58_code 12 = .ok (.iload_n 2, 1) := by decide +kernel
theorem d_M_checkedOf_13 : decode prog_14_method_58_code 13 = .ok (.iload_n 1, 1) := by decide +kernel
theorem d_M_checkedOf_14 : decode prog_14_method_58_code 14 = .ok (.ifCond .eq 44, 3) := by decide +kernel
theorem d_M_checkedOf_17 : decode prog_14_method_58_code 17 = .ok (.iload_n 1, 1) := by decide +kernel
theorem d_M_checkedOf_18 : decode prog_14_method_58_code 18 = .ok (.iconst 1, 1) := by decide +kernel
theorem d_M_checkedOf_19 : decode prog_14_method_58_code 19 = .ok (.if_icmp .ne 12, 3) := by decide +kernel
theorem d_M_checkedOf_22 : decode prog_14_method_58_code 22 = .ok (.aload_n 0, 1) := by decide +kernel
theorem d_M_checkedOf_23 : decode prog_14_method_58_code 23 = .ok (.getfield 96, 3) := by decide +kernel
theorem d_M_checkedOf_26 : decode prog_14_method_58_code 26 = .ok (.iload_n 3, 1) := by decide +kernel
theorem d_M_checkedOf_27 : decode prog_14_method_58_code 27 = .ok (.baload, 1) := by decide +kernel
theorem d_M_checkedOf_28 : decode prog_14_method_58_code 28 = .ok (.ifCond .ne 30, 3) := by decide +kernel
theorem d_M_checkedOf_58 : decode prog_14_method_58_code 58 = .ok (.iconst 1, 1) := by decide +kernel
theorem d_M_checkedOf_59 : decode prog_14_method_58_code 59 = .ok (.goto 4, 3) := by decide +kernel
theorem d_M_checkedOf_31 : decode prog_14_method_58_code 31 = .ok (.iload_n 1, 1) := by decide +kernel
theorem d_M_checkedOf_32 : decode prog_14_method_58_code 32 = .ok (.iconst 1, 1) := by decide +kernel
theorem d_M_checkedOf_33 : decode prog_14_method_58_code 33 = .ok (.if_icmp .le 29, 3) := by decide +kernel
theorem d_M_checkedOf_36 : decode prog_14_method_58_code 36 = .ok (.aload_n 0, 1) := by decide +kernel
theorem d_M_checkedOf_37 : decode prog_14_method_58_code 37 = .ok (.iload_n 3, 1) := by decide +kernel
theorem d_M_checkedOf_38 : decode prog_14_method_58_code 38 = .ok (.invokevirtual 268, 3) := by decide +kernel
theorem d_M_isCheckedLink_0 : decode prog_14_method_57_code 0 = .ok (.aload_n 0, 1) := by decide +kernel
theorem d_M_isCheckedLink_1 : decode prog_14_method_57_code 1 = .ok (.getfield 90, 3) := by decide +kernel
theorem d_M_isCheckedLink_4 : decode prog_14_method_57_code 4 = .ok (.iload_n 1, 1) := by decide +kernel
theorem d_M_isCheckedLink_5 : decode prog_14_method_57_code 5 = .ok (.iaload, 1) := by decide +kernel
theorem d_M_isCheckedLink_6 : decode prog_14_method_57_code 6 = .ok (.istore_n 2, 1) := by decide +kernel
theorem d_M_isCheckedLink_7 : decode prog_14_method_57_code 7 = .ok (.aload_n 0, 1) := by decide +kernel
theorem d_M_isCheckedLink_8 : decode prog_14_method_57_code 8 = .ok (.getfield 93, 3) := by decide +kernel
theorem d_M_isCheckedLink_11 : decode prog_14_method_57_code 11 = .ok (.iload_n 1, 1) := by decide +kernel
theorem d_M_isCheckedLink_12 : decode prog_14_method_57_code 12 = .ok (.iaload, 1) := by decide +kernel
theorem d_M_isCheckedLink_13 : decode prog_14_method_57_code 13 = .ok (.istore_n 3, 1) := by decide +kernel
theorem d_M_isCheckedLink_14 : decode prog_14_method_57_code 14 = .ok (.aload_n 0, 1) := by decide +kernel
theorem d_M_isCheckedLink_15 : decode prog_14_method_57_code 15 = .ok (.iload_n 2, 1) := by decide +kernel
theorem d_M_isCheckedLink_16 : decode prog_14_method_57_code 16 = .ok (.invokevirtual 151, 3) := by decide +kernel
theorem d_M_isCheckedLink_19 : decode prog_14_method_57_code 19 = .ok (.ifCond .eq 28, 3) := by decide +kernel
theorem d_M_isCheckedLink_47 : decode prog_14_method_57_code 47 = .ok (.iconst 0, 1) := by decide +kernel
theorem d_M_isCheckedLink_48 : decode prog_14_method_57_code 48 = .ok (.ireturn, 1) := by decide +kernel
theorem d_M_isCheckedLink_22 : decode prog_14_method_57_code 22 = .ok (.aload_n 0, 1) := by decide +kernel
theorem d_M_isCheckedLink_23 : decode prog_14_method_57_code 23 = .ok (.iload_n 3, 1) := by decide +kernel
theorem d_M_isCheckedLink_24 : decode prog_14_method_57_code 24 = .ok (.invokevirtual 151, 3) := by decide +kernel
theorem d_M_isCheckedLink_27 : decode prog_14_method_57_code 27 = .ok (.ifCond .eq 20, 3) := by decide +kernel
theorem d_M_isCheckedLink_30 : decode prog_14_method_57_code 30 = .ok (.aload_n 0, 1) := by decide +kernel
theorem d_M_isCheckedLink_31 : decode prog_14_method_57_code 31 = .ok (.iload_n 2, 1) := by decide +kernel
theorem d_M_isCheckedLink_32 : decode prog_14_method_57_code 32 = .ok (.iload_n 3, 1) := by decide +kernel
theorem d_M_isCheckedLink_33 : decode prog_14_method_57_code 33 = .ok (.invokevirtual 201, 3) := by decide +kernel
theorem d_M_isCheckedLink_36 : decode prog_14_method_57_code 36 = .ok (.aload_n 0, 1) := by decide +kernel
theorem d_M_isCheckedLink_37 : decode prog_14_method_57_code 37 = .ok (.getfield 62, 3) := by decide +kernel
theorem d_M_isCheckedLink_40 : decode prog_14_method_57_code 40 = .ok (.if_icmp .lt 7, 3) := by decide +kernel
theorem d_M_isCheckedLink_43 : decode prog_14_method_57_code 43 = .ok (.iconst 1, 1) := by decide +kernel
theorem d_M_isCheckedLink_44 : decode prog_14_method_57_code 44 = .ok (.goto 4, 3) := by decide +kernel
theorem d_M_checkedOf_41 : decode prog_14_method_58_code 41 = .ok (.ifCond .eq 21, 3) := by decide +kernel
theorem d_M_checkedOf_44 : decode prog_14_method_58_code 44 = .ok (.iload_n 1, 1) := by decide +kernel
theorem d_M_checkedOf_45 : decode prog_14_method_58_code 45 = .ok (.iconst 2, 1) := by decide +kernel
theorem d_M_checkedOf_46 : decode prog_14_method_58_code 46 = .ok (.if_icmp .eq 12, 3) := by decide +kernel
theorem d_M_checkedOf_49 : decode prog_14_method_58_code 49 = .ok (.aload_n 0, 1) := by decide +kernel
theorem d_M_checkedOf_50 : decode prog_14_method_58_code 50 = .ok (.getfield 96, 3) := by decide +kernel
theorem d_M_checkedOf_53 : decode prog_14_method_58_code 53 = .ok (.iload_n 3, 1) := by decide +kernel
theorem d_M_checkedOf_54 : decode prog_14_method_58_code 54 = .ok (.baload, 1) := by decide +kernel
theorem d_M_checkedOf_55 : decode prog_14_method_58_code 55 = .ok (.ifCond .ne 7, 3) := by decide +kernel
theorem d_M_checkedOf_63 : decode prog_14_method_58_code 63 = .ok (.iadd, 1) := by decide +kernel
theorem d_M_checkedOf_64 : decode prog_14_method_58_code 64 = .ok (.istore_n 2, 1) := by decide +kernel
theorem d_M_checkedOf_65 : decode prog_14_method_58_code 65 = .ok (.iinc 3 1, 3) := by decide +kernel
theorem d_M_checkedOf_68 : decode prog_14_method_58_code 68 = .ok (.goto (-64), 3) := by decide +kernel
theorem d_M_checkedOf_62 : decode prog_14_method_58_code 62 = .ok (.iconst 0, 1) := by decide +kernel
theorem d_M_checked_14 : decode prog_14_method_59_code 14 = .ok (.goto 5, 3) := by decide +kernel
theorem d_M_bound_0 : decode prog_14_method_61_code 0 = .ok (.iload_n 1, 1) := by decide +kernel
theorem d_M_bound_1 : decode prog_14_method_61_code 1 = .ok (.iconst 0, 1) := by decide +kernel
theorem d_M_bound_2 : decode prog_14_method_61_code 2 = .ok (.iconst 1, 1) := by decide +kernel
theorem d_M_bound_3 : decode prog_14_method_61_code 3 = .ok (.invokestatic 133, 3) := by decide +kernel
theorem d_M_bound_6 : decode prog_14_method_61_code 6 = .ok (.ifCond .ne 6, 3) := by decide +kernel
theorem d_M_bound_9 : decode prog_14_method_61_code 9 = .ok (.bipush (-2), 2) := by decide +kernel
theorem d_M_bound_11 : decode prog_14_method_61_code 11 = .ok (.ireturn, 1) := by decide +kernel
theorem d_M_bound_12 : decode prog_14_method_61_code 12 = .ok (.aload_n 0, 1) := by decide +kernel
theorem d_M_bound_13 : decode prog_14_method_61_code 13 = .ok (.invokevirtual 226, 3) := by decide +kernel
theorem d_M_bound_16 : decode prog_14_method_61_code 16 = .ok (.aload_n 0, 1) := by decide +kernel
theorem d_M_bound_17 : decode prog_14_method_61_code 17 = .ok (.getfield 223, 3) := by decide +kernel
theorem d_M_bound_20 : decode prog_14_method_61_code 20 = .ok (.ifCond .ne 6, 3) := by decide +kernel
theorem d_M_bound_23 : decode prog_14_method_61_code 23 = .ok (.bipush (-3), 2) := by decide +kernel
theorem d_M_bound_25 : decode prog_14_method_61_code 25 = .ok (.ireturn, 1) := by decide +kernel
theorem d_M_bound_26 : decode prog_14_method_61_code 26 = .ok (.aload_n 0, 1) := by decide +kernel
theorem d_M_bound_27 : decode prog_14_method_61_code 27 = .ok (.getfield 223, 3) := by decide +kernel
theorem d_M_bound_30 : decode prog_14_method_61_code 30 = .ok (.bipush 60, 2) := by decide +kernel
theorem d_M_bound_32 : decode prog_14_method_61_code 32 = .ok (.if_icmp .le 6, 3) := by decide +kernel
theorem d_M_bound_38 : decode prog_14_method_61_code 38 = .ok (.aload_n 0, 1) := by decide +kernel
theorem d_M_bound_39 : decode prog_14_method_61_code 39 = .ok (.iconst 2, 1) := by decide +kernel
theorem d_M_bound_40 : decode prog_14_method_61_code 40 = .ok (.invokevirtual 271, 3) := by decide +kernel
theorem d_M_bound_43 : decode prog_14_method_61_code 43 = .ok (.istore_n 2, 1) := by decide +kernel
theorem d_M_bound_44 : decode prog_14_method_61_code 44 = .ok (.aload_n 0, 1) := by decide +kernel
theorem d_M_bound_45 : decode prog_14_method_61_code 45 = .ok (.iconst 3, 1) := by decide +kernel
theorem d_M_bound_46 : decode prog_14_method_61_code 46 = .ok (.invokevirtual 271, 3) := by decide +kernel
theorem d_M_bound_49 : decode prog_14_method_61_code 49 = .ok (.istore_n 3, 1) := by decide +kernel
theorem d_M_bound_50 : decode prog_14_method_61_code 50 = .ok (.iconst (-1), 1) := by decide +kernel
theorem d_M_bound_51 : decode prog_14_method_61_code 51 = .ok (.istore 4, 2) := by decide +kernel
theorem d_M_bound_53 : decode prog_14_method_61_code 53 = .ok (.iconst 0, 1) := by decide +kernel
theorem d_M_bound_54 : decode prog_14_method_61_code 54 = .ok (.istore 5, 2) := by decide +kernel
theorem d_M_bound_35 : decode prog_14_method_61_code 35 = .ok (.bipush (-4), 2) := by decide +kernel
theorem d_M_bound_37 : decode prog_14_method_61_code 37 = .ok (.ireturn, 1) := by decide +kernel
theorem d_M_bound_56 : decode prog_14_method_61_code 56 = .ok (.iload 5, 2) := by decide +kernel
theorem d_M_bound_58 : decode prog_14_method_61_code 58 = .ok (.aload_n 0, 1) := by decide +kernel
theorem d_M_bound_59 : decode prog_14_method_61_code 59 = .ok (.getfield 223, 3) := by decide +kernel
theorem d_M_bound_62 : decode prog_14_method_61_code 62 = .ok (.if_icmp .gt 35, 3) := by decide +kernel
theorem d_M_bound_97 : decode prog_14_method_61_code 97 = .ok (.iload 4, 2) := by decide +kernel
theorem d_M_bound_99 : decode prog_14_method_61_code 99 = .ok (.ireturn, 1) := by decide +kernel
theorem d_M_bound_65 : decode prog_14_method_61_code 65 = .ok (.aload_n 0, 1) := by decide +kernel
theorem d_M_bound_66 : decode prog_14_method_61_code 66 = .ok (.iload 5, 2) := by decide +kernel
theorem d_M_bound_68 : decode prog_14_method_61_code 68 = .ok (.iload_n 2, 1) := by decide +kernel
theorem d_M_bound_69 : decode prog_14_method_61_code 69 = .ok (.iload_n 3, 1) := by decide +kernel
theorem d_M_bound_70 : decode prog_14_method_61_code 70 = .ok (.invokevirtual 274, 3) := by decide +kernel
theorem d_M_isLikely_0 : decode prog_14_method_62_code 0 = .ok (.aload_n 0, 1) := by decide +kernel
theorem d_M_isLikely_1 : decode prog_14_method_62_code 1 = .ok (.getfield 99, 3) := by decide +kernel
theorem d_M_isLikely_4 : decode prog_14_method_62_code 4 = .ok (.iload_n 1, 1) := by decide +kernel
theorem d_M_isLikely_5 : decode prog_14_method_62_code 5 = .ok (.invokestatic 277, 3) := by decide +kernel
theorem d_M_waysOf_0 : decode prog_14_method_60_code 0 = .ok (.aload_n 0, 1) := by decide +kernel
theorem d_M_waysOf_1 : decode prog_14_method_60_code 1 = .ok (.iconst 0, 1) := by decide +kernel
theorem d_M_waysOf_2 : decode prog_14_method_60_code 2 = .ok (.lconst 1, 1) := by decide +kernel
theorem d_M_waysOf_3 : decode prog_14_method_60_code 3 = .ok (.lastore, 1) := by decide +kernel
theorem d_M_waysOf_4 : decode prog_14_method_60_code 4 = .ok (.iconst 1, 1) := by decide +kernel
theorem d_M_waysOf_5 : decode prog_14_method_60_code 5 = .ok (.istore_n 2, 1) := by decide +kernel
theorem d_M_waysOf_6 : decode prog_14_method_60_code 6 = .ok (.iload_n 2, 1) := by decide +kernel
theorem d_M_waysOf_7 : decode prog_14_method_60_code 7 = .ok (.bipush 62, 2) := by decide +kernel
theorem d_M_waysOf_9 : decode prog_14_method_60_code 9 = .ok (.if_icmp .ge 13, 3) := by decide +kernel
theorem d_M_waysOf_22 : decode prog_14_method_60_code 22 = .ok (.iconst 0, 1) := by decide +kernel
theorem d_M_waysOf_23 : decode prog_14_method_60_code 23 = .ok (.istore_n 2, 1) := by decide +kernel
theorem d_M_waysOf_12 : decode prog_14_method_60_code 12 = .ok (.aload_n 0, 1) := by decide +kernel
theorem d_M_waysOf_13 : decode prog_14_method_60_code 13 = .ok (.iload_n 2, 1) := by decide +kernel
theorem d_M_waysOf_14 : decode prog_14_method_60_code 14 = .ok (.lconst 0, 1) := by decide +kernel
theorem d_M_waysOf_15 : decode prog_14_method_60_code 15 = .ok (.lastore, 1) := by decide +kernel
theorem d_M_waysOf_16 : decode prog_14_method_60_code 16 = .ok (.iinc 2 1, 3) := by decide +kernel
theorem d_M_waysOf_19 : decode prog_14_method_60_code 19 = .ok (.goto (-13), 3) := by decide +kernel
theorem d_M_waysOf_24 : decode prog_14_method_60_code 24 = .ok (.iload_n 2, 1) := by decide +kernel
theorem d_M_waysOf_25 : decode prog_14_method_60_code 25 = .ok (.iload_n 1, 1) := by decide +kernel
theorem d_M_waysOf_26 : decode prog_14_method_60_code 26 = .ok (.if_icmp .ge 34, 3) := by decide +kernel
theorem d_M_waysOf_60 : decode prog_14_method_60_code 60 = .ok (.return_, 1) := by decide +kernel
theorem d_M_waysOf_29 : decode prog_14_method_60_code 29 = .ok (.iload_n 2, 1) := by decide +kernel
theorem d_M_waysOf_30 : decode prog_14_method_60_code 30 = .ok (.iconst 1, 1) := by decide +kernel
theorem d_M_waysOf_31 : decode prog_14_method_60_code 31 = .ok (.iadd, 1) := by decide +kernel
theorem d_M_waysOf_32 : decode prog_14_method_60_code 32 = .ok (.istore_n 3, 1) := by decide +kernel
theorem d_M_waysOf_33 : decode prog_14_method_60_code 33 = .ok (.iload_n 3, 1) := by decide +kernel
theorem d_M_waysOf_34 : decode prog_14_method_60_code 34 = .ok (.ifCond .le 20, 3) := by decide +kernel
theorem d_M_waysOf_54 : decode prog_14_method_60_code 54 = .ok (.iinc 2 1, 3) := by decide +kernel
theorem d_M_waysOf_57 : decode prog_14_method_60_code 57 = .ok (.goto (-33), 3) := by decide +kernel
theorem d_M_waysOf_37 : decode prog_14_method_60_code 37 = .ok (.aload_n 0, 1) := by decide +kernel
theorem d_M_waysOf_38 : decode prog_14_method_60_code 38 = .ok (.iload_n 3, 1) := by decide +kernel
theorem d_M_waysOf_39 : decode prog_14_method_60_code 39 = .ok (.dup2, 1) := by decide +kernel
theorem d_M_waysOf_40 : decode prog_14_method_60_code 40 = .ok (.laload, 1) := by decide +kernel
theorem d_M_waysOf_41 : decode prog_14_method_60_code 41 = .ok (.aload_n 0, 1) := by decide +kernel
theorem d_M_waysOf_42 : decode prog_14_method_60_code 42 = .ok (.iload_n 3, 1) := by decide +kernel
theorem d_M_waysOf_43 : decode prog_14_method_60_code 43 = .ok (.iconst 1, 1) := by decide +kernel
theorem d_M_waysOf_44 : decode prog_14_method_60_code 44 = .ok (.isub, 1) := by decide +kernel
theorem d_M_waysOf_45 : decode prog_14_method_60_code 45 = .ok (.laload, 1) := by decide +kernel
theorem d_M_waysOf_46 : decode prog_14_method_60_code 46 = .ok (.ladd, 1) := by decide +kernel
theorem d_M_waysOf_47 : decode prog_14_method_60_code 47 = .ok (.lastore, 1) := by decide +kernel
theorem d_M_waysOf_48 : decode prog_14_method_60_code 48 = .ok (.iinc 3 (-1), 3) := by decide +kernel
theorem d_M_waysOf_51 : decode prog_14_method_60_code 51 = .ok (.goto (-18), 3) := by decide +kernel
theorem d_M_isLikely_8 : decode prog_14_method_62_code 8 = .ok (.aload_n 0, 1) := by decide +kernel
theorem d_M_isLikely_9 : decode prog_14_method_62_code 9 = .ok (.getfield 103, 3) := by decide +kernel
theorem d_M_isLikely_12 : decode prog_14_method_62_code 12 = .ok (.aload_n 0, 1) := by decide +kernel
theorem d_M_isLikely_13 : decode prog_14_method_62_code 13 = .ok (.getfield 223, 3) := by decide +kernel
theorem d_M_isLikely_16 : decode prog_14_method_62_code 16 = .ok (.iload_n 1, 1) := by decide +kernel
theorem d_M_isLikely_17 : decode prog_14_method_62_code 17 = .ok (.isub, 1) := by decide +kernel
theorem d_M_isLikely_18 : decode prog_14_method_62_code 18 = .ok (.invokestatic 277, 3) := by decide +kernel
theorem d_M_isLikely_21 : decode prog_14_method_62_code 21 = .ok (.aload_n 0, 1) := by decide +kernel
theorem d_M_isLikely_22 : decode prog_14_method_62_code 22 = .ok (.getfield 106, 3) := by decide +kernel
theorem d_M_isLikely_25 : decode prog_14_method_62_code 25 = .ok (.aload_n 0, 1) := by decide +kernel
theorem d_M_isLikely_26 : decode prog_14_method_62_code 26 = .ok (.getfield 223, 3) := by decide +kernel
theorem d_M_isLikely_29 : decode prog_14_method_62_code 29 = .ok (.invokestatic 277, 3) := by decide +kernel
theorem d_M_isLikely_32 : decode prog_14_method_62_code 32 = .ok (.lconst 0, 1) := by decide +kernel
theorem d_M_isLikely_33 : decode prog_14_method_62_code 33 = .ok (.lstore 4, 2) := by decide +kernel
theorem d_M_isLikely_35 : decode prog_14_method_62_code 35 = .ok (.lconst 0, 1) := by decide +kernel
theorem d_M_isLikely_36 : decode prog_14_method_62_code 36 = .ok (.lstore 6, 2) := by decide +kernel
theorem d_M_isLikely_38 : decode prog_14_method_62_code 38 = .ok (.iconst 0, 1) := by decide +kernel
theorem d_M_isLikely_39 : decode prog_14_method_62_code 39 = .ok (.istore 8, 2) := by decide +kernel
theorem d_M_isLikely_41 : decode prog_14_method_62_code 41 = .ok (.iload 8, 2) := by decide +kernel
theorem d_M_isLikely_43 : decode prog_14_method_62_code 43 = .ok (.iload_n 2, 1) := by decide +kernel
theorem d_M_isLikely_44 : decode prog_14_method_62_code 44 = .ok (.if_icmp .gt 62, 3) := by decide +kernel
theorem d_M_isLikely_106 : decode prog_14_method_62_code 106 = .ok (.ldc2_w 281, 3) := by decide +kernel
theorem d_M_isLikely_109 : decode prog_14_method_62_code 109 = .ok (.lload 4, 2) := by decide +kernel
theorem d_M_isLikely_111 : decode prog_14_method_62_code 111 = .ok (.lmul, 1) := by decide +kernel
theorem d_M_isLikely_112 : decode prog_14_method_62_code 112 = .ok (.aload_n 0, 1) := by decide +kernel
theorem d_M_isLikely_113 : decode prog_14_method_62_code 113 = .ok (.getfield 106, 3) := by decide +kernel
theorem d_M_isLikely_116 : decode prog_14_method_62_code 116 = .ok (.iload_n 2, 1) := by decide +kernel
theorem d_M_isLikely_117 : decode prog_14_method_62_code 117 = .ok (.laload, 1) := by decide +kernel
theorem d_M_isLikely_118 : decode prog_14_method_62_code 118 = .ok (.lcmp, 1) := by decide +kernel
theorem d_M_isLikely_119 : decode prog_14_method_62_code 119 = .ok (.ifCond .lt 23, 3) := by decide +kernel
theorem d_M_isLikely_142 : decode prog_14_method_62_code 142 = .ok (.iconst 0, 1) := by decide +kernel
theorem d_M_isLikely_143 : decode prog_14_method_62_code 143 = .ok (.ireturn, 1) := by decide +kernel
theorem d_M_isLikely_122 : decode prog_14_method_62_code 122 = .ok (.ldc2_w 281, 3) := by decide +kernel
theorem d_M_isLikely_125 : decode prog_14_method_62_code 125 = .ok (.lload 6, 2) := by decide +kernel
theorem d_M_isLikely_127 : decode prog_14_method_62_code 127 = .ok (.lmul, 1) := by decide +kernel
theorem d_M_isLikely_128 : decode prog_14_method_62_code 128 = .ok (.aload_n 0, 1) := by decide +kernel
theorem d_M_isLikely_129 : decode prog_14_method_62_code 129 = .ok (.getfield 106, 3) := by decide +kernel
theorem d_M_isLikely_132 : decode prog_14_method_62_code 132 = .ok (.iload_n 2, 1) := by decide +kernel
theorem d_M_isLikely_133 : decode prog_14_method_62_code 133 = .ok (.laload, 1) := by decide +kernel
theorem d_M_isLikely_134 : decode prog_14_method_62_code 134 = .ok (.lcmp, 1) := by decide +kernel
theorem d_M_isLikely_135 : decode prog_14_method_62_code 135 = .ok (.ifCond .lt 7, 3) := by decide +kernel
theorem d_M_isLikely_138 : decode prog_14_method_62_code 138 = .ok (.iconst 1, 1) := by decide +kernel
theorem d_M_isLikely_139 : decode prog_14_method_62_code 139 = .ok (.goto 4, 3) := by decide +kernel
theorem d_M_isLikely_47 : decode prog_14_method_62_code 47 = .ok (.aload_n 0, 1) := by decide +kernel
theorem d_M_isLikely_48 : decode prog_14_method_62_code 48 = .ok (.getfield 99, 3) := by decide +kernel
theorem d_M_isLikely_51 : decode prog_14_method_62_code 51 = .ok (.iload 8, 2) := by decide +kernel
theorem d_M_isLikely_53 : decode prog_14_method_62_code 53 = .ok (.laload, 1) := by decide +kernel
theorem d_M_isLikely_54 : decode prog_14_method_62_code 54 = .ok (.aload_n 0, 1) := by decide +kernel
theorem d_M_isLikely_55 : decode prog_14_method_62_code 55 = .ok (.getfield 103, 3) := by decide +kernel
theorem d_M_isLikely_58 : decode prog_14_method_62_code 58 = .ok (.iload_n 2, 1) := by decide +kernel
theorem d_M_isLikely_59 : decode prog_14_method_62_code 59 = .ok (.iload 8, 2) := by decide +kernel
theorem d_M_isLikely_61 : decode prog_14_method_62_code 61 = .ok (.isub, 1) := by decide +kernel
theorem d_M_isLikely_62 : decode prog_14_method_62_code 62 = .ok (.laload, 1) := by decide +kernel
theorem d_M_isLikely_63 : decode prog_14_method_62_code 63 = .ok (.lmul, 1) := by decide +kernel
theorem d_M_isLikely_64 : decode prog_14_method_62_code 64 = .ok (.lstore 9, 2) := by decide +kernel
theorem d_M_isLikely_66 : decode prog_14_method_62_code 66 = .ok (.lload 4, 2) := by decide +kernel
theorem d_M_isLikely_68 : decode prog_14_method_62_code 68 = .ok (.iload 8, 2) := by decide +kernel
theorem d_M_isLikely_70 : decode prog_14_method_62_code 70 = .ok (.iload_n 3, 1) := by decide +kernel
theorem d_M_isLikely_71 : decode prog_14_method_62_code 71 = .ok (.if_icmp .gt 8, 3) := by decide +kernel
theorem d_M_isLikely_79 : decode prog_14_method_62_code 79 = .ok (.lconst 0, 1) := by decide +kernel
theorem d_M_isLikely_74 : decode prog_14_method_62_code 74 = .ok (.lload 9, 2) := by decide +kernel
theorem d_M_isLikely_76 : decode prog_14_method_62_code 76 = .ok (.goto 4, 3) := by decide +kernel
theorem d_M_isLikely_80 : decode prog_14_method_62_code 80 = .ok (.ladd, 1) := by decide +kernel
theorem d_M_isLikely_81 : decode prog_14_method_62_code 81 = .ok (.lstore 4, 2) := by decide +kernel
theorem d_M_isLikely_83 : decode prog_14_method_62_code 83 = .ok (.lload 6, 2) := by decide +kernel
theorem d_M_isLikely_85 : decode prog_14_method_62_code 85 = .ok (.iload 8, 2) := by decide +kernel
theorem d_M_isLikely_87 : decode prog_14_method_62_code 87 = .ok (.iload_n 3, 1) := by decide +kernel
theorem d_M_isLikely_88 : decode prog_14_method_62_code 88 = .ok (.if_icmp .lt 8, 3) := by decide +kernel
theorem d_M_isLikely_96 : decode prog_14_method_62_code 96 = .ok (.lconst 0, 1) := by decide +kernel
theorem d_M_isLikely_91 : decode prog_14_method_62_code 91 = .ok (.lload 9, 2) := by decide +kernel
theorem d_M_isLikely_93 : decode prog_14_method_62_code 93 = .ok (.goto 4, 3) := by decide +kernel
theorem d_M_isLikely_97 : decode prog_14_method_62_code 97 = .ok (.ladd, 1) := by decide +kernel
theorem d_M_isLikely_98 : decode prog_14_method_62_code 98 = .ok (.lstore 6, 2) := by decide +kernel
theorem d_M_isLikely_100 : decode prog_14_method_62_code 100 = .ok (.iinc 8 1, 3) := by decide +kernel
theorem d_M_isLikely_103 : decode prog_14_method_62_code 103 = .ok (.goto (-62), 3) := by decide +kernel
theorem d_M_bound_73 : decode prog_14_method_61_code 73 = .ok (.ifCond .eq 18, 3) := by decide +kernel
theorem d_M_bound_76 : decode prog_14_method_61_code 76 = .ok (.iload_n 1, 1) := by decide +kernel
theorem d_M_bound_77 : decode prog_14_method_61_code 77 = .ok (.iconst 1, 1) := by decide +kernel
theorem d_M_bound_78 : decode prog_14_method_61_code 78 = .ok (.if_icmp .eq 9, 3) := by decide +kernel
theorem d_M_bound_81 : decode prog_14_method_61_code 81 = .ok (.iload 4, 2) := by decide +kernel
theorem d_M_bound_83 : decode prog_14_method_61_code 83 = .ok (.iconst (-1), 1) := by decide +kernel
theorem d_M_bound_84 : decode prog_14_method_61_code 84 = .ok (.if_icmp .ne 7, 3) := by decide +kernel
theorem d_M_bound_91 : decode prog_14_method_61_code 91 = .ok (.iinc 5 1, 3) := by decide +kernel
theorem d_M_bound_94 : decode prog_14_method_61_code 94 = .ok (.goto (-38), 3) := by decide +kernel
theorem d_M_bound_87 : decode prog_14_method_61_code 87 = .ok (.iload 5, 2) := by decide +kernel
theorem d_M_bound_89 : decode prog_14_method_61_code 89 = .ok (.istore 4, 2) := by decide +kernel
theorem d_M_learnt_0 : decode prog_14_method_63_code 0 = .ok (.iload_n 2, 1) := by decide +kernel
theorem d_M_learnt_1 : decode prog_14_method_63_code 1 = .ok (.iconst 0, 1) := by decide +kernel
theorem d_M_learnt_2 : decode prog_14_method_63_code 2 = .ok (.iconst 3, 1) := by decide +kernel
theorem d_M_learnt_3 : decode prog_14_method_63_code 3 = .ok (.invokestatic 133, 3) := by decide +kernel
theorem d_M_learnt_6 : decode prog_14_method_63_code 6 = .ok (.ifCond .eq 12, 3) := by decide +kernel
theorem d_M_learnt_18 : decode prog_14_method_63_code 18 = .ok (.bipush (-2), 2) := by decide +kernel
theorem d_M_learnt_20 : decode prog_14_method_63_code 20 = .ok (.ireturn, 1) := by decide +kernel
theorem d_M_learnt_9 : decode prog_14_method_63_code 9 = .ok (.iload_n 3, 1) := by decide +kernel
theorem d_M_learnt_10 : decode prog_14_method_63_code 10 = .ok (.iconst 0, 1) := by decide +kernel
theorem d_M_learnt_11 : decode prog_14_method_63_code 11 = .ok (.iconst 3, 1) := by decide +kernel
theorem d_M_learnt_12 : decode prog_14_method_63_code 12 = .ok (.invokestatic 133, 3) := by decide +kernel
theorem d_M_learnt_15 : decode prog_14_method_63_code 15 = .ok (.ifCond .ne 6, 3) := by decide +kernel
theorem d_M_learnt_21 : decode prog_14_method_63_code 21 = .ok (.iconst 0, 1) := by decide +kernel
theorem d_M_learnt_22 : decode prog_14_method_63_code 22 = .ok (.istore 4, 2) := by decide +kernel
theorem d_M_learnt_24 : decode prog_14_method_63_code 24 = .ok (.iconst 0, 1) := by decide +kernel
theorem d_M_learnt_25 : decode prog_14_method_63_code 25 = .ok (.istore 5, 2) := by decide +kernel
theorem d_M_learnt_27 : decode prog_14_method_63_code 27 = .ok (.iconst 0, 1) := by decide +kernel
theorem d_M_learnt_28 : decode prog_14_method_63_code 28 = .ok (.istore 6, 2) := by decide +kernel
theorem d_M_learnt_30 : decode prog_14_method_63_code 30 = .ok (.iload 6, 2) := by decide +kernel
theorem d_M_learnt_32 : decode prog_14_method_63_code 32 = .ok (.aload_n 0, 1) := by decide +kernel
theorem d_M_learnt_33 : decode prog_14_method_63_code 33 = .ok (.getfield 265, 3) := by decide +kernel
theorem d_M_learnt_36 : decode prog_14_method_63_code 36 = .ok (.if_icmp .ge 101, 3) := by decide +kernel
theorem d_M_learnt_137 : decode prog_14_method_63_code 137 = .ok (.sipush 2000, 3) := by decide +kernel
theorem d_M_learnt_140 : decode prog_14_method_63_code 140 = .ok (.iload 5, 2) := by decide +kernel
theorem d_M_learnt_142 : decode prog_14_method_63_code 142 = .ok (.iconst 1, 1) := by decide +kernel
theorem d_M_learnt_143 : decode prog_14_method_63_code 143 = .ok (.iadd, 1) := by decide +kernel
theorem d_M_learnt_144 : decode prog_14_method_63_code 144 = .ok (.imul, 1) := by decide +kernel
theorem d_M_learnt_145 : decode prog_14_method_63_code 145 = .ok (.iload 4, 2) := by decide +kernel
theorem d_M_learnt_147 : decode prog_14_method_63_code 147 = .ok (.iadd, 1) := by decide +kernel
theorem d_M_learnt_148 : decode prog_14_method_63_code 148 = .ok (.iconst 4, 1) := by decide +kernel
theorem d_M_learnt_149 : decode prog_14_method_63_code 149 = .ok (.iadd, 1) := by decide +kernel
theorem d_M_learnt_150 : decode prog_14_method_63_code 150 = .ok (.iconst 2, 1) := by decide +kernel
theorem d_M_learnt_151 : decode prog_14_method_63_code 151 = .ok (.iload 4, 2) := by decide +kernel
theorem d_M_learnt_153 : decode prog_14_method_63_code 153 = .ok (.iconst 4, 1) := by decide +kernel
theorem d_M_learnt_154 : decode prog_14_method_63_code 154 = .ok (.iadd, 1) := by decide +kernel
theorem d_M_learnt_155 : decode prog_14_method_63_code 155 = .ok (.imul, 1) := by decide +kernel
theorem d_M_learnt_156 : decode prog_14_method_63_code 156 = .ok (.idiv, 1) := by decide +kernel
theorem d_M_learnt_157 : decode prog_14_method_63_code 157 = .ok (.istore 6, 2) := by decide +kernel
theorem d_M_learnt_159 : decode prog_14_method_63_code 159 = .ok (.iload 6, 2) := by decide +kernel
theorem d_M_learnt_161 : decode prog_14_method_63_code 161 = .ok (.iconst 1, 1) := by decide +kernel
theorem d_M_learnt_162 : decode prog_14_method_63_code 162 = .ok (.if_icmp .ge 7, 3) := by decide +kernel
theorem d_M_learnt_169 : decode prog_14_method_63_code 169 = .ok (.iload 6, 2) := by decide +kernel
theorem d_M_learnt_171 : decode prog_14_method_63_code 171 = .ok (.ireturn, 1) := by decide +kernel
theorem d_M_learnt_165 : decode prog_14_method_63_code 165 = .ok (.iconst 1, 1) := by decide +kernel
theorem d_M_learnt_166 : decode prog_14_method_63_code 166 = .ok (.goto 5, 3) := by decide +kernel
theorem d_M_learnt_39 : decode prog_14_method_63_code 39 = .ok (.aload_n 0, 1) := by decide +kernel
theorem d_M_learnt_40 : decode prog_14_method_63_code 40 = .ok (.getfield 96, 3) := by decide +kernel
theorem d_M_learnt_43 : decode prog_14_method_63_code 43 = .ok (.iload 6, 2) := by decide +kernel
theorem d_M_learnt_45 : decode prog_14_method_63_code 45 = .ok (.baload, 1) := by decide +kernel
theorem d_M_learnt_46 : decode prog_14_method_63_code 46 = .ok (.iload_n 1, 1) := by decide +kernel
theorem d_M_learnt_47 : decode prog_14_method_63_code 47 = .ok (.if_icmp .ne 84, 3) := by decide +kernel
theorem d_M_learnt_50 : decode prog_14_method_63_code 50 = .ok (.aload_n 0, 1) := by decide +kernel
theorem d_M_learnt_51 : decode prog_14_method_63_code 51 = .ok (.aload_n 0, 1) := by decide +kernel
theorem d_M_learnt_52 : decode prog_14_method_63_code 52 = .ok (.getfield 90, 3) := by decide +kernel
theorem d_M_learnt_55 : decode prog_14_method_63_code 55 = .ok (.iload 6, 2) := by decide +kernel
theorem d_M_learnt_57 : decode prog_14_method_63_code 57 = .ok (.iaload, 1) := by decide +kernel
theorem d_M_learnt_58 : decode prog_14_method_63_code 58 = .ok (.invokevirtual 151, 3) := by decide +kernel
theorem d_M_learnt_61 : decode prog_14_method_63_code 61 = .ok (.ifCond .eq 70, 3) := by decide +kernel
theorem d_M_learnt_64 : decode prog_14_method_63_code 64 = .ok (.aload_n 0, 1) := by decide +kernel
theorem d_M_learnt_65 : decode prog_14_method_63_code 65 = .ok (.aload_n 0, 1) := by decide +kernel
theorem d_M_learnt_66 : decode prog_14_method_63_code 66 = .ok (.getfield 93, 3) := by decide +kernel
theorem d_M_learnt_69 : decode prog_14_method_63_code 69 = .ok (.iload 6, 2) := by decide +kernel
theorem d_M_learnt_71 : decode prog_14_method_63_code 71 = .ok (.iaload, 1) := by decide +kernel
theorem d_M_learnt_72 : decode prog_14_method_63_code 72 = .ok (.invokevirtual 151, 3) := by decide +kernel
theorem d_M_learnt_75 : decode prog_14_method_63_code 75 = .ok (.ifCond .eq 56, 3) := by decide +kernel
theorem d_M_learnt_78 : decode prog_14_method_63_code 78 = .ok (.aload_n 0, 1) := by decide +kernel
theorem d_M_learnt_79 : decode prog_14_method_63_code 79 = .ok (.aload_n 0, 1) := by decide +kernel
theorem d_M_learnt_80 : decode prog_14_method_63_code 80 = .ok (.getfield 90, 3) := by decide +kernel
theorem d_M_learnt_83 : decode prog_14_method_63_code 83 = .ok (.iload 6, 2) := by decide +kernel
theorem d_M_learnt_85 : decode prog_14_method_63_code 85 = .ok (.iaload, 1) := by decide +kernel
theorem d_M_learnt_86 : decode prog_14_method_63_code 86 = .ok (.aload_n 0, 1) := by decide +kernel
theorem d_M_learnt_87 : decode prog_14_method_63_code 87 = .ok (.getfield 93, 3) := by decide +kernel
theorem d_M_learnt_90 : decode prog_14_method_63_code 90 = .ok (.iload 6, 2) := by decide +kernel
theorem d_M_learnt_92 : decode prog_14_method_63_code 92 = .ok (.iaload, 1) := by decide +kernel
theorem d_M_learnt_93 : decode prog_14_method_63_code 93 = .ok (.iload_n 2, 1) := by decide +kernel
theorem d_M_learnt_94 : decode prog_14_method_63_code 94 = .ok (.invokevirtual 197, 3) := by decide +kernel
theorem d_M_learnt_97 : decode prog_14_method_63_code 97 = .ok (.istore 7, 2) := by decide +kernel
theorem d_M_learnt_99 : decode prog_14_method_63_code 99 = .ok (.iload 4, 2) := by decide +kernel
theorem d_M_learnt_101 : decode prog_14_method_63_code 101 = .ok (.iload 7, 2) := by decide +kernel
theorem d_M_learnt_103 : decode prog_14_method_63_code 103 = .ok (.iconst (-1), 1) := by decide +kernel
theorem d_M_learnt_104 : decode prog_14_method_63_code 104 = .ok (.if_icmp .ne 7, 3) := by decide +kernel
theorem d_M_learnt_107 : decode prog_14_method_63_code 107 = .ok (.iconst 0, 1) := by decide +kernel
theorem d_M_learnt_108 : decode prog_14_method_63_code 108 = .ok (.goto 4, 3) := by decide +kernel
theorem d_M_learnt_111 : decode prog_14_method_63_code 111 = .ok (.iconst 1, 1) := by decide +kernel
theorem d_M_learnt_131 : decode prog_14_method_63_code 131 = .ok (.iinc 6 1, 3) := by decide +kernel
theorem d_M_learnt_134 : decode prog_14_method_63_code 134 = .ok (.goto (-104), 3) := by decide +kernel
theorem d_M_learnt_112 : decode prog_14_method_63_code 112 = .ok (.iadd, 1) := by decide +kernel
theorem d_M_learnt_113 : decode prog_14_method_63_code 113 = .ok (.istore 4, 2) := by decide +kernel
theorem d_M_learnt_115 : decode prog_14_method_63_code 115 = .ok (.iload 5, 2) := by decide +kernel
theorem d_M_learnt_117 : decode prog_14_method_63_code 117 = .ok (.iload 7, 2) := by decide +kernel
theorem d_M_learnt_119 : decode prog_14_method_63_code 119 = .ok (.iload_n 3, 1) := by decide +kernel
theorem d_M_learnt_120 : decode prog_14_method_63_code 120 = .ok (.if_icmp .ne 7, 3) := by decide +kernel
theorem d_M_learnt_123 : decode prog_14_method_63_code 123 = .ok (.iconst 1, 1) := by decide +kernel
theorem d_M_learnt_124 : decode prog_14_method_63_code 124 = .ok (.goto 4, 3) := by decide +kernel
theorem d_M_learnt_127 : decode prog_14_method_63_code 127 = .ok (.iconst 0, 1) := by decide +kernel
theorem d_M_learnt_128 : decode prog_14_method_63_code 128 = .ok (.iadd, 1) := by decide +kernel
theorem d_M_learnt_129 : decode prog_14_method_63_code 129 = .ok (.istore 5, 2) := by decide +kernel
theorem d_M_meet_0 : decode prog_14_method_66_code 0 = .ok (.aload_n 0, 1) := by decide +kernel
theorem d_M_meet_1 : decode prog_14_method_66_code 1 = .ok (.iload_n 1, 1) := by decide +kernel
theorem d_M_meet_2 : decode prog_14_method_66_code 2 = .ok (.iload_n 2, 1) := by decide +kernel
theorem d_M_meet_3 : decode prog_14_method_66_code 3 = .ok (.invokevirtual 194, 3) := by decide +kernel
theorem d_M_meet_6 : decode prog_14_method_66_code 6 = .ok (.ifCond .eq 13, 3) := by decide +kernel
theorem d_M_meet_19 : decode prog_14_method_66_code 19 = .ok (.bipush (-2), 2) := by decide +kernel
theorem d_M_meet_21 : decode prog_14_method_66_code 21 = .ok (.ireturn, 1) := by decide +kernel
theorem d_M_meet_9 : decode prog_14_method_66_code 9 = .ok (.iload_n 3, 1) := by decide +kernel
theorem d_M_meet_10 : decode prog_14_method_66_code 10 = .ok (.iconst 0, 1) := by decide +kernel
theorem d_M_meet_11 : decode prog_14_method_66_code 11 = .ok (.bipush 63, 2) := by decide +kernel
theorem d_M_meet_13 : decode prog_14_method_66_code 13 = .ok (.invokestatic 133, 3) := by decide +kernel
theorem d_M_meet_16 : decode prog_14_method_66_code 16 = .ok (.ifCond .ne 6, 3) := by decide +kernel
theorem d_M_meet_22 : decode prog_14_method_66_code 22 = .ok (.aload_n 0, 1) := by decide +kernel
theorem d_M_meet_23 : decode prog_14_method_66_code 23 = .ok (.iload_n 1, 1) := by decide +kernel
theorem d_M_meet_24 : decode prog_14_method_66_code 24 = .ok (.iload_n 2, 1) := by decide +kernel
theorem d_M_meet_25 : decode prog_14_method_66_code 25 = .ok (.invokevirtual 283, 3) := by decide +kernel
theorem d_M_mayMeet_0 : decode prog_14_method_65_code 0 = .ok (.aload_n 0, 1) := by decide +kernel
theorem d_M_mayMeet_1 : decode prog_14_method_65_code 1 = .ok (.iload_n 1, 1) := by decide +kernel
theorem d_M_mayMeet_2 : decode prog_14_method_65_code 2 = .ok (.invokevirtual 151, 3) := by decide +kernel
theorem d_M_mayMeet_5 : decode prog_14_method_65_code 5 = .ok (.ifCond .eq 30, 3) := by decide +kernel
theorem d_M_mayMeet_35 : decode prog_14_method_65_code 35 = .ok (.iconst 0, 1) := by decide +kernel
theorem d_M_mayMeet_36 : decode prog_14_method_65_code 36 = .ok (.ireturn, 1) := by decide +kernel
theorem d_M_mayMeet_8 : decode prog_14_method_65_code 8 = .ok (.aload_n 0, 1) := by decide +kernel
theorem d_M_mayMeet_9 : decode prog_14_method_65_code 9 = .ok (.iload_n 2, 1) := by decide +kernel
theorem d_M_mayMeet_10 : decode prog_14_method_65_code 10 = .ok (.invokevirtual 151, 3) := by decide +kernel
theorem d_M_mayMeet_13 : decode prog_14_method_65_code 13 = .ok (.ifCond .eq 22, 3) := by decide +kernel
theorem d_M_mayMeet_16 : decode prog_14_method_65_code 16 = .ok (.aload_n 0, 1) := by decide +kernel
theorem d_M_mayMeet_17 : decode prog_14_method_65_code 17 = .ok (.getfield 7, 3) := by decide +kernel
theorem d_M_mayMeet_20 : decode prog_14_method_65_code 20 = .ok (.iload_n 1, 1) := by decide +kernel
theorem d_M_mayMeet_21 : decode prog_14_method_65_code 21 = .ok (.iaload, 1) := by decide +kernel
theorem d_M_mayMeet_22 : decode prog_14_method_65_code 22 = .ok (.aload_n 0, 1) := by decide +kernel
theorem d_M_mayMeet_23 : decode prog_14_method_65_code 23 = .ok (.getfield 7, 3) := by decide +kernel
theorem d_M_mayMeet_26 : decode prog_14_method_65_code 26 = .ok (.iload_n 2, 1) := by decide +kernel
theorem d_M_mayMeet_27 : decode prog_14_method_65_code 27 = .ok (.iaload, 1) := by decide +kernel
theorem d_M_mayMeet_28 : decode prog_14_method_65_code 28 = .ok (.if_icmp .eq 7, 3) := by decide +kernel
theorem d_M_mayMeet_31 : decode prog_14_method_65_code 31 = .ok (.iconst 1, 1) := by decide +kernel
theorem d_M_mayMeet_32 : decode prog_14_method_65_code 32 = .ok (.goto 4, 3) := by decide +kernel
theorem d_M_meet_28 : decode prog_14_method_66_code 28 = .ok (.ifCond .ne 8, 3) := by decide +kernel
theorem d_M_meet_31 : decode prog_14_method_66_code 31 = .ok (.bipush (-3), 2) := by decide +kernel
theorem d_M_meet_33 : decode prog_14_method_66_code 33 = .ok (.goto 19, 3) := by decide +kernel
theorem d_M_meet_52 : decode prog_14_method_66_code 52 = .ok (.ireturn, 1) := by decide +kernel
theorem d_M_meet_36 : decode prog_14_method_66_code 36 = .ok (.aload_n 0, 1) := by decide +kernel
theorem d_M_meet_37 : decode prog_14_method_66_code 37 = .ok (.iload_n 1, 1) := by decide +kernel
theorem d_M_meet_38 : decode prog_14_method_66_code 38 = .ok (.iload_n 2, 1) := by decide +kernel
theorem d_M_meet_39 : decode prog_14_method_66_code 39 = .ok (.invokevirtual 286, 3) := by decide +kernel
theorem d_M_alikeBy_0 : decode prog_14_method_64_code 0 = .ok (.aload_n 0, 1) := by decide +kernel
theorem d_M_alikeBy_1 : decode prog_14_method_64_code 1 = .ok (.iload_n 1, 1) := by decide +kernel
theorem d_M_alikeBy_2 : decode prog_14_method_64_code 2 = .ok (.iload_n 2, 1) := by decide +kernel
theorem d_M_alikeBy_3 : decode prog_14_method_64_code 3 = .ok (.invokevirtual 184, 3) := by decide +kernel
theorem d_M_alikeBy_6 : decode prog_14_method_64_code 6 = .ok (.ifCond .eq 7, 3) := by decide +kernel
theorem d_M_alikeBy_13 : decode prog_14_method_64_code 13 = .ok (.iconst 0, 1) := by decide +kernel
theorem d_M_alikeBy_9 : decode prog_14_method_64_code 9 = .ok (.iconst 1, 1) := by decide +kernel
theorem d_M_alikeBy_10 : decode prog_14_method_64_code 10 = .ok (.goto 4, 3) := by decide +kernel
theorem d_M_alikeBy_14 : decode prog_14_method_64_code 14 = .ok (.istore_n 3, 1) := by decide +kernel
theorem d_M_alikeBy_15 : decode prog_14_method_64_code 15 = .ok (.aload_n 0, 1) := by decide +kernel
theorem d_M_alikeBy_16 : decode prog_14_method_64_code 16 = .ok (.getfield 13, 3) := by decide +kernel
theorem d_M_alikeBy_19 : decode prog_14_method_64_code 19 = .ok (.bipush 10, 2) := by decide +kernel
theorem d_M_alikeBy_21 : decode prog_14_method_64_code 21 = .ok (.iload_n 1, 1) := by decide +kernel
theorem d_M_alikeBy_22 : decode prog_14_method_64_code 22 = .ok (.imul, 1) := by decide +kernel
theorem d_M_alikeBy_23 : decode prog_14_method_64_code 23 = .ok (.iaload, 1) := by decide +kernel
theorem d_M_alikeBy_24 : decode prog_14_method_64_code 24 = .ok (.aload_n 0, 1) := by decide +kernel
theorem d_M_alikeBy_25 : decode prog_14_method_64_code 25 = .ok (.getfield 13, 3) := by decide +kernel
theorem d_M_alikeBy_28 : decode prog_14_method_64_code 28 = .ok (.bipush 10, 2) := by decide +kernel
theorem d_M_alikeBy_30 : decode prog_14_method_64_code 30 = .ok (.iload_n 2, 1) := by decide +kernel
theorem d_M_alikeBy_31 : decode prog_14_method_64_code 31 = .ok (.imul, 1) := by decide +kernel
theorem d_M_alikeBy_32 : decode prog_14_method_64_code 32 = .ok (.iaload, 1) := by decide +kernel
theorem d_M_alikeBy_33 : decode prog_14_method_64_code 33 = .ok (.if_icmp .ne 7, 3) := by decide +kernel
theorem d_M_alikeBy_36 : decode prog_14_method_64_code 36 = .ok (.iconst 1, 1) := by decide +kernel
theorem d_M_alikeBy_37 : decode prog_14_method_64_code 37 = .ok (.goto 4, 3) := by decide +kernel
theorem d_M_alikeBy_40 : decode prog_14_method_64_code 40 = .ok (.iconst 0, 1) := by decide +kernel
theorem d_M_alikeBy_41 : decode prog_14_method_64_code 41 = .ok (.istore 4, 2) := by decide +kernel
theorem d_M_alikeBy_43 : decode prog_14_method_64_code 43 = .ok (.iload_n 3, 1) := by decide +kernel
theorem d_M_alikeBy_44 : decode prog_14_method_64_code 44 = .ok (.iload 4, 2) := by decide +kernel
theorem d_M_alikeBy_46 : decode prog_14_method_64_code 46 = .ok (.ifCond .eq 7, 3) := by decide +kernel
theorem d_M_alikeBy_53 : decode prog_14_method_64_code 53 = .ok (.iconst 0, 1) := by decide +kernel
theorem d_M_alikeBy_49 : decode prog_14_method_64_code 49 = .ok (.iconst 2, 1) := by decide +kernel
theorem d_M_alikeBy_50 : decode prog_14_method_64_code 50 = .ok (.goto 4, 3) := by decide +kernel
theorem d_M_alikeBy_54 : decode prog_14_method_64_code 54 = .ok (.ior, 1) := by decide +kernel
theorem d_M_alikeBy_55 : decode prog_14_method_64_code 55 = .ok (.istore_n 3, 1) := by decide +kernel
theorem d_M_alikeBy_56 : decode prog_14_method_64_code 56 = .ok (.iload_n 3, 1) := by decide +kernel
theorem d_M_alikeBy_57 : decode prog_14_method_64_code 57 = .ok (.aload_n 0, 1) := by decide +kernel
theorem d_M_alikeBy_58 : decode prog_14_method_64_code 58 = .ok (.getfield 19, 3) := by decide +kernel
theorem d_M_alikeBy_61 : decode prog_14_method_64_code 61 = .ok (.iload_n 1, 1) := by decide +kernel
theorem d_M_alikeBy_62 : decode prog_14_method_64_code 62 = .ok (.iaload, 1) := by decide +kernel
theorem d_M_alikeBy_63 : decode prog_14_method_64_code 63 = .ok (.iconst (-1), 1) := by decide +kernel
theorem d_M_alikeBy_64 : decode prog_14_method_64_code 64 = .ok (.if_icmp .eq 38, 3) := by decide +kernel
theorem d_M_alikeBy_67 : decode prog_14_method_64_code 67 = .ok (.aload_n 0, 1) := by decide +kernel
theorem d_M_alikeBy_68 : decode prog_14_method_64_code 68 = .ok (.getfield 19, 3) := by decide +kernel
theorem d_M_alikeBy_71 : decode prog_14_method_64_code 71 = .ok (.iload_n 2, 1) := by decide +kernel
theorem d_M_alikeBy_72 : decode prog_14_method_64_code 72 = .ok (.iaload, 1) := by decide +kernel
theorem d_M_alikeBy_73 : decode prog_14_method_64_code 73 = .ok (.iconst (-1), 1) := by decide +kernel
theorem d_M_alikeBy_74 : decode prog_14_method_64_code 74 = .ok (.if_icmp .eq 28, 3) := by decide +kernel
theorem d_M_alikeBy_77 : decode prog_14_method_64_code 77 = .ok (.aload_n 0, 1) := by decide +kernel
theorem d_M_alikeBy_78 : decode prog_14_method_64_code 78 = .ok (.getfield 19, 3) := by decide +kernel
theorem d_M_alikeBy_81 : decode prog_14_method_64_code 81 = .ok (.iload_n 1, 1) := by decide +kernel
theorem d_M_alikeBy_82 : decode prog_14_method_64_code 82 = .ok (.iaload, 1) := by decide +kernel
theorem d_M_alikeBy_83 : decode prog_14_method_64_code 83 = .ok (.bipush 10, 2) := by decide +kernel
theorem d_M_alikeBy_85 : decode prog_14_method_64_code 85 = .ok (.idiv, 1) := by decide +kernel
theorem d_M_alikeBy_86 : decode prog_14_method_64_code 86 = .ok (.aload_n 0, 1) := by decide +kernel
theorem d_M_alikeBy_87 : decode prog_14_method_64_code 87 = .ok (.getfield 19, 3) := by decide +kernel
theorem d_M_alikeBy_90 : decode prog_14_method_64_code 90 = .ok (.iload_n 2, 1) := by decide +kernel
theorem d_M_alikeBy_91 : decode prog_14_method_64_code 91 = .ok (.iaload, 1) := by decide +kernel
theorem d_M_alikeBy_92 : decode prog_14_method_64_code 92 = .ok (.bipush 10, 2) := by decide +kernel
theorem d_M_alikeBy_94 : decode prog_14_method_64_code 94 = .ok (.idiv, 1) := by decide +kernel
theorem d_M_alikeBy_95 : decode prog_14_method_64_code 95 = .ok (.if_icmp .ne 7, 3) := by decide +kernel
theorem d_M_alikeBy_98 : decode prog_14_method_64_code 98 = .ok (.iconst 4, 1) := by decide +kernel
theorem d_M_alikeBy_99 : decode prog_14_method_64_code 99 = .ok (.goto 4, 3) := by decide +kernel
theorem d_M_alikeBy_102 : decode prog_14_method_64_code 102 = .ok (.iconst 0, 1) := by decide +kernel
theorem d_M_alikeBy_103 : decode prog_14_method_64_code 103 = .ok (.ior, 1) := by decide +kernel
theorem d_M_alikeBy_104 : decode prog_14_method_64_code 104 = .ok (.istore_n 3, 1) := by decide +kernel
theorem d_M_alikeBy_105 : decode prog_14_method_64_code 105 = .ok (.iload_n 3, 1) := by decide +kernel
theorem d_M_alikeBy_106 : decode prog_14_method_64_code 106 = .ok (.aload_n 0, 1) := by decide +kernel
theorem d_M_alikeBy_107 : decode prog_14_method_64_code 107 = .ok (.getfield 22, 3) := by decide +kernel
theorem d_M_alikeBy_110 : decode prog_14_method_64_code 110 = .ok (.iload_n 1, 1) := by decide +kernel
theorem d_M_alikeBy_111 : decode prog_14_method_64_code 111 = .ok (.iaload, 1) := by decide +kernel
theorem d_M_alikeBy_112 : decode prog_14_method_64_code 112 = .ok (.iconst (-1), 1) := by decide +kernel
theorem d_M_alikeBy_113 : decode prog_14_method_64_code 113 = .ok (.if_icmp .eq 23, 3) := by decide +kernel
theorem d_M_alikeBy_116 : decode prog_14_method_64_code 116 = .ok (.aload_n 0, 1) := by decide +kernel
theorem d_M_alikeBy_117 : decode prog_14_method_64_code 117 = .ok (.getfield 22, 3) := by decide +kernel
theorem d_M_alikeBy_120 : decode prog_14_method_64_code 120 = .ok (.iload_n 1, 1) := by decide +kernel
theorem d_M_alikeBy_121 : decode prog_14_method_64_code 121 = .ok (.iaload, 1) := by decide +kernel
theorem d_M_alikeBy_122 : decode prog_14_method_64_code 122 = .ok (.aload_n 0, 1) := by decide +kernel
theorem d_M_alikeBy_123 : decode prog_14_method_64_code 123 = .ok (.getfield 22, 3) := by decide +kernel
theorem d_M_alikeBy_126 : decode prog_14_method_64_code 126 = .ok (.iload_n 2, 1) := by decide +kernel
theorem d_M_alikeBy_127 : decode prog_14_method_64_code 127 = .ok (.iaload, 1) := by decide +kernel
theorem d_M_alikeBy_128 : decode prog_14_method_64_code 128 = .ok (.if_icmp .ne 8, 3) := by decide +kernel
theorem d_M_alikeBy_131 : decode prog_14_method_64_code 131 = .ok (.bipush 8, 2) := by decide +kernel
theorem d_M_alikeBy_133 : decode prog_14_method_64_code 133 = .ok (.goto 4, 3) := by decide +kernel
theorem d_M_alikeBy_136 : decode prog_14_method_64_code 136 = .ok (.iconst 0, 1) := by decide +kernel
theorem d_M_alikeBy_137 : decode prog_14_method_64_code 137 = .ok (.ior, 1) := by decide +kernel
theorem d_M_alikeBy_138 : decode prog_14_method_64_code 138 = .ok (.istore_n 3, 1) := by decide +kernel
theorem d_M_alikeBy_139 : decode prog_14_method_64_code 139 = .ok (.iload_n 3, 1) := by decide +kernel
theorem d_M_alikeBy_140 : decode prog_14_method_64_code 140 = .ok (.aload_n 0, 1) := by decide +kernel
theorem d_M_alikeBy_141 : decode prog_14_method_64_code 141 = .ok (.getfield 13, 3) := by decide +kernel
theorem d_M_alikeBy_144 : decode prog_14_method_64_code 144 = .ok (.bipush 10, 2) := by decide +kernel
theorem d_M_alikeBy_146 : decode prog_14_method_64_code 146 = .ok (.iload_n 1, 1) := by decide +kernel
theorem d_M_alikeBy_147 : decode prog_14_method_64_code 147 = .ok (.imul, 1) := by decide +kernel
theorem d_M_alikeBy_148 : decode prog_14_method_64_code 148 = .ok (.aload_n 0, 1) := by decide +kernel
theorem d_M_alikeBy_149 : decode prog_14_method_64_code 149 = .ok (.getfield 16, 3) := by decide +kernel
theorem d_M_alikeBy_152 : decode prog_14_method_64_code 152 = .ok (.iload_n 1, 1) := by decide +kernel
theorem d_M_alikeBy_153 : decode prog_14_method_64_code 153 = .ok (.iaload, 1) := by decide +kernel
theorem d_M_alikeBy_154 : decode prog_14_method_64_code 154 = .ok (.iadd, 1) := by decide +kernel
theorem d_M_alikeBy_155 : decode prog_14_method_64_code 155 = .ok (.iconst 1, 1) := by decide +kernel
theorem d_M_alikeBy_156 : decode prog_14_method_64_code 156 = .ok (.isub, 1) := by decide +kernel
theorem d_M_alikeBy_157 : decode prog_14_method_64_code 157 = .ok (.iaload, 1) := by decide +kernel
theorem d_M_alikeBy_158 : decode prog_14_method_64_code 158 = .ok (.aload_n 0, 1) := by decide +kernel
theorem d_M_alikeBy_159 : decode prog_14_method_64_code 159 = .ok (.getfield 13, 3) := by decide +kernel
theorem d_M_alikeBy_162 : decode prog_14_method_64_code 162 = .ok (.bipush 10, 2) := by decide +kernel
theorem d_M_alikeBy_164 : decode prog_14_method_64_code 164 = .ok (.iload_n 2, 1) := by decide +kernel
theorem d_M_alikeBy_165 : decode prog_14_method_64_code 165 = .ok (.imul, 1) := by decide +kernel
theorem d_M_alikeBy_166 : decode prog_14_method_64_code 166 = .ok (.aload_n 0, 1) := by decide +kernel
theorem d_M_alikeBy_167 : decode prog_14_method_64_code 167 = .ok (.getfield 16, 3) := by decide +kernel
theorem d_M_alikeBy_170 : decode prog_14_method_64_code 170 = .ok (.iload_n 2, 1) := by decide +kernel
theorem d_M_alikeBy_171 : decode prog_14_method_64_code 171 = .ok (.iaload, 1) := by decide +kernel
theorem d_M_alikeBy_172 : decode prog_14_method_64_code 172 = .ok (.iadd, 1) := by decide +kernel
theorem d_M_alikeBy_173 : decode prog_14_method_64_code 173 = .ok (.iconst 1, 1) := by decide +kernel
theorem d_M_alikeBy_174 : decode prog_14_method_64_code 174 = .ok (.isub, 1) := by decide +kernel
theorem d_M_alikeBy_175 : decode prog_14_method_64_code 175 = .ok (.iaload, 1) := by decide +kernel
theorem d_M_alikeBy_176 : decode prog_14_method_64_code 176 = .ok (.if_icmp .ne 8, 3) := by decide +kernel
theorem d_M_alikeBy_179 : decode prog_14_method_64_code 179 = .ok (.bipush 16, 2) := by decide +kernel
theorem d_M_alikeBy_181 : decode prog_14_method_64_code 181 = .ok (.goto 4, 3) := by decide +kernel
theorem d_M_alikeBy_184 : decode prog_14_method_64_code 184 = .ok (.iconst 0, 1) := by decide +kernel
theorem d_M_alikeBy_185 : decode prog_14_method_64_code 185 = .ok (.ior, 1) := by decide +kernel
theorem d_M_alikeBy_186 : decode prog_14_method_64_code 186 = .ok (.istore_n 3, 1) := by decide +kernel
theorem d_M_alikeBy_187 : decode prog_14_method_64_code 187 = .ok (.iload_n 3, 1) := by decide +kernel
theorem d_M_alikeBy_188 : decode prog_14_method_64_code 188 = .ok (.iload 4, 2) := by decide +kernel
theorem d_M_alikeBy_190 : decode prog_14_method_64_code 190 = .ok (.ifCond .eq 33, 3) := by decide +kernel
theorem d_M_alikeBy_223 : decode prog_14_method_64_code 223 = .ok (.iconst 0, 1) := by decide +kernel
theorem d_M_alikeBy_224 : decode prog_14_method_64_code 224 = .ok (.ior, 1) := by decide +kernel
theorem d_M_alikeBy_225 : decode prog_14_method_64_code 225 = .ok (.ireturn, 1) := by decide +kernel
theorem d_M_alikeBy_193 : decode prog_14_method_64_code 193 = .ok (.aload_n 0, 1) := by decide +kernel
theorem d_M_alikeBy_194 : decode prog_14_method_64_code 194 = .ok (.getfield 25, 3) := by decide +kernel
theorem d_M_alikeBy_197 : decode prog_14_method_64_code 197 = .ok (.iload_n 1, 1) := by decide +kernel
theorem d_M_alikeBy_198 : decode prog_14_method_64_code 198 = .ok (.iaload, 1) := by decide +kernel
theorem d_M_alikeBy_199 : decode prog_14_method_64_code 199 = .ok (.iconst (-1), 1) := by decide +kernel
theorem d_M_alikeBy_200 : decode prog_14_method_64_code 200 = .ok (.if_icmp .eq 23, 3) := by decide +kernel
theorem d_M_alikeBy_203 : decode prog_14_method_64_code 203 = .ok (.aload_n 0, 1) := by decide +kernel
theorem d_M_alikeBy_204 : decode prog_14_method_64_code 204 = .ok (.getfield 25, 3) := by decide +kernel
theorem d_M_alikeBy_207 : decode prog_14_method_64_code 207 = .ok (.iload_n 1, 1) := by decide +kernel
theorem d_M_alikeBy_208 : decode prog_14_method_64_code 208 = .ok (.iaload, 1) := by decide +kernel
theorem d_M_alikeBy_209 : decode prog_14_method_64_code 209 = .ok (.aload_n 0, 1) := by decide +kernel
theorem d_M_alikeBy_210 : decode prog_14_method_64_code 210 = .ok (.getfield 25, 3) := by decide +kernel
theorem d_M_alikeBy_213 : decode prog_14_method_64_code 213 = .ok (.iload_n 2, 1) := by decide +kernel
theorem d_M_alikeBy_214 : decode prog_14_method_64_code 214 = .ok (.iaload, 1) := by decide +kernel
theorem d_M_alikeBy_215 : decode prog_14_method_64_code 215 = .ok (.if_icmp .ne 8, 3) := by decide +kernel
theorem d_M_alikeBy_218 : decode prog_14_method_64_code 218 = .ok (.bipush 32, 2) := by decide +kernel
theorem d_M_alikeBy_220 : decode prog_14_method_64_code 220 = .ok (.goto 4, 3) := by decide +kernel
theorem d_M_meet_42 : decode prog_14_method_66_code 42 = .ok (.iload_n 3, 1) := by decide +kernel
theorem d_M_meet_43 : decode prog_14_method_66_code 43 = .ok (.iand, 1) := by decide +kernel
theorem d_M_meet_44 : decode prog_14_method_66_code 44 = .ok (.ifCond .eq 7, 3) := by decide +kernel
theorem d_M_meet_51 : decode prog_14_method_66_code 51 = .ok (.iconst 0, 1) := by decide +kernel
theorem d_M_meet_47 : decode prog_14_method_66_code 47 = .ok (.iconst 1, 1) := by decide +kernel
theorem d_M_meet_48 : decode prog_14_method_66_code 48 = .ok (.goto 4, 3) := by decide +kernel
theorem d_M_pairs_0 : decode prog_14_method_69_code 0 = .ok (.iload_n 1, 1) := by decide +kernel
theorem d_M_pairs_1 : decode prog_14_method_69_code 1 = .ok (.iconst 0, 1) := by decide +kernel
theorem d_M_pairs_2 : decode prog_14_method_69_code 2 = .ok (.bipush 63, 2) := by decide +kernel
theorem d_M_pairs_4 : decode prog_14_method_69_code 4 = .ok (.invokestatic 133, 3) := by decide +kernel
theorem d_M_pairs_7 : decode prog_14_method_69_code 7 = .ok (.ifCond .ne 6, 3) := by decide +kernel
theorem d_M_pairs_10 : decode prog_14_method_69_code 10 = .ok (.bipush (-2), 2) := by decide +kernel
theorem d_M_pairs_12 : decode prog_14_method_69_code 12 = .ok (.ireturn, 1) := by decide +kernel
theorem d_M_pairs_13 : decode prog_14_method_69_code 13 = .ok (.aload_n 0, 1) := by decide +kernel
theorem d_M_pairs_14 : decode prog_14_method_69_code 14 = .ok (.invokevirtual 289, 3) := by decide +kernel
theorem d_M_counts_0 : decode prog_14_method_67_code 0 = .ok (.iconst 0, 1) := by decide +kernel
theorem d_M_counts_1 : decode prog_14_method_67_code 1 = .ok (.istore_n 1, 1) := by decide +kernel
theorem d_M_counts_2 : decode prog_14_method_67_code 2 = .ok (.iload_n 1, 1) := by decide +kernel
theorem d_M_counts_3 : decode prog_14_method_67_code 3 = .ok (.bipush 64, 2) := by decide +kernel
theorem d_M_counts_5 : decode prog_14_method_67_code 5 = .ok (.if_icmp .ge 23, 3) := by decide +kernel
theorem d_M_counts_28 : decode prog_14_method_67_code 28 = .ok (.iconst 0, 1) := by decide +kernel
theorem d_M_counts_29 : decode prog_14_method_67_code 29 = .ok (.istore_n 1, 1) := by decide +kernel
theorem d_M_counts_8 : decode prog_14_method_67_code 8 = .ok (.aload_n 0, 1) := by decide +kernel
theorem d_M_counts_9 : decode prog_14_method_67_code 9 = .ok (.getfield 109, 3) := by decide +kernel
theorem d_M_counts_12 : decode prog_14_method_67_code 12 = .ok (.iload_n 1, 1) := by decide +kernel
theorem d_M_counts_13 : decode prog_14_method_67_code 13 = .ok (.iconst 0, 1) := by decide +kernel
theorem d_M_counts_14 : decode prog_14_method_67_code 14 = .ok (.iastore, 1) := by decide +kernel
theorem d_M_counts_15 : decode prog_14_method_67_code 15 = .ok (.aload_n 0, 1) := by decide +kernel
theorem d_M_counts_16 : decode prog_14_method_67_code 16 = .ok (.getfield 112, 3) := by decide +kernel
theorem d_M_counts_19 : decode prog_14_method_67_code 19 = .ok (.iload_n 1, 1) := by decide +kernel
theorem d_M_counts_20 : decode prog_14_method_67_code 20 = .ok (.iconst 0, 1) := by decide +kernel
theorem d_M_counts_21 : decode prog_14_method_67_code 21 = .ok (.bastore, 1) := by decide +kernel
theorem d_M_counts_22 : decode prog_14_method_67_code 22 = .ok (.iinc 1 1, 3) := by decide +kernel
theorem d_M_counts_25 : decode prog_14_method_67_code 25 = .ok (.goto (-23), 3) := by decide +kernel
theorem d_M_counts_30 : decode prog_14_method_67_code 30 = .ok (.iload_n 1, 1) := by decide +kernel
theorem d_M_counts_31 : decode prog_14_method_67_code 31 = .ok (.aload_n 0, 1) := by decide +kernel
theorem d_M_counts_32 : decode prog_14_method_67_code 32 = .ok (.getfield 130, 3) := by decide +kernel
theorem d_M_counts_35 : decode prog_14_method_67_code 35 = .ok (.if_icmp .ge 46, 3) := by decide +kernel
theorem d_M_counts_81 : decode prog_14_method_67_code 81 = .ok (.iconst 0, 1) := by decide +kernel
theorem d_M_counts_82 : decode prog_14_method_67_code 82 = .ok (.istore_n 1, 1) := by decide +kernel
theorem d_M_counts_38 : decode prog_14_method_67_code 38 = .ok (.iconst 0, 1) := by decide +kernel
theorem d_M_counts_39 : decode prog_14_method_67_code 39 = .ok (.istore_n 2, 1) := by decide +kernel
theorem d_M_counts_83 : decode prog_14_method_67_code 83 = .ok (.iload_n 1, 1) := by decide +kernel
theorem d_M_counts_84 : decode prog_14_method_67_code 84 = .ok (.aload_n 0, 1) := by decide +kernel
theorem d_M_counts_85 : decode prog_14_method_67_code 85 = .ok (.getfield 265, 3) := by decide +kernel
theorem d_M_counts_88 : decode prog_14_method_67_code 88 = .ok (.if_icmp .ge 59, 3) := by decide +kernel
theorem d_M_counts_147 : decode prog_14_method_67_code 147 = .ok (.return_, 1) := by decide +kernel
theorem d_M_counts_91 : decode prog_14_method_67_code 91 = .ok (.aload_n 0, 1) := by decide +kernel
theorem d_M_counts_92 : decode prog_14_method_67_code 92 = .ok (.getfield 96, 3) := by decide +kernel
theorem d_M_counts_95 : decode prog_14_method_67_code 95 = .ok (.iload_n 1, 1) := by decide +kernel
theorem d_M_counts_96 : decode prog_14_method_67_code 96 = .ok (.baload, 1) := by decide +kernel
theorem d_M_counts_97 : decode prog_14_method_67_code 97 = .ok (.ifCond .eq 44, 3) := by decide +kernel
theorem d_M_counts_100 : decode prog_14_method_67_code 100 = .ok (.aload_n 0, 1) := by decide +kernel
theorem d_M_counts_101 : decode prog_14_method_67_code 101 = .ok (.aload_n 0, 1) := by decide +kernel
theorem d_M_counts_102 : decode prog_14_method_67_code 102 = .ok (.getfield 90, 3) := by decide +kernel
theorem d_M_counts_105 : decode prog_14_method_67_code 105 = .ok (.iload_n 1, 1) := by decide +kernel
theorem d_M_counts_106 : decode prog_14_method_67_code 106 = .ok (.iaload, 1) := by decide +kernel
theorem d_M_counts_107 : decode prog_14_method_67_code 107 = .ok (.aload_n 0, 1) := by decide +kernel
theorem d_M_counts_108 : decode prog_14_method_67_code 108 = .ok (.getfield 93, 3) := by decide +kernel
theorem d_M_counts_111 : decode prog_14_method_67_code 111 = .ok (.iload_n 1, 1) := by decide +kernel
theorem d_M_counts_112 : decode prog_14_method_67_code 112 = .ok (.iaload, 1) := by decide +kernel
theorem d_M_counts_113 : decode prog_14_method_67_code 113 = .ok (.invokevirtual 283, 3) := by decide +kernel
theorem d_M_counts_116 : decode prog_14_method_67_code 116 = .ok (.ifCond .eq 25, 3) := by decide +kernel
theorem d_M_counts_119 : decode prog_14_method_67_code 119 = .ok (.aload_n 0, 1) := by decide +kernel
theorem d_M_counts_120 : decode prog_14_method_67_code 120 = .ok (.getfield 112, 3) := by decide +kernel
theorem d_M_counts_123 : decode prog_14_method_67_code 123 = .ok (.aload_n 0, 1) := by decide +kernel
theorem d_M_counts_124 : decode prog_14_method_67_code 124 = .ok (.aload_n 0, 1) := by decide +kernel
theorem d_M_counts_125 : decode prog_14_method_67_code 125 = .ok (.getfield 90, 3) := by decide +kernel
theorem d_M_counts_128 : decode prog_14_method_67_code 128 = .ok (.iload_n 1, 1) := by decide +kernel
theorem d_M_counts_129 : decode prog_14_method_67_code 129 = .ok (.iaload, 1) := by decide +kernel
theorem d_M_counts_130 : decode prog_14_method_67_code 130 = .ok (.aload_n 0, 1) := by decide +kernel
theorem d_M_counts_131 : decode prog_14_method_67_code 131 = .ok (.getfield 93, 3) := by decide +kernel
theorem d_M_counts_134 : decode prog_14_method_67_code 134 = .ok (.iload_n 1, 1) := by decide +kernel
theorem d_M_counts_135 : decode prog_14_method_67_code 135 = .ok (.iaload, 1) := by decide +kernel
theorem d_M_counts_136 : decode prog_14_method_67_code 136 = .ok (.invokevirtual 286, 3) := by decide +kernel
theorem d_M_counts_139 : decode prog_14_method_67_code 139 = .ok (.iconst 1, 1) := by decide +kernel
theorem d_M_counts_140 : decode prog_14_method_67_code 140 = .ok (.bastore, 1) := by decide +kernel
theorem d_M_counts_40 : decode prog_14_method_67_code 40 = .ok (.iload_n 2, 1) := by decide +kernel
theorem d_M_counts_41 : decode prog_14_method_67_code 41 = .ok (.iload_n 1, 1) := by decide +kernel
theorem d_M_counts_42 : decode prog_14_method_67_code 42 = .ok (.if_icmp .ge 33, 3) := by decide +kernel
theorem d_M_counts_75 : decode prog_14_method_67_code 75 = .ok (.iinc 1 1, 3) := by decide +kernel
theorem d_M_counts_78 : decode prog_14_method_67_code 78 = .ok (.goto (-48), 3) := by decide +kernel
theorem d_M_counts_45 : decode prog_14_method_67_code 45 = .ok (.aload_n 0, 1) := by decide +kernel
theorem d_M_counts_46 : decode prog_14_method_67_code 46 = .ok (.iload_n 1, 1) := by decide +kernel
theorem d_M_counts_47 : decode prog_14_method_67_code 47 = .ok (.iload_n 2, 1) := by decide +kernel
theorem d_M_counts_48 : decode prog_14_method_67_code 48 = .ok (.invokevirtual 283, 3) := by decide +kernel
theorem d_M_counts_51 : decode prog_14_method_67_code 51 = .ok (.ifCond .eq 18, 3) := by decide +kernel
theorem d_M_counts_54 : decode prog_14_method_67_code 54 = .ok (.aload_n 0, 1) := by decide +kernel
theorem d_M_counts_55 : decode prog_14_method_67_code 55 = .ok (.getfield 109, 3) := by decide +kernel
theorem d_M_counts_58 : decode prog_14_method_67_code 58 = .ok (.aload_n 0, 1) := by decide +kernel
theorem d_M_counts_59 : decode prog_14_method_67_code 59 = .ok (.iload_n 1, 1) := by decide +kernel
theorem d_M_counts_60 : decode prog_14_method_67_code 60 = .ok (.iload_n 2, 1) := by decide +kernel
theorem d_M_counts_61 : decode prog_14_method_67_code 61 = .ok (.invokevirtual 286, 3) := by decide +kernel
theorem d_M_counts_64 : decode prog_14_method_67_code 64 = .ok (.dup2, 1) := by decide +kernel
theorem d_M_counts_65 : decode prog_14_method_67_code 65 = .ok (.iaload, 1) := by decide +kernel
theorem d_M_counts_66 : decode prog_14_method_67_code 66 = .ok (.iconst 1, 1) := by decide +kernel
theorem d_M_counts_67 : decode prog_14_method_67_code 67 = .ok (.iadd, 1) := by decide +kernel
theorem d_M_counts_68 : decode prog_14_method_67_code 68 = .ok (.iastore, 1) := by decide +kernel
theorem d_M_counts_141 : decode prog_14_method_67_code 141 = .ok (.iinc 1 1, 3) := by decide +kernel
theorem d_M_counts_144 : decode prog_14_method_67_code 144 = .ok (.goto (-61), 3) := by decide +kernel
theorem d_M_counts_69 : decode prog_14_method_67_code 69 = .ok (.iinc 2 1, 3) := by decide +kernel
theorem d_M_counts_72 : decode prog_14_method_67_code 72 = .ok (.goto (-32), 3) := by decide +kernel
theorem d_M_pairs_17 : decode prog_14_method_69_code 17 = .ok (.aload_n 0, 1) := by decide +kernel
theorem d_M_pairs_18 : decode prog_14_method_69_code 18 = .ok (.iload_n 1, 1) := by decide +kernel
theorem d_M_pairs_19 : decode prog_14_method_69_code 19 = .ok (.invokevirtual 292, 3) := by decide +kernel
theorem d_M_pairsOf_0 : decode prog_14_method_68_code 0 = .ok (.iconst 0, 1) := by decide +kernel
theorem d_M_pairsOf_1 : decode prog_14_method_68_code 1 = .ok (.istore_n 2, 1) := by decide +kernel
theorem d_M_pairsOf_2 : decode prog_14_method_68_code 2 = .ok (.iconst 0, 1) := by decide +kernel
theorem d_M_pairsOf_3 : decode prog_14_method_68_code 3 = .ok (.istore_n 3, 1) := by decide +kernel
theorem d_M_pairsOf_4 : decode prog_14_method_68_code 4 = .ok (.iload_n 3, 1) := by decide +kernel
theorem d_M_pairsOf_5 : decode prog_14_method_68_code 5 = .ok (.bipush 64, 2) := by decide +kernel
theorem d_M_pairsOf_7 : decode prog_14_method_68_code 7 = .ok (.if_icmp .ge 28, 3) := by decide +kernel
theorem d_M_pairsOf_35 : decode prog_14_method_68_code 35 = .ok (.iload_n 2, 1) := by decide +kernel
theorem d_M_pairsOf_36 : decode prog_14_method_68_code 36 = .ok (.ireturn, 1) := by decide +kernel
theorem d_M_pairsOf_10 : decode prog_14_method_68_code 10 = .ok (.iload_n 2, 1) := by decide +kernel
theorem d_M_pairsOf_11 : decode prog_14_method_68_code 11 = .ok (.iload_n 3, 1) := by decide +kernel
theorem d_M_pairsOf_12 : decode prog_14_method_68_code 12 = .ok (.iload_n 1, 1) := by decide +kernel
theorem d_M_pairsOf_13 : decode prog_14_method_68_code 13 = .ok (.iand, 1) := by decide +kernel
theorem d_M_pairsOf_14 : decode prog_14_method_68_code 14 = .ok (.ifCond .ne 7, 3) := by decide +kernel
theorem d_M_pairsOf_17 : decode prog_14_method_68_code 17 = .ok (.iconst 0, 1) := by decide +kernel
theorem d_M_pairsOf_18 : decode prog_14_method_68_code 18 = .ok (.goto 9, 3) := by decide +kernel
theorem d_M_pairsOf_21 : decode prog_14_method_68_code 21 = .ok (.aload_n 0, 1) := by decide +kernel
theorem d_M_pairsOf_22 : decode prog_14_method_68_code 22 = .ok (.getfield 109, 3) := by decide +kernel
theorem d_M_pairsOf_25 : decode prog_14_method_68_code 25 = .ok (.iload_n 3, 1) := by decide +kernel
theorem d_M_pairsOf_26 : decode prog_14_method_68_code 26 = .ok (.iaload, 1) := by decide +kernel
theorem d_M_pairsOf_27 : decode prog_14_method_68_code 27 = .ok (.iadd, 1) := by decide +kernel
theorem d_M_pairsOf_28 : decode prog_14_method_68_code 28 = .ok (.istore_n 2, 1) := by decide +kernel
theorem d_M_pairsOf_29 : decode prog_14_method_68_code 29 = .ok (.iinc 3 1, 3) := by decide +kernel
theorem d_M_pairsOf_32 : decode prog_14_method_68_code 32 = .ok (.goto (-28), 3) := by decide +kernel
theorem d_M_pairs_22 : decode prog_14_method_69_code 22 = .ok (.ireturn, 1) := by decide +kernel
theorem d_M_keys_0 : decode prog_14_method_72_code 0 = .ok (.aload_n 0, 1) := by decide +kernel
theorem d_M_keys_1 : decode prog_14_method_72_code 1 = .ok (.invokevirtual 289, 3) := by decide +kernel
theorem d_M_keys_4 : decode prog_14_method_72_code 4 = .ok (.iconst (-1), 1) := by decide +kernel
theorem d_M_keys_5 : decode prog_14_method_72_code 5 = .ok (.istore_n 1, 1) := by decide +kernel
theorem d_M_keys_6 : decode prog_14_method_72_code 6 = .ok (.iconst 0, 1) := by decide +kernel
theorem d_M_keys_7 : decode prog_14_method_72_code 7 = .ok (.istore_n 2, 1) := by decide +kernel
theorem d_M_keys_8 : decode prog_14_method_72_code 8 = .ok (.iload_n 2, 1) := by decide +kernel
theorem d_M_keys_9 : decode prog_14_method_72_code 9 = .ok (.bipush 64, 2) := by decide +kernel
theorem d_M_keys_11 : decode prog_14_method_72_code 11 = .ok (.if_icmp .ge 66, 3) := by decide +kernel
theorem d_M_keys_77 : decode prog_14_method_72_code 77 = .ok (.iload_n 1, 1) := by decide +kernel
theorem d_M_keys_78 : decode prog_14_method_72_code 78 = .ok (.ireturn, 1) := by decide +kernel
theorem d_M_keys_14 : decode prog_14_method_72_code 14 = .ok (.aload_n 0, 1) := by decide +kernel
theorem d_M_keys_15 : decode prog_14_method_72_code 15 = .ok (.iload_n 2, 1) := by decide +kernel
theorem d_M_keys_16 : decode prog_14_method_72_code 16 = .ok (.invokevirtual 295, 3) := by decide +kernel
theorem d_M_missesNone_0 : decode prog_14_method_71_code 0 = .ok (.iconst 0, 1) := by decide +kernel
theorem d_M_missesNone_1 : decode prog_14_method_71_code 1 = .ok (.istore_n 2, 1) := by decide +kernel
theorem d_M_missesNone_2 : decode prog_14_method_71_code 2 = .ok (.iload_n 2, 1) := by decide +kernel
theorem d_M_missesNone_3 : decode prog_14_method_71_code 3 = .ok (.bipush 64, 2) := by decide +kernel
theorem d_M_missesNone_5 : decode prog_14_method_71_code 5 = .ok (.if_icmp .ge 26, 3) := by decide +kernel
theorem d_M_missesNone_31 : decode prog_14_method_71_code 31 = .ok (.iconst 1, 1) := by decide +kernel
theorem d_M_missesNone_32 : decode prog_14_method_71_code 32 = .ok (.ireturn, 1) := by decide +kernel
theorem d_M_missesNone_8 : decode prog_14_method_71_code 8 = .ok (.aload_n 0, 1) := by decide +kernel
theorem d_M_missesNone_9 : decode prog_14_method_71_code 9 = .ok (.getfield 112, 3) := by decide +kernel
theorem d_M_missesNone_12 : decode prog_14_method_71_code 12 = .ok (.iload_n 2, 1) := by decide +kernel
theorem d_M_missesNone_13 : decode prog_14_method_71_code 13 = .ok (.baload, 1) := by decide +kernel
theorem d_M_missesNone_14 : decode prog_14_method_71_code 14 = .ok (.ifCond .eq 11, 3) := by decide +kernel
theorem d_M_missesNone_17 : decode prog_14_method_71_code 17 = .ok (.iload_n 2, 1) := by decide +kernel
theorem d_M_missesNone_18 : decode prog_14_method_71_code 18 = .ok (.iload_n 1, 1) := by decide +kernel
theorem d_M_missesNone_19 : decode prog_14_method_71_code 19 = .ok (.iand, 1) := by decide +kernel
theorem d_M_missesNone_20 : decode prog_14_method_71_code 20 = .ok (.ifCond .ne 5, 3) := by decide +kernel
theorem d_M_missesNone_23 : decode prog_14_method_71_code 23 = .ok (.iconst 0, 1) := by decide +kernel
theorem d_M_missesNone_24 : decode prog_14_method_71_code 24 = .ok (.ireturn, 1) := by decide +kernel
theorem d_M_missesNone_25 : decode prog_14_method_71_code 25 = .ok (.iinc 2 1, 3) := by decide +kernel
theorem d_M_missesNone_28 : decode prog_14_method_71_code 28 = .ok (.goto (-26), 3) := by decide +kernel
theorem d_M_keys_19 : decode prog_14_method_72_code 19 = .ok (.ifCond .eq 52, 3) := by decide +kernel
theorem d_M_keys_22 : decode prog_14_method_72_code 22 = .ok (.iload_n 1, 1) := by decide +kernel
theorem d_M_keys_23 : decode prog_14_method_72_code 23 = .ok (.iconst (-1), 1) := by decide +kernel
theorem d_M_keys_24 : decode prog_14_method_72_code 24 = .ok (.if_icmp .ne 7, 3) := by decide +kernel
theorem d_M_keys_27 : decode prog_14_method_72_code 27 = .ok (.iconst 1, 1) := by decide +kernel
theorem d_M_keys_28 : decode prog_14_method_72_code 28 = .ok (.goto 14, 3) := by decide +kernel
theorem d_M_keys_31 : decode prog_14_method_72_code 31 = .ok (.aload_n 0, 1) := by decide +kernel
theorem d_M_keys_32 : decode prog_14_method_72_code 32 = .ok (.iload_n 1, 1) := by decide +kernel
theorem d_M_keys_33 : decode prog_14_method_72_code 33 = .ok (.invokevirtual 292, 3) := by decide +kernel
theorem d_M_keys_36 : decode prog_14_method_72_code 36 = .ok (.aload_n 0, 1) := by decide +kernel
theorem d_M_keys_37 : decode prog_14_method_72_code 37 = .ok (.iload_n 2, 1) := by decide +kernel
theorem d_M_keys_38 : decode prog_14_method_72_code 38 = .ok (.invokevirtual 292, 3) := by decide +kernel
theorem d_M_keys_41 : decode prog_14_method_72_code 41 = .ok (.isub, 1) := by decide +kernel
theorem d_M_keys_71 : decode prog_14_method_72_code 71 = .ok (.iinc 2 1, 3) := by decide +kernel
theorem d_M_keys_74 : decode prog_14_method_72_code 74 = .ok (.goto (-66), 3) := by decide +kernel
theorem d_M_keys_42 : decode prog_14_method_72_code 42 = .ok (.istore_n 3, 1) := by decide +kernel
theorem d_M_keys_43 : decode prog_14_method_72_code 43 = .ok (.iload_n 3, 1) := by decide +kernel
theorem d_M_keys_44 : decode prog_14_method_72_code 44 = .ok (.ifCond .ne 15, 3) := by decide +kernel
theorem d_M_keys_47 : decode prog_14_method_72_code 47 = .ok (.iload_n 1, 1) := by decide +kernel
theorem d_M_keys_48 : decode prog_14_method_72_code 48 = .ok (.invokestatic 298, 3) := by decide +kernel
theorem d_M_ones_0 : decode prog_14_method_70_code 0 = .ok (.iconst 0, 1) := by decide +kernel
theorem d_M_ones_1 : decode prog_14_method_70_code 1 = .ok (.istore_n 1, 1) := by decide +kernel
theorem d_M_ones_2 : decode prog_14_method_70_code 2 = .ok (.iconst 0, 1) := by decide +kernel
theorem d_M_ones_3 : decode prog_14_method_70_code 3 = .ok (.istore_n 2, 1) := by decide +kernel
theorem d_M_ones_4 : decode prog_14_method_70_code 4 = .ok (.iload_n 2, 1) := by decide +kernel
theorem d_M_ones_5 : decode prog_14_method_70_code 5 = .ok (.bipush 6, 2) := by decide +kernel
theorem d_M_ones_7 : decode prog_14_method_70_code 7 = .ok (.if_icmp .ge 17, 3) := by decide +kernel
theorem d_M_ones_24 : decode prog_14_method_70_code 24 = .ok (.iload_n 1, 1) := by decide +kernel
theorem d_M_ones_25 : decode prog_14_method_70_code 25 = .ok (.ireturn, 1) := by decide +kernel
theorem d_M_ones_10 : decode prog_14_method_70_code 10 = .ok (.iload_n 1, 1) := by decide +kernel
theorem d_M_ones_11 : decode prog_14_method_70_code 11 = .ok (.iload_n 0, 1) := by decide +kernel
theorem d_M_ones_12 : decode prog_14_method_70_code 12 = .ok (.iload_n 2, 1) := by decide +kernel
theorem d_M_ones_13 : decode prog_14_method_70_code 13 = .ok (.ishr, 1) := by decide +kernel
theorem d_M_ones_14 : decode prog_14_method_70_code 14 = .ok (.iconst 1, 1) := by decide +kernel
theorem d_M_ones_15 : decode prog_14_method_70_code 15 = .ok (.iand, 1) := by decide +kernel
theorem d_M_ones_16 : decode prog_14_method_70_code 16 = .ok (.iadd, 1) := by decide +kernel
theorem d_M_ones_17 : decode prog_14_method_70_code 17 = .ok (.istore_n 1, 1) := by decide +kernel
theorem d_M_ones_18 : decode prog_14_method_70_code 18 = .ok (.iinc 2 1, 3) := by decide +kernel
theorem d_M_ones_21 : decode prog_14_method_70_code 21 = .ok (.goto (-17), 3) := by decide +kernel
theorem d_M_keys_51 : decode prog_14_method_72_code 51 = .ok (.iload_n 2, 1) := by decide +kernel
theorem d_M_keys_52 : decode prog_14_method_72_code 52 = .ok (.invokestatic 298, 3) := by decide +kernel
theorem d_M_keys_55 : decode prog_14_method_72_code 55 = .ok (.isub, 1) := by decide +kernel
theorem d_M_keys_56 : decode prog_14_method_72_code 56 = .ok (.goto 4, 3) := by decide +kernel
theorem d_M_keys_59 : decode prog_14_method_72_code 59 = .ok (.iload_n 3, 1) := by decide +kernel
theorem d_M_keys_60 : decode prog_14_method_72_code 60 = .ok (.istore_n 3, 1) := by decide +kernel
theorem d_M_keys_61 : decode prog_14_method_72_code 61 = .ok (.iload_n 3, 1) := by decide +kernel
theorem d_M_keys_62 : decode prog_14_method_72_code 62 = .ok (.ifCond .le 7, 3) := by decide +kernel
theorem d_M_keys_69 : decode prog_14_method_72_code 69 = .ok (.iload_n 1, 1) := by decide +kernel
theorem d_M_keys_65 : decode prog_14_method_72_code 65 = .ok (.iload_n 2, 1) := by decide +kernel
theorem d_M_keys_66 : decode prog_14_method_72_code 66 = .ok (.goto 4, 3) := by decide +kernel
theorem d_M_keys_70 : decode prog_14_method_72_code 70 = .ok (.istore_n 1, 1) := by decide +kernel
theorem d_M_sheet_0 : decode prog_14_method_75_code 0 = .ok (.iload_n 1, 1) := by decide +kernel
theorem d_M_sheet_1 : decode prog_14_method_75_code 1 = .ok (.invokestatic 140, 3) := by decide +kernel
theorem d_M_sheet_4 : decode prog_14_method_75_code 4 = .ok (.ifCond .eq 18, 3) := by decide +kernel
theorem d_M_sheet_22 : decode prog_14_method_75_code 22 = .ok (.bipush (-2), 2) := by decide +kernel
theorem d_M_sheet_24 : decode prog_14_method_75_code 24 = .ok (.ireturn, 1) := by decide +kernel
theorem d_M_sheet_7 : decode prog_14_method_75_code 7 = .ok (.iload_n 2, 1) := by decide +kernel
theorem d_M_sheet_8 : decode prog_14_method_75_code 8 = .ok (.iconst 0, 1) := by decide +kernel
theorem d_M_sheet_9 : decode prog_14_method_75_code 9 = .ok (.iconst 2, 1) := by decide +kernel
theorem d_M_sheet_10 : decode prog_14_method_75_code 10 = .ok (.invokestatic 133, 3) := by decide +kernel
theorem d_M_sheet_13 : decode prog_14_method_75_code 13 = .ok (.ifCond .eq 9, 3) := by decide +kernel
theorem d_M_sheet_16 : decode prog_14_method_75_code 16 = .ok (.iload_n 3, 1) := by decide +kernel
theorem d_M_sheet_17 : decode prog_14_method_75_code 17 = .ok (.bipush 40, 2) := by decide +kernel
theorem d_M_sheet_19 : decode prog_14_method_75_code 19 = .ok (.if_icmp .le 6, 3) := by decide +kernel
theorem d_M_sheet_25 : decode prog_14_method_75_code 25 = .ok (.iload_n 3, 1) := by decide +kernel
theorem d_M_sheet_26 : decode prog_14_method_75_code 26 = .ok (.ifCond .ge 9, 3) := by decide +kernel
theorem d_M_sheet_35 : decode prog_14_method_75_code 35 = .ok (.aload_n 0, 1) := by decide +kernel
theorem d_M_sheet_36 : decode prog_14_method_75_code 36 = .ok (.getfield 115, 3) := by decide +kernel
theorem d_M_sheet_39 : decode prog_14_method_75_code 39 = .ok (.iload_n 1, 1) := by decide +kernel
theorem d_M_sheet_40 : decode prog_14_method_75_code 40 = .ok (.iconst 1, 1) := by decide +kernel
theorem d_M_sheet_41 : decode prog_14_method_75_code 41 = .ok (.bastore, 1) := by decide +kernel
theorem d_M_sheet_42 : decode prog_14_method_75_code 42 = .ok (.aload_n 0, 1) := by decide +kernel
theorem d_M_sheet_43 : decode prog_14_method_75_code 43 = .ok (.getfield 118, 3) := by decide +kernel
theorem d_M_sheet_46 : decode prog_14_method_75_code 46 = .ok (.iload_n 1, 1) := by decide +kernel
theorem d_M_sheet_47 : decode prog_14_method_75_code 47 = .ok (.iload_n 2, 1) := by decide +kernel
theorem d_M_sheet_48 : decode prog_14_method_75_code 48 = .ok (.iastore, 1) := by decide +kernel
theorem d_M_sheet_49 : decode prog_14_method_75_code 49 = .ok (.aload_n 0, 1) := by decide +kernel
theorem d_M_sheet_50 : decode prog_14_method_75_code 50 = .ok (.getfield 121, 3) := by decide +kernel
theorem d_M_sheet_53 : decode prog_14_method_75_code 53 = .ok (.iload_n 1, 1) := by decide +kernel
theorem d_M_sheet_54 : decode prog_14_method_75_code 54 = .ok (.iload_n 3, 1) := by decide +kernel
theorem d_M_sheet_55 : decode prog_14_method_75_code 55 = .ok (.iastore, 1) := by decide +kernel
theorem d_M_sheet_56 : decode prog_14_method_75_code 56 = .ok (.iconst 0, 1) := by decide +kernel
theorem d_M_sheet_57 : decode prog_14_method_75_code 57 = .ok (.istore 4, 2) := by decide +kernel
theorem d_M_sheet_29 : decode prog_14_method_75_code 29 = .ok (.aload_n 0, 1) := by decide +kernel
theorem d_M_sheet_30 : decode prog_14_method_75_code 30 = .ok (.iconst 5, 1) := by decide +kernel
theorem d_M_sheet_31 : decode prog_14_method_75_code 31 = .ok (.invokevirtual 144, 3) := by decide +kernel
theorem d_M_sheet_34 : decode prog_14_method_75_code 34 = .ok (.ireturn, 1) := by decide +kernel
theorem d_M_sheet_59 : decode prog_14_method_75_code 59 = .ok (.iload 4, 2) := by decide +kernel
theorem d_M_sheet_61 : decode prog_14_method_75_code 61 = .ok (.bipush 40, 2) := by decide +kernel
theorem d_M_sheet_63 : decode prog_14_method_75_code 63 = .ok (.if_icmp .ge 22, 3) := by decide +kernel
theorem d_M_sheet_85 : decode prog_14_method_75_code 85 = .ok (.iload_n 3, 1) := by decide +kernel
theorem d_M_sheet_86 : decode prog_14_method_75_code 86 = .ok (.ireturn, 1) := by decide +kernel
theorem d_M_sheet_66 : decode prog_14_method_75_code 66 = .ok (.aload_n 0, 1) := by decide +kernel
theorem d_M_sheet_67 : decode prog_14_method_75_code 67 = .ok (.getfield 124, 3) := by decide +kernel
theorem d_M_sheet_70 : decode prog_14_method_75_code 70 = .ok (.bipush 40, 2) := by decide +kernel
theorem d_M_sheet_72 : decode prog_14_method_75_code 72 = .ok (.iload_n 1, 1) := by decide +kernel
theorem d_M_sheet_73 : decode prog_14_method_75_code 73 = .ok (.imul, 1) := by decide +kernel
theorem d_M_sheet_74 : decode prog_14_method_75_code 74 = .ok (.iload 4, 2) := by decide +kernel
theorem d_M_sheet_76 : decode prog_14_method_75_code 76 = .ok (.iadd, 1) := by decide +kernel
theorem d_M_sheet_77 : decode prog_14_method_75_code 77 = .ok (.iconst 0, 1) := by decide +kernel
theorem d_M_sheet_78 : decode prog_14_method_75_code 78 = .ok (.iastore, 1) := by decide +kernel
theorem d_M_sheet_79 : decode prog_14_method_75_code 79 = .ok (.iinc 4 1, 3) := by decide +kernel
theorem d_M_sheet_82 : decode prog_14_method_75_code 82 = .ok (.goto (-23), 3) := by decide +kernel
theorem d_M_lose_0 : decode prog_14_method_76_code 0 = .ok (.iload_n 1, 1) := by decide +kernel
theorem d_M_lose_1 : decode prog_14_method_76_code 1 = .ok (.invokestatic 140, 3) := by decide +kernel
theorem d_M_lose_4 : decode prog_14_method_76_code 4 = .ok (.ifCond .ne 6, 3) := by decide +kernel
theorem d_M_lose_7 : decode prog_14_method_76_code 7 = .ok (.bipush (-2), 2) := by decide +kernel
theorem d_M_lose_9 : decode prog_14_method_76_code 9 = .ok (.ireturn, 1) := by decide +kernel
theorem d_M_lose_10 : decode prog_14_method_76_code 10 = .ok (.aload_n 0, 1) := by decide +kernel
theorem d_M_lose_11 : decode prog_14_method_76_code 11 = .ok (.getfield 115, 3) := by decide +kernel
theorem d_M_lose_14 : decode prog_14_method_76_code 14 = .ok (.iload_n 1, 1) := by decide +kernel
theorem d_M_lose_15 : decode prog_14_method_76_code 15 = .ok (.baload, 1) := by decide +kernel
theorem d_M_lose_16 : decode prog_14_method_76_code 16 = .ok (.ifCond .ne 9, 3) := by decide +kernel
theorem d_M_lose_19 : decode prog_14_method_76_code 19 = .ok (.aload_n 0, 1) := by decide +kernel
theorem d_M_lose_20 : decode prog_14_method_76_code 20 = .ok (.iconst 1, 1) := by decide +kernel
theorem d_M_lose_21 : decode prog_14_method_76_code 21 = .ok (.invokevirtual 144, 3) := by decide +kernel
theorem d_M_lose_24 : decode prog_14_method_76_code 24 = .ok (.ireturn, 1) := by decide +kernel
theorem d_M_lose_25 : decode prog_14_method_76_code 25 = .ok (.aload_n 0, 1) := by decide +kernel
theorem d_M_lose_26 : decode prog_14_method_76_code 26 = .ok (.getfield 115, 3) := by decide +kernel
theorem d_M_lose_29 : decode prog_14_method_76_code 29 = .ok (.iload_n 1, 1) := by decide +kernel
theorem d_M_lose_30 : decode prog_14_method_76_code 30 = .ok (.iconst 0, 1) := by decide +kernel
theorem d_M_lose_31 : decode prog_14_method_76_code 31 = .ok (.bastore, 1) := by decide +kernel
theorem d_M_lose_32 : decode prog_14_method_76_code 32 = .ok (.aload_n 0, 1) := by decide +kernel
theorem d_M_lose_33 : decode prog_14_method_76_code 33 = .ok (.getfield 121, 3) := by decide +kernel
theorem d_M_lose_36 : decode prog_14_method_76_code 36 = .ok (.iload_n 1, 1) := by decide +kernel
theorem d_M_lose_37 : decode prog_14_method_76_code 37 = .ok (.iaload, 1) := by decide +kernel
theorem d_M_lose_38 : decode prog_14_method_76_code 38 = .ok (.ireturn, 1) := by decide +kernel
theorem d_M_put_0 : decode prog_14_method_79_code 0 = .ok (.iload_n 1, 1) := by decide +kernel
theorem d_M_put_1 : decode prog_14_method_79_code 1 = .ok (.invokestatic 140, 3) := by decide +kernel
theorem d_M_put_4 : decode prog_14_method_79_code 4 = .ok (.ifCond .eq 12, 3) := by decide +kernel
theorem d_M_put_16 : decode prog_14_method_79_code 16 = .ok (.bipush (-2), 2) := by decide +kernel
theorem d_M_put_18 : decode prog_14_method_79_code 18 = .ok (.ireturn, 1) := by decide +kernel
theorem d_M_put_7 : decode prog_14_method_79_code 7 = .ok (.iload_n 2, 1) := by decide +kernel
theorem d_M_put_8 : decode prog_14_method_79_code 8 = .ok (.iconst 0, 1) := by decide +kernel
theorem d_M_put_9 : decode prog_14_method_79_code 9 = .ok (.iconst 2, 1) := by decide +kernel
theorem d_M_put_10 : decode prog_14_method_79_code 10 = .ok (.invokestatic 133, 3) := by decide +kernel
theorem d_M_put_13 : decode prog_14_method_79_code 13 = .ok (.ifCond .ne 6, 3) := by decide +kernel
theorem d_M_put_19 : decode prog_14_method_79_code 19 = .ok (.aload_n 0, 1) := by decide +kernel
theorem d_M_put_20 : decode prog_14_method_79_code 20 = .ok (.iload_n 1, 1) := by decide +kernel
theorem d_M_put_21 : decode prog_14_method_79_code 21 = .ok (.iload_n 2, 1) := by decide +kernel
theorem d_M_put_22 : decode prog_14_method_79_code 22 = .ok (.iload_n 3, 1) := by decide +kernel
theorem d_M_put_23 : decode prog_14_method_79_code 23 = .ok (.invokevirtual 304, 3) := by decide +kernel
theorem d_M_lacks_0 : decode prog_14_method_77_code 0 = .ok (.aload_n 0, 1) := by decide +kernel
theorem d_M_lacks_1 : decode prog_14_method_77_code 1 = .ok (.getfield 115, 3) := by decide +kernel
theorem d_M_lacks_4 : decode prog_14_method_77_code 4 = .ok (.iload_n 1, 1) := by decide +kernel
theorem d_M_lacks_5 : decode prog_14_method_77_code 5 = .ok (.baload, 1) := by decide +kernel
theorem d_M_lacks_6 : decode prog_14_method_77_code 6 = .ok (.ifCond .ne 7, 3) := by decide +kernel
theorem d_M_lacks_9 : decode prog_14_method_77_code 9 = .ok (.iconst 1, 1) := by decide +kernel
theorem d_M_lacks_10 : decode prog_14_method_77_code 10 = .ok (.goto 38, 3) := by decide +kernel
theorem d_M_lacks_48 : decode prog_14_method_77_code 48 = .ok (.ireturn, 1) := by decide +kernel
theorem d_M_lacks_13 : decode prog_14_method_77_code 13 = .ok (.aload_n 0, 1) := by decide +kernel
theorem d_M_lacks_14 : decode prog_14_method_77_code 14 = .ok (.getfield 118, 3) := by decide +kernel
theorem d_M_lacks_17 : decode prog_14_method_77_code 17 = .ok (.iload_n 1, 1) := by decide +kernel
theorem d_M_lacks_18 : decode prog_14_method_77_code 18 = .ok (.iaload, 1) := by decide +kernel
theorem d_M_lacks_19 : decode prog_14_method_77_code 19 = .ok (.iload_n 2, 1) := by decide +kernel
theorem d_M_lacks_20 : decode prog_14_method_77_code 20 = .ok (.if_icmp .eq 7, 3) := by decide +kernel
theorem d_M_lacks_27 : decode prog_14_method_77_code 27 = .ok (.iload_n 3, 1) := by decide +kernel
theorem d_M_lacks_28 : decode prog_14_method_77_code 28 = .ok (.iconst 0, 1) := by decide +kernel
theorem d_M_lacks_29 : decode prog_14_method_77_code 29 = .ok (.aload_n 0, 1) := by decide +kernel
theorem d_M_lacks_30 : decode prog_14_method_77_code 30 = .ok (.getfield 121, 3) := by decide +kernel
theorem d_M_lacks_33 : decode prog_14_method_77_code 33 = .ok (.iload_n 1, 1) := by decide +kernel
theorem d_M_lacks_34 : decode prog_14_method_77_code 34 = .ok (.iaload, 1) := by decide +kernel
theorem d_M_lacks_35 : decode prog_14_method_77_code 35 = .ok (.iconst 1, 1) := by decide +kernel
theorem d_M_lacks_36 : decode prog_14_method_77_code 36 = .ok (.isub, 1) := by decide +kernel
theorem d_M_lacks_37 : decode prog_14_method_77_code 37 = .ok (.invokestatic 133, 3) := by decide +kernel
theorem d_M_lacks_40 : decode prog_14_method_77_code 40 = .ok (.ifCond .eq 7, 3) := by decide +kernel
theorem d_M_lacks_47 : decode prog_14_method_77_code 47 = .ok (.iconst 2, 1) := by decide +kernel
theorem d_M_lacks_43 : decode prog_14_method_77_code 43 = .ok (.iconst 0, 1) := by decide +kernel
theorem d_M_lacks_44 : decode prog_14_method_77_code 44 = .ok (.goto 4, 3) := by decide +kernel
theorem d_M_lacks_23 : decode prog_14_method_77_code 23 = .ok (.iconst 3, 1) := by decide +kernel
theorem d_M_lacks_24 : decode prog_14_method_77_code 24 = .ok (.goto 24, 3) := by decide +kernel
theorem d_M_put_26 : decode prog_14_method_79_code 26 = .ok (.istore 5, 2) := by decide +kernel
theorem d_M_put_28 : decode prog_14_method_79_code 28 = .ok (.iload 5, 2) := by decide +kernel
theorem d_M_put_30 : decode prog_14_method_79_code 30 = .ok (.ifCond .le 10, 3) := by decide +kernel
theorem d_M_put_40 : decode prog_14_method_79_code 40 = .ok (.aload_n 0, 1) := by decide +kernel
theorem d_M_put_41 : decode prog_14_method_79_code 41 = .ok (.iload_n 1, 1) := by decide +kernel
theorem d_M_put_42 : decode prog_14_method_79_code 42 = .ok (.iload_n 3, 1) := by decide +kernel
theorem d_M_put_43 : decode prog_14_method_79_code 43 = .ok (.iload 4, 2) := by decide +kernel
theorem d_M_put_45 : decode prog_14_method_79_code 45 = .ok (.invokevirtual 307, 3) := by decide +kernel
theorem d_M_lay_0 : decode prog_14_method_78_code 0 = .ok (.aload_n 0, 1) := by decide +kernel
theorem d_M_lay_1 : decode prog_14_method_78_code 1 = .ok (.getfield 124, 3) := by decide +kernel
theorem d_M_lay_4 : decode prog_14_method_78_code 4 = .ok (.bipush 40, 2) := by decide +kernel
theorem d_M_lay_6 : decode prog_14_method_78_code 6 = .ok (.iload_n 1, 1) := by decide +kernel
theorem d_M_lay_7 : decode prog_14_method_78_code 7 = .ok (.imul, 1) := by decide +kernel
theorem d_M_lay_8 : decode prog_14_method_78_code 8 = .ok (.iload_n 2, 1) := by decide +kernel
theorem d_M_lay_9 : decode prog_14_method_78_code 9 = .ok (.iadd, 1) := by decide +kernel
theorem d_M_lay_10 : decode prog_14_method_78_code 10 = .ok (.aload_n 0, 1) := by decide +kernel
theorem d_M_lay_11 : decode prog_14_method_78_code 11 = .ok (.getfield 118, 3) := by decide +kernel
theorem d_M_lay_14 : decode prog_14_method_78_code 14 = .ok (.iload_n 1, 1) := by decide +kernel
theorem d_M_lay_15 : decode prog_14_method_78_code 15 = .ok (.iaload, 1) := by decide +kernel
theorem d_M_lay_16 : decode prog_14_method_78_code 16 = .ok (.ifCond .ne 8, 3) := by decide +kernel
theorem d_M_lay_19 : decode prog_14_method_78_code 19 = .ok (.iload_n 3, 1) := by decide +kernel
theorem d_M_lay_20 : decode prog_14_method_78_code 20 = .ok (.i2b, 1) := by decide +kernel
theorem d_M_lay_21 : decode prog_14_method_78_code 21 = .ok (.goto 19, 3) := by decide +kernel
theorem d_M_lay_24 : decode prog_14_method_78_code 24 = .ok (.aload_n 0, 1) := by decide +kernel
theorem d_M_lay_25 : decode prog_14_method_78_code 25 = .ok (.getfield 118, 3) := by decide +kernel
theorem d_M_lay_28 : decode prog_14_method_78_code 28 = .ok (.iload_n 1, 1) := by decide +kernel
theorem d_M_lay_29 : decode prog_14_method_78_code 29 = .ok (.iaload, 1) := by decide +kernel
theorem d_M_lay_30 : decode prog_14_method_78_code 30 = .ok (.iconst 1, 1) := by decide +kernel
theorem d_M_lay_31 : decode prog_14_method_78_code 31 = .ok (.if_icmp .ne 8, 3) := by decide +kernel
theorem d_M_lay_34 : decode prog_14_method_78_code 34 = .ok (.iload_n 3, 1) := by decide +kernel
theorem d_M_lay_35 : decode prog_14_method_78_code 35 = .ok (.i2s, 1) := by decide +kernel
theorem d_M_lay_36 : decode prog_14_method_78_code 36 = .ok (.goto 4, 3) := by decide +kernel
theorem d_M_lay_39 : decode prog_14_method_78_code 39 = .ok (.iload_n 3, 1) := by decide +kernel
theorem d_M_lay_40 : decode prog_14_method_78_code 40 = .ok (.iastore, 1) := by decide +kernel
theorem d_M_lay_41 : decode prog_14_method_78_code 41 = .ok (.return_, 1) := by decide +kernel
theorem d_M_put_48 : decode prog_14_method_79_code 48 = .ok (.iconst 1, 1) := by decide +kernel
theorem d_M_put_49 : decode prog_14_method_79_code 49 = .ok (.ireturn, 1) := by decide +kernel
theorem d_M_put_33 : decode prog_14_method_79_code 33 = .ok (.aload_n 0, 1) := by decide +kernel
theorem d_M_put_34 : decode prog_14_method_79_code 34 = .ok (.iload 5, 2) := by decide +kernel
theorem d_M_put_36 : decode prog_14_method_79_code 36 = .ok (.invokevirtual 144, 3) := by decide +kernel
theorem d_M_put_39 : decode prog_14_method_79_code 39 = .ok (.ireturn, 1) := by decide +kernel
theorem d_M_get_0 : decode prog_14_method_80_code 0 = .ok (.iload_n 1, 1) := by decide +kernel
theorem d_M_get_1 : decode prog_14_method_80_code 1 = .ok (.invokestatic 140, 3) := by decide +kernel
theorem d_M_get_4 : decode prog_14_method_80_code 4 = .ok (.ifCond .eq 12, 3) := by decide +kernel
theorem d_M_get_16 : decode prog_14_method_80_code 16 = .ok (.ldc_w 311, 3) := by decide +kernel
theorem d_M_get_19 : decode prog_14_method_80_code 19 = .ok (.ireturn, 1) := by decide +kernel
theorem d_M_get_7 : decode prog_14_method_80_code 7 = .ok (.iload_n 2, 1) := by decide +kernel
theorem d_M_get_8 : decode prog_14_method_80_code 8 = .ok (.iconst 0, 1) := by decide +kernel
theorem d_M_get_9 : decode prog_14_method_80_code 9 = .ok (.iconst 2, 1) := by decide +kernel
theorem d_M_get_10 : decode prog_14_method_80_code 10 = .ok (.invokestatic 133, 3) := by decide +kernel
theorem d_M_get_13 : decode prog_14_method_80_code 13 = .ok (.ifCond .ne 7, 3) := by decide +kernel
theorem d_M_get_20 : decode prog_14_method_80_code 20 = .ok (.aload_n 0, 1) := by decide +kernel
theorem d_M_get_21 : decode prog_14_method_80_code 21 = .ok (.iload_n 1, 1) := by decide +kernel
theorem d_M_get_22 : decode prog_14_method_80_code 22 = .ok (.iload_n 2, 1) := by decide +kernel
theorem d_M_get_23 : decode prog_14_method_80_code 23 = .ok (.iload_n 3, 1) := by decide +kernel
theorem d_M_get_24 : decode prog_14_method_80_code 24 = .ok (.invokevirtual 304, 3) := by decide +kernel
theorem d_M_get_27 : decode prog_14_method_80_code 27 = .ok (.istore 4, 2) := by decide +kernel
theorem d_M_get_29 : decode prog_14_method_80_code 29 = .ok (.iload 4, 2) := by decide +kernel
theorem d_M_get_31 : decode prog_14_method_80_code 31 = .ok (.ifCond .le 13, 3) := by decide +kernel
theorem d_M_get_44 : decode prog_14_method_80_code 44 = .ok (.aload_n 0, 1) := by decide +kernel
theorem d_M_get_45 : decode prog_14_method_80_code 45 = .ok (.getfield 124, 3) := by decide +kernel
theorem d_M_get_48 : decode prog_14_method_80_code 48 = .ok (.bipush 40, 2) := by decide +kernel
theorem d_M_get_50 : decode prog_14_method_80_code 50 = .ok (.iload_n 1, 1) := by decide +kernel
theorem d_M_get_51 : decode prog_14_method_80_code 51 = .ok (.imul, 1) := by decide +kernel
theorem d_M_get_52 : decode prog_14_method_80_code 52 = .ok (.iload_n 3, 1) := by decide +kernel
theorem d_M_get_53 : decode prog_14_method_80_code 53 = .ok (.iadd, 1) := by decide +kernel
theorem d_M_get_54 : decode prog_14_method_80_code 54 = .ok (.iaload, 1) := by decide +kernel
theorem d_M_get_55 : decode prog_14_method_80_code 55 = .ok (.ireturn, 1) := by decide +kernel
theorem d_M_get_34 : decode prog_14_method_80_code 34 = .ok (.aload_n 0, 1) := by decide +kernel
theorem d_M_get_35 : decode prog_14_method_80_code 35 = .ok (.iload 4, 2) := by decide +kernel
theorem d_M_get_37 : decode prog_14_method_80_code 37 = .ok (.putfield 301, 3) := by decide +kernel
theorem d_M_get_40 : decode prog_14_method_80_code 40 = .ok (.ldc_w 311, 3) := by decide +kernel
theorem d_M_get_43 : decode prog_14_method_80_code 43 = .ok (.ireturn, 1) := by decide +kernel
theorem d_M_copy_0 : decode prog_14_method_81_code 0 = .ok (.iload_n 1, 1) := by decide +kernel
theorem d_M_copy_1 : decode prog_14_method_81_code 1 = .ok (.invokestatic 140, 3) := by decide +kernel
theorem d_M_copy_4 : decode prog_14_method_81_code 4 = .ok (.ifCond .eq 10, 3) := by decide +kernel
theorem d_M_copy_14 : decode prog_14_method_81_code 14 = .ok (.bipush (-2), 2) := by decide +kernel
theorem d_M_copy_16 : decode prog_14_method_81_code 16 = .ok (.ireturn, 1) := by decide +kernel
theorem d_M_copy_7 : decode prog_14_method_81_code 7 = .ok (.iload_n 3, 1) := by decide +kernel
theorem d_M_copy_8 : decode prog_14_method_81_code 8 = .ok (.invokestatic 140, 3) := by decide +kernel
theorem d_M_copy_11 : decode prog_14_method_81_code 11 = .ok (.ifCond .ne 6, 3) := by decide +kernel
theorem d_M_copy_17 : decode prog_14_method_81_code 17 = .ok (.aload_n 0, 1) := by decide +kernel
theorem d_M_copy_18 : decode prog_14_method_81_code 18 = .ok (.getfield 115, 3) := by decide +kernel
theorem d_M_copy_21 : decode prog_14_method_81_code 21 = .ok (.iload_n 1, 1) := by decide +kernel
theorem d_M_copy_22 : decode prog_14_method_81_code 22 = .ok (.baload, 1) := by decide +kernel
theorem d_M_copy_23 : decode prog_14_method_81_code 23 = .ok (.ifCond .eq 12, 3) := by decide +kernel
theorem d_M_copy_26 : decode prog_14_method_81_code 26 = .ok (.aload_n 0, 1) := by decide +kernel
theorem d_M_copy_27 : decode prog_14_method_81_code 27 = .ok (.getfield 115, 3) := by decide +kernel
theorem d_M_copy_30 : decode prog_14_method_81_code 30 = .ok (.iload_n 3, 1) := by decide +kernel
theorem d_M_copy_31 : decode prog_14_method_81_code 31 = .ok (.baload, 1) := by decide +kernel
theorem d_M_copy_32 : decode prog_14_method_81_code 32 = .ok (.ifCond .ne 9, 3) := by decide +kernel
theorem d_M_copy_41 : decode prog_14_method_81_code 41 = .ok (.aload_n 0, 1) := by decide +kernel
theorem d_M_copy_42 : decode prog_14_method_81_code 42 = .ok (.getfield 118, 3) := by decide +kernel
theorem d_M_copy_45 : decode prog_14_method_81_code 45 = .ok (.iload_n 1, 1) := by decide +kernel
theorem d_M_copy_46 : decode prog_14_method_81_code 46 = .ok (.iaload, 1) := by decide +kernel
theorem d_M_copy_47 : decode prog_14_method_81_code 47 = .ok (.aload_n 0, 1) := by decide +kernel
theorem d_M_copy_48 : decode prog_14_method_81_code 48 = .ok (.getfield 118, 3) := by decide +kernel
theorem d_M_copy_51 : decode prog_14_method_81_code 51 = .ok (.iload_n 3, 1) := by decide +kernel
theorem d_M_copy_52 : decode prog_14_method_81_code 52 = .ok (.iaload, 1) := by decide +kernel
theorem d_M_copy_53 : decode prog_14_method_81_code 53 = .ok (.if_icmp .eq 9, 3) := by decide +kernel
theorem d_M_copy_62 : decode prog_14_method_81_code 62 = .ok (.iload_n 2, 1) := by decide +kernel
theorem d_M_copy_63 : decode prog_14_method_81_code 63 = .ok (.ifCond .lt 48, 3) := by decide +kernel
theorem d_M_copy_66 : decode prog_14_method_81_code 66 = .ok (.iload 4, 2) := by decide +kernel
theorem d_M_copy_68 : decode prog_14_method_81_code 68 = .ok (.ifCond .lt 43, 3) := by decide +kernel
theorem d_M_copy_71 : decode prog_14_method_81_code 71 = .ok (.iload 5, 2) := by decide +kernel
theorem d_M_copy_73 : decode prog_14_method_81_code 73 = .ok (.ifCond .lt 38, 3) := by decide +kernel
theorem d_M_copy_76 : decode prog_14_method_81_code 76 = .ok (.iload_n 2, 1) := by decide +kernel
theorem d_M_copy_77 : decode prog_14_method_81_code 77 = .ok (.i2l, 1) := by decide +kernel
theorem d_M_copy_78 : decode prog_14_method_81_code 78 = .ok (.iload 5, 2) := by decide +kernel
theorem d_M_copy_80 : decode prog_14_method_81_code 80 = .ok (.i2l, 1) := by decide +kernel
theorem d_M_copy_81 : decode prog_14_method_81_code 81 = .ok (.ladd, 1) := by decide +kernel
theorem d_M_copy_82 : decode prog_14_method_81_code 82 = .ok (.aload_n 0, 1) := by decide +kernel
theorem d_M_copy_83 : decode prog_14_method_81_code 83 = .ok (.getfield 121, 3) := by decide +kernel
theorem d_M_copy_86 : decode prog_14_method_81_code 86 = .ok (.iload_n 1, 1) := by decide +kernel
theorem d_M_copy_87 : decode prog_14_method_81_code 87 = .ok (.iaload, 1) := by decide +kernel
theorem d_M_copy_88 : decode prog_14_method_81_code 88 = .ok (.i2l, 1) := by decide +kernel
theorem d_M_copy_89 : decode prog_14_method_81_code 89 = .ok (.lcmp, 1) := by decide +kernel
theorem d_M_copy_90 : decode prog_14_method_81_code 90 = .ok (.ifCond .gt 21, 3) := by decide +kernel
theorem d_M_copy_93 : decode prog_14_method_81_code 93 = .ok (.iload 4, 2) := by decide +kernel
theorem d_M_copy_95 : decode prog_14_method_81_code 95 = .ok (.i2l, 1) := by decide +kernel
theorem d_M_copy_96 : decode prog_14_method_81_code 96 = .ok (.iload 5, 2) := by decide +kernel
theorem d_M_copy_98 : decode prog_14_method_81_code 98 = .ok (.i2l, 1) := by decide +kernel
theorem d_M_copy_99 : decode prog_14_method_81_code 99 = .ok (.ladd, 1) := by decide +kernel
theorem d_M_copy_100 : decode prog_14_method_81_code 100 = .ok (.aload_n 0, 1) := by decide +kernel
theorem d_M_copy_101 : decode prog_14_method_81_code 101 = .ok (.getfield 121, 3) := by decide +kernel
theorem d_M_copy_104 : decode prog_14_method_81_code 104 = .ok (.iload_n 3, 1) := by decide +kernel
theorem d_M_copy_105 : decode prog_14_method_81_code 105 = .ok (.iaload, 1) := by decide +kernel
theorem d_M_copy_106 : decode prog_14_method_81_code 106 = .ok (.i2l, 1) := by decide +kernel
theorem d_M_copy_107 : decode prog_14_method_81_code 107 = .ok (.lcmp, 1) := by decide +kernel
theorem d_M_copy_108 : decode prog_14_method_81_code 108 = .ok (.ifCond .le 9, 3) := by decide +kernel
theorem d_M_copy_117 : decode prog_14_method_81_code 117 = .ok (.iconst 0, 1) := by decide +kernel
theorem d_M_copy_118 : decode prog_14_method_81_code 118 = .ok (.istore 6, 2) := by decide +kernel
theorem d_M_copy_56 : decode prog_14_method_81_code 56 = .ok (.aload_n 0, 1) := by decide +kernel
theorem d_M_copy_57 : decode prog_14_method_81_code 57 = .ok (.iconst 4, 1) := by decide +kernel
theorem d_M_copy_58 : decode prog_14_method_81_code 58 = .ok (.invokevirtual 144, 3) := by decide +kernel
theorem d_M_copy_61 : decode prog_14_method_81_code 61 = .ok (.ireturn, 1) := by decide +kernel
theorem d_M_copy_35 : decode prog_14_method_81_code 35 = .ok (.aload_n 0, 1) := by decide +kernel
theorem d_M_copy_36 : decode prog_14_method_81_code 36 = .ok (.iconst 1, 1) := by decide +kernel
theorem d_M_copy_37 : decode prog_14_method_81_code 37 = .ok (.invokevirtual 144, 3) := by decide +kernel
theorem d_M_copy_40 : decode prog_14_method_81_code 40 = .ok (.ireturn, 1) := by decide +kernel
theorem d_M_copy_111 : decode prog_14_method_81_code 111 = .ok (.aload_n 0, 1) := by decide +kernel
theorem d_M_copy_112 : decode prog_14_method_81_code 112 = .ok (.iconst 2, 1) := by decide +kernel
theorem d_M_copy_113 : decode prog_14_method_81_code 113 = .ok (.invokevirtual 144, 3) := by decide +kernel
theorem d_M_copy_116 : decode prog_14_method_81_code 116 = .ok (.ireturn, 1) := by decide +kernel
theorem d_M_copy_120 : decode prog_14_method_81_code 120 = .ok (.iload 6, 2) := by decide +kernel
theorem d_M_copy_122 : decode prog_14_method_81_code 122 = .ok (.iload 5, 2) := by decide +kernel
theorem d_M_copy_124 : decode prog_14_method_81_code 124 = .ok (.if_icmp .ge 30, 3) := by decide +kernel
theorem d_M_copy_154 : decode prog_14_method_81_code 154 = .ok (.iconst 0, 1) := by decide +kernel
theorem d_M_copy_155 : decode prog_14_method_81_code 155 = .ok (.istore 6, 2) := by decide +kernel
theorem d_M_copy_127 : decode prog_14_method_81_code 127 = .ok (.aload_n 0, 1) := by decide +kernel
theorem d_M_copy_128 : decode prog_14_method_81_code 128 = .ok (.getfield 127, 3) := by decide +kernel
theorem d_M_copy_131 : decode prog_14_method_81_code 131 = .ok (.iload 6, 2) := by decide +kernel
theorem d_M_copy_133 : decode prog_14_method_81_code 133 = .ok (.aload_n 0, 1) := by decide +kernel
theorem d_M_copy_134 : decode prog_14_method_81_code 134 = .ok (.getfield 124, 3) := by decide +kernel
theorem d_M_copy_137 : decode prog_14_method_81_code 137 = .ok (.bipush 40, 2) := by decide +kernel
theorem d_M_copy_139 : decode prog_14_method_81_code 139 = .ok (.iload_n 1, 1) := by decide +kernel
theorem d_M_copy_140 : decode prog_14_method_81_code 140 = .ok (.imul, 1) := by decide +kernel
theorem d_M_copy_141 : decode prog_14_method_81_code 141 = .ok (.iload_n 2, 1) := by decide +kernel
theorem d_M_copy_142 : decode prog_14_method_81_code 142 = .ok (.iadd, 1) := by decide +kernel
theorem d_M_copy_143 : decode prog_14_method_81_code 143 = .ok (.iload 6, 2) := by decide +kernel
theorem d_M_copy_145 : decode prog_14_method_81_code 145 = .ok (.iadd, 1) := by decide +kernel
theorem d_M_copy_146 : decode prog_14_method_81_code 146 = .ok (.iaload, 1) := by decide +kernel
theorem d_M_copy_147 : decode prog_14_method_81_code 147 = .ok (.iastore, 1) := by decide +kernel
theorem d_M_copy_148 : decode prog_14_method_81_code 148 = .ok (.iinc 6 1, 3) := by decide +kernel
theorem d_M_copy_151 : decode prog_14_method_81_code 151 = .ok (.goto (-31), 3) := by decide +kernel
theorem d_M_copy_157 : decode prog_14_method_81_code 157 = .ok (.iload 6, 2) := by decide +kernel
theorem d_M_copy_159 : decode prog_14_method_81_code 159 = .ok (.iload 5, 2) := by decide +kernel
theorem d_M_copy_161 : decode prog_14_method_81_code 161 = .ok (.if_icmp .ge 31, 3) := by decide +kernel
theorem d_M_copy_192 : decode prog_14_method_81_code 192 = .ok (.iconst 1, 1) := by decide +kernel
theorem d_M_copy_193 : decode prog_14_method_81_code 193 = .ok (.ireturn, 1) := by decide +kernel
theorem d_M_copy_164 : decode prog_14_method_81_code 164 = .ok (.aload_n 0, 1) := by decide +kernel
theorem d_M_copy_165 : decode prog_14_method_81_code 165 = .ok (.getfield 124, 3) := by decide +kernel
theorem d_M_copy_168 : decode prog_14_method_81_code 168 = .ok (.bipush 40, 2) := by decide +kernel
theorem d_M_copy_170 : decode prog_14_method_81_code 170 = .ok (.iload_n 3, 1) := by decide +kernel
theorem d_M_copy_171 : decode prog_14_method_81_code 171 = .ok (.imul, 1) := by decide +kernel
theorem d_M_copy_172 : decode prog_14_method_81_code 172 = .ok (.iload 4, 2) := by decide +kernel
theorem d_M_copy_174 : decode prog_14_method_81_code 174 = .ok (.iadd, 1) := by decide +kernel
theorem d_M_copy_175 : decode prog_14_method_81_code 175 = .ok (.iload 6, 2) := by decide +kernel
theorem d_M_copy_177 : decode prog_14_method_81_code 177 = .ok (.iadd, 1) := by decide +kernel
theorem d_M_copy_178 : decode prog_14_method_81_code 178 = .ok (.aload_n 0, 1) := by decide +kernel
theorem d_M_copy_179 : decode prog_14_method_81_code 179 = .ok (.getfield 127, 3) := by decide +kernel
theorem d_M_copy_182 : decode prog_14_method_81_code 182 = .ok (.iload 6, 2) := by decide +kernel
theorem d_M_copy_184 : decode prog_14_method_81_code 184 = .ok (.iaload, 1) := by decide +kernel
theorem d_M_copy_185 : decode prog_14_method_81_code 185 = .ok (.iastore, 1) := by decide +kernel
theorem d_M_copy_186 : decode prog_14_method_81_code 186 = .ok (.iinc 6 1, 3) := by decide +kernel
theorem d_M_copy_189 : decode prog_14_method_81_code 189 = .ok (.goto (-32), 3) := by decide +kernel
theorem d_M_write_0 : decode prog_14_method_82_code 0 = .ok (.aload_n 0, 1) := by decide +kernel
theorem d_M_write_1 : decode prog_14_method_82_code 1 = .ok (.iload_n 1, 1) := by decide +kernel
theorem d_M_write_2 : decode prog_14_method_82_code 2 = .ok (.invokevirtual 148, 3) := by decide +kernel
theorem d_M_write_5 : decode prog_14_method_82_code 5 = .ok (.ifCond .eq 10, 3) := by decide +kernel
theorem d_M_write_15 : decode prog_14_method_82_code 15 = .ok (.bipush (-2), 2) := by decide +kernel
theorem d_M_write_17 : decode prog_14_method_82_code 17 = .ok (.ireturn, 1) := by decide +kernel
theorem d_M_write_8 : decode prog_14_method_82_code 8 = .ok (.iload_n 2, 1) := by decide +kernel
theorem d_M_write_9 : decode prog_14_method_82_code 9 = .ok (.invokestatic 140, 3) := by decide +kernel
theorem d_M_write_12 : decode prog_14_method_82_code 12 = .ok (.ifCond .ne 6, 3) := by decide +kernel
theorem d_M_write_18 : decode prog_14_method_82_code 18 = .ok (.aload_n 0, 1) := by decide +kernel
theorem d_M_write_19 : decode prog_14_method_82_code 19 = .ok (.getfield 115, 3) := by decide +kernel
theorem d_M_write_22 : decode prog_14_method_82_code 22 = .ok (.iload_n 2, 1) := by decide +kernel
theorem d_M_write_23 : decode prog_14_method_82_code 23 = .ok (.baload, 1) := by decide +kernel
theorem d_M_write_24 : decode prog_14_method_82_code 24 = .ok (.ifCond .ne 9, 3) := by decide +kernel
theorem d_M_write_27 : decode prog_14_method_82_code 27 = .ok (.aload_n 0, 1) := by decide +kernel
theorem d_M_write_28 : decode prog_14_method_82_code 28 = .ok (.iconst 1, 1) := by decide +kernel
theorem d_M_write_29 : decode prog_14_method_82_code 29 = .ok (.invokevirtual 144, 3) := by decide +kernel
theorem d_M_write_32 : decode prog_14_method_82_code 32 = .ok (.ireturn, 1) := by decide +kernel
theorem d_M_write_33 : decode prog_14_method_82_code 33 = .ok (.aload_n 0, 1) := by decide +kernel
theorem d_M_write_34 : decode prog_14_method_82_code 34 = .ok (.iload_n 1, 1) := by decide +kernel
theorem d_M_write_35 : decode prog_14_method_82_code 35 = .ok (.iconst 0, 1) := by decide +kernel
theorem d_M_write_36 : decode prog_14_method_82_code 36 = .ok (.invokevirtual 177, 3) := by decide +kernel
theorem d_M_write_39 : decode prog_14_method_82_code 39 = .ok (.iconst 0, 1) := by decide +kernel
theorem d_M_write_40 : decode prog_14_method_82_code 40 = .ok (.istore_n 3, 1) := by decide +kernel
theorem d_M_write_41 : decode prog_14_method_82_code 41 = .ok (.iload_n 3, 1) := by decide +kernel
theorem d_M_write_42 : decode prog_14_method_82_code 42 = .ok (.aload_n 0, 1) := by decide +kernel
theorem d_M_write_43 : decode prog_14_method_82_code 43 = .ok (.getfield 50, 3) := by decide +kernel
theorem d_M_write_46 : decode prog_14_method_82_code 46 = .ok (.iconst 0, 1) := by decide +kernel
theorem d_M_write_47 : decode prog_14_method_82_code 47 = .ok (.iaload, 1) := by decide +kernel
theorem d_M_write_48 : decode prog_14_method_82_code 48 = .ok (.if_icmp .ge 31, 3) := by decide +kernel
theorem d_M_write_79 : decode prog_14_method_82_code 79 = .ok (.iload_n 3, 1) := by decide +kernel
theorem d_M_write_80 : decode prog_14_method_82_code 80 = .ok (.ireturn, 1) := by decide +kernel
theorem d_M_write_51 : decode prog_14_method_82_code 51 = .ok (.iload_n 3, 1) := by decide +kernel
theorem d_M_write_52 : decode prog_14_method_82_code 52 = .ok (.aload_n 0, 1) := by decide +kernel
theorem d_M_write_53 : decode prog_14_method_82_code 53 = .ok (.getfield 121, 3) := by decide +kernel
theorem d_M_write_56 : decode prog_14_method_82_code 56 = .ok (.iload_n 2, 1) := by decide +kernel
theorem d_M_write_57 : decode prog_14_method_82_code 57 = .ok (.iaload, 1) := by decide +kernel
theorem d_M_write_58 : decode prog_14_method_82_code 58 = .ok (.if_icmp .ge 21, 3) := by decide +kernel
theorem d_M_write_61 : decode prog_14_method_82_code 61 = .ok (.aload_n 0, 1) := by decide +kernel
theorem d_M_write_62 : decode prog_14_method_82_code 62 = .ok (.iload_n 2, 1) := by decide +kernel
theorem d_M_write_63 : decode prog_14_method_82_code 63 = .ok (.iload_n 3, 1) := by decide +kernel
theorem d_M_write_64 : decode prog_14_method_82_code 64 = .ok (.aload_n 0, 1) := by decide +kernel
theorem d_M_write_65 : decode prog_14_method_82_code 65 = .ok (.getfield 47, 3) := by decide +kernel
theorem d_M_write_68 : decode prog_14_method_82_code 68 = .ok (.iload_n 3, 1) := by decide +kernel
theorem d_M_write_69 : decode prog_14_method_82_code 69 = .ok (.iaload, 1) := by decide +kernel
theorem d_M_write_70 : decode prog_14_method_82_code 70 = .ok (.invokevirtual 307, 3) := by decide +kernel
theorem d_M_write_73 : decode prog_14_method_82_code 73 = .ok (.iinc 3 1, 3) := by decide +kernel
theorem d_M_write_76 : decode prog_14_method_82_code 76 = .ok (.goto (-35), 3) := by decide +kernel
theorem d_M_count_0 : decode prog_14_method_83_code 0 = .ok (.iconst 0, 1) := by decide +kernel
theorem d_M_count_1 : decode prog_14_method_83_code 1 = .ok (.istore_n 2, 1) := by decide +kernel
theorem d_M_count_2 : decode prog_14_method_83_code 2 = .ok (.iload_n 1, 1) := by decide +kernel
theorem d_M_count_3 : decode prog_14_method_83_code 3 = .ok (.tableswitch 100 0 8 #[49, 54, 59, 77, 77, 77, 85, 90, 95], 49) := by decide +kernel
theorem d_M_count_52 : decode prog_14_method_83_code 52 = .ok (.aload_n 0, 1) := by decide +kernel
theorem d_M_count_53 : decode prog_14_method_83_code 53 = .ok (.getfield 137, 3) := by decide +kernel
theorem d_M_count_56 : decode prog_14_method_83_code 56 = .ok (.ireturn, 1) := by decide +kernel
theorem d_M_count_57 : decode prog_14_method_83_code 57 = .ok (.aload_n 0, 1) := by decide +kernel
theorem d_M_count_58 : decode prog_14_method_83_code 58 = .ok (.getfield 130, 3) := by decide +kernel
theorem d_M_count_61 : decode prog_14_method_83_code 61 = .ok (.ireturn, 1) := by decide +kernel
theorem d_M_count_62 : decode prog_14_method_83_code 62 = .ok (.aload_n 0, 1) := by decide +kernel
theorem d_M_count_63 : decode prog_14_method_83_code 63 = .ok (.iconst 0, 1) := by decide +kernel
theorem d_M_count_64 : decode prog_14_method_83_code 64 = .ok (.invokevirtual 229, 3) := by decide +kernel
theorem d_M_count_67 : decode prog_14_method_83_code 67 = .ok (.aload_n 0, 1) := by decide +kernel
theorem d_M_count_68 : decode prog_14_method_83_code 68 = .ok (.iconst 1, 1) := by decide +kernel
theorem d_M_count_69 : decode prog_14_method_83_code 69 = .ok (.invokevirtual 229, 3) := by decide +kernel
theorem d_M_count_72 : decode prog_14_method_83_code 72 = .ok (.iadd, 1) := by decide +kernel
theorem d_M_count_73 : decode prog_14_method_83_code 73 = .ok (.aload_n 0, 1) := by decide +kernel
theorem d_M_count_74 : decode prog_14_method_83_code 74 = .ok (.iconst 2, 1) := by decide +kernel
theorem d_M_count_75 : decode prog_14_method_83_code 75 = .ok (.invokevirtual 229, 3) := by decide +kernel
theorem d_M_count_78 : decode prog_14_method_83_code 78 = .ok (.iadd, 1) := by decide +kernel
theorem d_M_count_79 : decode prog_14_method_83_code 79 = .ok (.ireturn, 1) := by decide +kernel
theorem d_M_count_88 : decode prog_14_method_83_code 88 = .ok (.aload_n 0, 1) := by decide +kernel
theorem d_M_count_89 : decode prog_14_method_83_code 89 = .ok (.getfield 265, 3) := by decide +kernel
theorem d_M_count_92 : decode prog_14_method_83_code 92 = .ok (.ireturn, 1) := by decide +kernel
theorem d_M_count_93 : decode prog_14_method_83_code 93 = .ok (.aload_n 0, 1) := by decide +kernel
theorem d_M_count_94 : decode prog_14_method_83_code 94 = .ok (.getfield 158, 3) := by decide +kernel
theorem d_M_count_97 : decode prog_14_method_83_code 97 = .ok (.ireturn, 1) := by decide +kernel
theorem d_M_count_98 : decode prog_14_method_83_code 98 = .ok (.aload_n 0, 1) := by decide +kernel
theorem d_M_count_99 : decode prog_14_method_83_code 99 = .ok (.getfield 301, 3) := by decide +kernel
theorem d_M_count_102 : decode prog_14_method_83_code 102 = .ok (.ireturn, 1) := by decide +kernel
theorem d_M_count_103 : decode prog_14_method_83_code 103 = .ok (.bipush (-2), 2) := by decide +kernel
theorem d_M_count_105 : decode prog_14_method_83_code 105 = .ok (.ireturn, 1) := by decide +kernel
theorem d_M_count_80 : decode prog_14_method_83_code 80 = .ok (.aload_n 0, 1) := by decide +kernel
theorem d_M_count_81 : decode prog_14_method_83_code 81 = .ok (.iload_n 1, 1) := by decide +kernel
theorem d_M_count_82 : decode prog_14_method_83_code 82 = .ok (.iconst 3, 1) := by decide +kernel
theorem d_M_count_83 : decode prog_14_method_83_code 83 = .ok (.isub, 1) := by decide +kernel
theorem d_M_count_84 : decode prog_14_method_83_code 84 = .ok (.invokevirtual 229, 3) := by decide +kernel
theorem d_M_count_87 : decode prog_14_method_83_code 87 = .ok (.ireturn, 1) := by decide +kernel
theorem d_M_digest_0 : decode prog_14_method_84_code 0 = .ok (.ldc2_w 312, 3) := by decide +kernel
theorem d_M_digest_3 : decode prog_14_method_84_code 3 = .ok (.lstore_n 1, 1) := by decide +kernel
theorem d_M_digest_4 : decode prog_14_method_84_code 4 = .ok (.iconst 0, 1) := by decide +kernel
theorem d_M_digest_5 : decode prog_14_method_84_code 5 = .ok (.istore_n 3, 1) := by decide +kernel
theorem d_M_digest_6 : decode prog_14_method_84_code 6 = .ok (.iload_n 3, 1) := by decide +kernel
theorem d_M_digest_7 : decode prog_14_method_84_code 7 = .ok (.bipush 8, 2) := by decide +kernel
theorem d_M_digest_9 : decode prog_14_method_84_code 9 = .ok (.if_icmp .ge 22, 3) := by decide +kernel
theorem d_M_digest_31 : decode prog_14_method_84_code 31 = .ok (.iconst 0, 1) := by decide +kernel
theorem d_M_digest_32 : decode prog_14_method_84_code 32 = .ok (.istore_n 3, 1) := by decide +kernel
theorem d_M_digest_12 : decode prog_14_method_84_code 12 = .ok (.ldc2_w 314, 3) := by decide +kernel
theorem d_M_digest_15 : decode prog_14_method_84_code 15 = .ok (.lload_n 1, 1) := by decide +kernel
theorem d_M_digest_16 : decode prog_14_method_84_code 16 = .ok (.lmul, 1) := by decide +kernel
theorem d_M_digest_17 : decode prog_14_method_84_code 17 = .ok (.aload_n 0, 1) := by decide +kernel
theorem d_M_digest_18 : decode prog_14_method_84_code 18 = .ok (.iload_n 3, 1) := by decide +kernel
theorem d_M_digest_19 : decode prog_14_method_84_code 19 = .ok (.invokevirtual 316, 3) := by decide +kernel
theorem d_M_digest_22 : decode prog_14_method_84_code 22 = .ok (.i2l, 1) := by decide +kernel
theorem d_M_digest_23 : decode prog_14_method_84_code 23 = .ok (.ladd, 1) := by decide +kernel
theorem d_M_digest_24 : decode prog_14_method_84_code 24 = .ok (.lstore_n 1, 1) := by decide +kernel
theorem d_M_digest_25 : decode prog_14_method_84_code 25 = .ok (.iinc 3 1, 3) := by decide +kernel
theorem d_M_digest_28 : decode prog_14_method_84_code 28 = .ok (.goto (-22), 3) := by decide +kernel
theorem d_M_digest_33 : decode prog_14_method_84_code 33 = .ok (.iload_n 3, 1) := by decide +kernel
theorem d_M_digest_34 : decode prog_14_method_84_code 34 = .ok (.aload_n 0, 1) := by decide +kernel
theorem d_M_digest_35 : decode prog_14_method_84_code 35 = .ok (.getfield 130, 3) := by decide +kernel
theorem d_M_digest_38 : decode prog_14_method_84_code 38 = .ok (.if_icmp .ge 40, 3) := by decide +kernel
theorem d_M_digest_78 : decode prog_14_method_84_code 78 = .ok (.aload_n 0, 1) := by decide +kernel
theorem d_M_digest_79 : decode prog_14_method_84_code 79 = .ok (.invokevirtual 174, 3) := by decide +kernel
theorem d_M_digest_82 : decode prog_14_method_84_code 82 = .ok (.aload_n 0, 1) := by decide +kernel
theorem d_M_digest_83 : decode prog_14_method_84_code 83 = .ok (.invokevirtual 250, 3) := by decide +kernel
theorem d_M_digest_86 : decode prog_14_method_84_code 86 = .ok (.ldc2_w 314, 3) := by decide +kernel
theorem d_M_digest_89 : decode prog_14_method_84_code 89 = .ok (.lload_n 1, 1) := by decide +kernel
theorem d_M_digest_90 : decode prog_14_method_84_code 90 = .ok (.lmul, 1) := by decide +kernel
theorem d_M_digest_91 : decode prog_14_method_84_code 91 = .ok (.aload_n 0, 1) := by decide +kernel
theorem d_M_digest_92 : decode prog_14_method_84_code 92 = .ok (.getfield 168, 3) := by decide +kernel
theorem d_M_digest_95 : decode prog_14_method_84_code 95 = .ok (.i2l, 1) := by decide +kernel
theorem d_M_digest_96 : decode prog_14_method_84_code 96 = .ok (.ladd, 1) := by decide +kernel
theorem d_M_digest_97 : decode prog_14_method_84_code 97 = .ok (.lstore_n 1, 1) := by decide +kernel
theorem d_M_digest_98 : decode prog_14_method_84_code 98 = .ok (.ldc2_w 314, 3) := by decide +kernel
theorem d_M_digest_101 : decode prog_14_method_84_code 101 = .ok (.lload_n 1, 1) := by decide +kernel
theorem d_M_digest_102 : decode prog_14_method_84_code 102 = .ok (.lmul, 1) := by decide +kernel
theorem d_M_digest_103 : decode prog_14_method_84_code 103 = .ok (.aload_n 0, 1) := by decide +kernel
theorem d_M_digest_104 : decode prog_14_method_84_code 104 = .ok (.getfield 223, 3) := by decide +kernel
theorem d_M_digest_107 : decode prog_14_method_84_code 107 = .ok (.i2l, 1) := by decide +kernel
theorem d_M_digest_108 : decode prog_14_method_84_code 108 = .ok (.ladd, 1) := by decide +kernel
theorem d_M_digest_109 : decode prog_14_method_84_code 109 = .ok (.lstore_n 1, 1) := by decide +kernel
theorem d_M_digest_110 : decode prog_14_method_84_code 110 = .ok (.iconst 0, 1) := by decide +kernel
theorem d_M_digest_111 : decode prog_14_method_84_code 111 = .ok (.istore_n 3, 1) := by decide +kernel
theorem d_M_digest_41 : decode prog_14_method_84_code 41 = .ok (.iconst 0, 1) := by decide +kernel
theorem d_M_digest_42 : decode prog_14_method_84_code 42 = .ok (.istore 4, 2) := by decide +kernel
theorem d_M_digest_112 : decode prog_14_method_84_code 112 = .ok (.iload_n 3, 1) := by decide +kernel
theorem d_M_digest_113 : decode prog_14_method_84_code 113 = .ok (.iconst 3, 1) := by decide +kernel
theorem d_M_digest_114 : decode prog_14_method_84_code 114 = .ok (.if_icmp .ge 22, 3) := by decide +kernel
theorem d_M_digest_136 : decode prog_14_method_84_code 136 = .ok (.iconst 0, 1) := by decide +kernel
theorem d_M_digest_137 : decode prog_14_method_84_code 137 = .ok (.istore_n 3, 1) := by decide +kernel
theorem d_M_digest_117 : decode prog_14_method_84_code 117 = .ok (.ldc2_w 314, 3) := by decide +kernel
theorem d_M_digest_120 : decode prog_14_method_84_code 120 = .ok (.lload_n 1, 1) := by decide +kernel
theorem d_M_digest_121 : decode prog_14_method_84_code 121 = .ok (.lmul, 1) := by decide +kernel
theorem d_M_digest_122 : decode prog_14_method_84_code 122 = .ok (.aload_n 0, 1) := by decide +kernel
theorem d_M_digest_123 : decode prog_14_method_84_code 123 = .ok (.iload_n 3, 1) := by decide +kernel
theorem d_M_digest_124 : decode prog_14_method_84_code 124 = .ok (.invokevirtual 259, 3) := by decide +kernel
theorem d_M_digest_127 : decode prog_14_method_84_code 127 = .ok (.i2l, 1) := by decide +kernel
theorem d_M_digest_128 : decode prog_14_method_84_code 128 = .ok (.ladd, 1) := by decide +kernel
theorem d_M_digest_129 : decode prog_14_method_84_code 129 = .ok (.lstore_n 1, 1) := by decide +kernel
theorem d_M_digest_130 : decode prog_14_method_84_code 130 = .ok (.iinc 3 1, 3) := by decide +kernel
theorem d_M_digest_133 : decode prog_14_method_84_code 133 = .ok (.goto (-21), 3) := by decide +kernel
theorem d_M_digest_44 : decode prog_14_method_84_code 44 = .ok (.iload 4, 2) := by decide +kernel
theorem d_M_digest_46 : decode prog_14_method_84_code 46 = .ok (.bipush 8, 2) := by decide +kernel
theorem d_M_digest_48 : decode prog_14_method_84_code 48 = .ok (.if_icmp .ge 24, 3) := by decide +kernel
theorem d_M_digest_72 : decode prog_14_method_84_code 72 = .ok (.iinc 3 1, 3) := by decide +kernel
theorem d_M_digest_75 : decode prog_14_method_84_code 75 = .ok (.goto (-42), 3) := by decide +kernel
theorem d_M_digest_51 : decode prog_14_method_84_code 51 = .ok (.ldc2_w 314, 3) := by decide +kernel
theorem d_M_digest_54 : decode prog_14_method_84_code 54 = .ok (.lload_n 1, 1) := by decide +kernel
theorem d_M_digest_55 : decode prog_14_method_84_code 55 = .ok (.lmul, 1) := by decide +kernel
theorem d_M_digest_56 : decode prog_14_method_84_code 56 = .ok (.aload_n 0, 1) := by decide +kernel
theorem d_M_digest_57 : decode prog_14_method_84_code 57 = .ok (.iload_n 3, 1) := by decide +kernel
theorem d_M_digest_58 : decode prog_14_method_84_code 58 = .ok (.iload 4, 2) := by decide +kernel
theorem d_M_digest_60 : decode prog_14_method_84_code 60 = .ok (.invokevirtual 154, 3) := by decide +kernel
theorem d_M_digest_63 : decode prog_14_method_84_code 63 = .ok (.i2l, 1) := by decide +kernel
theorem d_M_digest_64 : decode prog_14_method_84_code 64 = .ok (.ladd, 1) := by decide +kernel
theorem d_M_digest_65 : decode prog_14_method_84_code 65 = .ok (.lstore_n 1, 1) := by decide +kernel
theorem d_M_digest_66 : decode prog_14_method_84_code 66 = .ok (.iinc 4 1, 3) := by decide +kernel
theorem d_M_digest_69 : decode prog_14_method_84_code 69 = .ok (.goto (-25), 3) := by decide +kernel
theorem d_M_digest_138 : decode prog_14_method_84_code 138 = .ok (.iload_n 3, 1) := by decide +kernel
theorem d_M_digest_139 : decode prog_14_method_84_code 139 = .ok (.iconst 4, 1) := by decide +kernel
theorem d_M_digest_140 : decode prog_14_method_84_code 140 = .ok (.if_icmp .ge 22, 3) := by decide +kernel
theorem d_M_digest_162 : decode prog_14_method_84_code 162 = .ok (.aload_n 0, 1) := by decide +kernel
theorem d_M_digest_163 : decode prog_14_method_84_code 163 = .ok (.invokevirtual 289, 3) := by decide +kernel
theorem d_M_digest_166 : decode prog_14_method_84_code 166 = .ok (.ldc2_w 314, 3) := by decide +kernel
theorem d_M_digest_169 : decode prog_14_method_84_code 169 = .ok (.lload_n 1, 1) := by decide +kernel
theorem d_M_digest_170 : decode prog_14_method_84_code 170 = .ok (.lmul, 1) := by decide +kernel
theorem d_M_digest_171 : decode prog_14_method_84_code 171 = .ok (.aload_n 0, 1) := by decide +kernel
theorem d_M_digest_172 : decode prog_14_method_84_code 172 = .ok (.bipush 63, 2) := by decide +kernel
theorem d_M_digest_174 : decode prog_14_method_84_code 174 = .ok (.invokevirtual 292, 3) := by decide +kernel
theorem d_M_digest_177 : decode prog_14_method_84_code 177 = .ok (.i2l, 1) := by decide +kernel
theorem d_M_digest_178 : decode prog_14_method_84_code 178 = .ok (.ladd, 1) := by decide +kernel
theorem d_M_digest_179 : decode prog_14_method_84_code 179 = .ok (.lstore_n 1, 1) := by decide +kernel
theorem d_M_digest_180 : decode prog_14_method_84_code 180 = .ok (.aload_n 0, 1) := by decide +kernel
theorem d_M_digest_181 : decode prog_14_method_84_code 181 = .ok (.iconst 0, 1) := by decide +kernel
theorem d_M_digest_182 : decode prog_14_method_84_code 182 = .ok (.iconst 1, 1) := by decide +kernel
theorem d_M_digest_183 : decode prog_14_method_84_code 183 = .ok (.invokevirtual 247, 3) := by decide +kernel
theorem d_M_digest_186 : decode prog_14_method_84_code 186 = .ok (.istore_n 3, 1) := by decide +kernel
theorem d_M_digest_187 : decode prog_14_method_84_code 187 = .ok (.ldc2_w 314, 3) := by decide +kernel
theorem d_M_digest_190 : decode prog_14_method_84_code 190 = .ok (.lload_n 1, 1) := by decide +kernel
theorem d_M_digest_191 : decode prog_14_method_84_code 191 = .ok (.lmul, 1) := by decide +kernel
theorem d_M_digest_192 : decode prog_14_method_84_code 192 = .ok (.iload_n 3, 1) := by decide +kernel
theorem d_M_digest_193 : decode prog_14_method_84_code 193 = .ok (.ifCond .eq 10, 3) := by decide +kernel
theorem d_M_digest_203 : decode prog_14_method_84_code 203 = .ok (.bipush (-3), 2) := by decide +kernel
theorem d_M_digest_196 : decode prog_14_method_84_code 196 = .ok (.aload_n 0, 1) := by decide +kernel
theorem d_M_digest_197 : decode prog_14_method_84_code 197 = .ok (.getfield 241, 3) := by decide +kernel
theorem d_M_digest_200 : decode prog_14_method_84_code 200 = .ok (.goto 5, 3) := by decide +kernel
theorem d_M_digest_143 : decode prog_14_method_84_code 143 = .ok (.ldc2_w 314, 3) := by decide +kernel
theorem d_M_digest_146 : decode prog_14_method_84_code 146 = .ok (.lload_n 1, 1) := by decide +kernel
theorem d_M_digest_147 : decode prog_14_method_84_code 147 = .ok (.lmul, 1) := by decide +kernel
theorem d_M_digest_148 : decode prog_14_method_84_code 148 = .ok (.aload_n 0, 1) := by decide +kernel
theorem d_M_digest_149 : decode prog_14_method_84_code 149 = .ok (.iload_n 3, 1) := by decide +kernel
theorem d_M_digest_150 : decode prog_14_method_84_code 150 = .ok (.invokevirtual 271, 3) := by decide +kernel
theorem d_M_digest_153 : decode prog_14_method_84_code 153 = .ok (.i2l, 1) := by decide +kernel
theorem d_M_digest_154 : decode prog_14_method_84_code 154 = .ok (.ladd, 1) := by decide +kernel
theorem d_M_digest_155 : decode prog_14_method_84_code 155 = .ok (.lstore_n 1, 1) := by decide +kernel
theorem d_M_digest_156 : decode prog_14_method_84_code 156 = .ok (.iinc 3 1, 3) := by decide +kernel
theorem d_M_digest_159 : decode prog_14_method_84_code 159 = .ok (.goto (-21), 3) := by decide +kernel
theorem d_M_digest_205 : decode prog_14_method_84_code 205 = .ok (.i2l, 1) := by decide +kernel
theorem d_M_digest_206 : decode prog_14_method_84_code 206 = .ok (.ladd, 1) := by decide +kernel
theorem d_M_digest_207 : decode prog_14_method_84_code 207 = .ok (.lstore_n 1, 1) := by decide +kernel
theorem d_M_digest_208 : decode prog_14_method_84_code 208 = .ok (.ldc2_w 314, 3) := by decide +kernel
theorem d_M_digest_211 : decode prog_14_method_84_code 211 = .ok (.lload_n 1, 1) := by decide +kernel
theorem d_M_digest_212 : decode prog_14_method_84_code 212 = .ok (.lmul, 1) := by decide +kernel
theorem d_M_digest_213 : decode prog_14_method_84_code 213 = .ok (.iload_n 3, 1) := by decide +kernel
theorem d_M_digest_214 : decode prog_14_method_84_code 214 = .ok (.ifCond .eq 12, 3) := by decide +kernel
theorem d_M_digest_226 : decode prog_14_method_84_code 226 = .ok (.bipush (-3), 2) := by decide +kernel
theorem d_M_digest_228 : decode prog_14_method_84_code 228 = .ok (.i2l, 1) := by decide +kernel
theorem d_M_digest_229 : decode prog_14_method_84_code 229 = .ok (.ladd, 1) := by decide +kernel
theorem d_M_digest_230 : decode prog_14_method_84_code 230 = .ok (.lreturn, 1) := by decide +kernel
theorem d_M_digest_217 : decode prog_14_method_84_code 217 = .ok (.aload_n 0, 1) := by decide +kernel
theorem d_M_digest_218 : decode prog_14_method_84_code 218 = .ok (.getfield 78, 3) := by decide +kernel
theorem d_M_digest_221 : decode prog_14_method_84_code 221 = .ok (.iconst 0, 1) := by decide +kernel
theorem d_M_digest_222 : decode prog_14_method_84_code 222 = .ok (.iaload, 1) := by decide +kernel
theorem d_M_digest_223 : decode prog_14_method_84_code 223 = .ok (.goto 5, 3) := by decide +kernel
