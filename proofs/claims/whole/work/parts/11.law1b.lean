theorem k_astore_n {X : CxT} {l : Launch} {D : va_G} {cyI cyJ cyZ : ClassId} {A : Nat → Prop} {nL : Nat} {cc : ByteArray} {own : String} {Ts : List Cond} {ret : Option FieldType} {rm : Room} {Q : State → Prop} {kc ks pc q : Nat} {lv lv' : List (Nat × Value)} {st : List Value} {ws : va_W} (C : Cx X l (w0 D (ty3 cyI cyJ cyZ)) nL cc own Ts ret rm) {k' : Fin 4} {i x : Nat} (hd : decode cc pc = .ok (.astore_n k', 1)) (hi : (k' : Nat) = i) (hn : i < nL) (hl' : (i, Value.ref x) :: lv.filter (fun q => !(q.1 == i) && !(q.1 + 1 == i && q.2.category == 2)) = lv') (hq : pc + 1 = q) (k : Lk X D A nL Q kc ks q lv' st ws) : Lk X D A nL Q kc ks pc lv (.ref x :: st) ws := by
  subst hq; exact fun H locs ls hP hD hS hl => lv_astore_n C.x C.b hd hi hl hn hl' fun ls' h => k H locs ls' hP hD hS h
theorem k_istore_n {X : CxT} {l : Launch} {D : va_G} {cyI cyJ cyZ : ClassId} {A : Nat → Prop} {nL : Nat} {cc : ByteArray} {own : String} {Ts : List Cond} {ret : Option FieldType} {rm : Room} {Q : State → Prop} {kc ks pc q : Nat} {lv lv' : List (Nat × Value)} {st : List Value} {ws : va_W} (C : Cx X l (w0 D (ty3 cyI cyJ cyZ)) nL cc own Ts ret rm) {k' : Fin 4} {i : Nat} {x : Int} (hd : decode cc pc = .ok (.istore_n k', 1)) (hi : (k' : Nat) = i) (hn : i < nL) (hl' : (i, vI x) :: lv.filter (fun q => !(q.1 == i) && !(q.1 + 1 == i && q.2.category == 2)) = lv') (hq : pc + 1 = q) (k : Lk X D A nL Q kc ks q lv' st ws) : Lk X D A nL Q kc ks pc lv (vI x :: st) ws := by
  subst hq; exact fun H locs ls hP hD hS hl => lv_istore_n C.x C.b hd hi hl hn hl' fun ls' h => k H locs ls' hP hD hS h
theorem lc_0 {X : CxT} {l : Launch} {h1 h2 : Nat → Nat} {g : va_G × ClassId × ClassId × ClassId} (C : Cx X l (lW h1 h2 g) 4 code R_law lw_tbl ret room_1) {b L : Nat} {xs : Nat → Int32} (hX : va_X b L xs X.s X.s.heap) (hbl : b < X.s.heap.size) (hbA : ¬ xA (lW h1 h2 g) X.s.heap.size b) (hL : L < 2147483648) {N : Nat} {RR : St → St → Prop} {σx σm : St} (hS : ∀ a0 : Int, i32 a0 → OKp RR (x_pass N a0 σx) (m_pass N a0 σm)) {v3 : Int} (hv : 0 ≤ v3) (hv2 : v3 + 8 ≤ L) (hk : ∀ sx sm, RR sx sm → Rj X (lW h1 h2 g) 4 (lw_Z X.below #[Value.ref b] X.s) 1629 [(0, .ref b), (1, .ref (h1 0)), (2, .ref (h2 0)), (3, vI v3)] [] (cm sx sm)) : Rj X (lW h1 h2 g) 4 (lw_Z X.below #[Value.ref b] X.s) 212 [(0, .ref b), (1, .ref (h1 0)), (2, .ref (h2 0)), (3, vI v3)] [] (cm σx σm) := by
  refine r_aload_n C (q := 213) 1 dw_212 rfl rfl rfl ?_
  refine r_aload_n C (q := 214) 0 dw_213 rfl rfl rfl ?_
  refine r_iload_n C (q := 215) 3 dw_214 rfl rfl rfl ?_
  refine r_iconst C (q := 216) dw_215 rfl ?_
  refine r_iadd C (q := 217) dw_216 rfl ?_
  refine r_sld C (q := 218) hX hbl hbA hL ⟨by omega, by omega⟩ dw_217 rfl ?_
  obtain ⟨r1, sx, sm, hx, hm, hRR⟩ := hS ((xs (v3 + 1).toNat).toInt) (sc_r _)
  refine r_eI (emb_x h1 h2 g) C (k0 := 0) (As := [vI ((xs (v3 + 1).toNat).toInt)]) (σ' := cm sx σm) (c_x_pass (emb_i (emb_x h1 h2 g) C.i) hx) (cm_x σx σm) (cm_x sx σm) (cm_xo σx sx σm) mt_O_pass ml_Law_13 (Nat.le_of_ble_eq_true rfl) rfl rfl rfl (q := 221) rfl rfl rfl ⟨Nat.le_of_ble_eq_true rfl, Nat.le_of_ble_eq_true rfl⟩ rfl (Nat.le_of_ble_eq_true rfl) dw_218 rfl ?_
  refine r_aload_n C (q := 222) 2 dw_221 rfl rfl rfl ?_
  refine r_aload_n C (q := 223) 0 dw_222 rfl rfl rfl ?_
  refine r_iload_n C (q := 224) 3 dw_223 rfl rfl rfl ?_
  refine r_iconst C (q := 225) dw_224 rfl ?_
  refine r_iadd C (q := 226) dw_225 rfl ?_
  refine r_sld C (q := 227) hX hbl hbA hL ⟨by omega, by omega⟩ dw_226 rfl ?_
  refine r_eI (emb_m h1 h2 g) C (k0 := 0) (As := [vI ((xs (v3 + 1).toNat).toInt)]) (σ' := cm sx (cl38 σm sm)) (c_m_pass (emb_i (emb_m h1 h2 g) C.i) hm) (cm_m sx σm) (cm_ml sx σm sm) (cm_mo sx σm sm) mt_M_pass ml_Law_17 (Nat.le_of_ble_eq_true rfl) rfl rfl rfl (q := 230) rfl rfl rfl ⟨Nat.le_of_ble_eq_true rfl, Nat.le_of_ble_eq_true rfl⟩ rfl (Nat.le_of_ble_eq_true rfl) dw_227 rfl ?_
  refine r_st (cm_cl sx σm sm) ?_
  exact r_ic_eq C (t := 1629) (q := 233) dw_230 (by decide) rfl (fun _ => hk sx sm hRR) (fun c => absurd rfl c)
theorem lc_1 {X : CxT} {l : Launch} {h1 h2 : Nat → Nat} {g : va_G × ClassId × ClassId × ClassId} (C : Cx X l (lW h1 h2 g) 4 code R_law lw_tbl ret room_1) {b L : Nat} {xs : Nat → Int32} (hX : va_X b L xs X.s X.s.heap) (hbl : b < X.s.heap.size) (hbA : ¬ xA (lW h1 h2 g) X.s.heap.size b) (hL : L < 2147483648) {N : Nat} {RR : St → St → Prop} {σx σm : St} (hS : ∀ a0 : Int, i32 a0 → ∀ a1 : Int, i32 a1 → ∀ a2 : Int, i32 a2 → ∀ a3 : Int, i32 a3 → ∀ a4 : Int, i32 a4 → ∀ a5 : Int, i32 a5 → ∀ a6 : Int, i32 a6 → OKp RR (x_row N a0 a1 a2 a3 a4 a5 a6 σx) (m_row N a0 a1 a2 a3 a4 a5 a6 σm)) {v3 : Int} (hv : 0 ≤ v3) (hv2 : v3 + 8 ≤ L) (hk : ∀ sx sm, RR sx sm → Rj X (lW h1 h2 g) 4 (lw_Z X.below #[Value.ref b] X.s) 1629 [(0, .ref b), (1, .ref (h1 0)), (2, .ref (h2 0)), (3, vI v3)] [] (cm sx sm)) : Rj X (lW h1 h2 g) 4 (lw_Z X.below #[Value.ref b] X.s) 235 [(0, .ref b), (1, .ref (h1 0)), (2, .ref (h2 0)), (3, vI v3)] [] (cm σx σm) := by
  refine r_aload_n C (q := 236) 1 dw_235 rfl rfl rfl ?_
  refine r_aload_n C (q := 237) 0 dw_236 rfl rfl rfl ?_
  refine r_iload_n C (q := 238) 3 dw_237 rfl rfl rfl ?_
  refine r_iconst C (q := 239) dw_238 rfl ?_
  refine r_iadd C (q := 240) dw_239 rfl ?_
  refine r_sld C (q := 241) hX hbl hbA hL ⟨by omega, by omega⟩ dw_240 rfl ?_
  refine r_aload_n C (q := 242) 0 dw_241 rfl rfl rfl ?_
  refine r_iload_n C (q := 243) 3 dw_242 rfl rfl rfl ?_
  refine r_iconst C (q := 244) dw_243 rfl ?_
  refine r_iadd C (q := 245) dw_244 rfl ?_
  refine r_sld C (q := 246) hX hbl hbA hL ⟨by omega, by omega⟩ dw_245 rfl ?_
  refine r_aload_n C (q := 247) 0 dw_246 rfl rfl rfl ?_
  refine r_iload_n C (q := 248) 3 dw_247 rfl rfl rfl ?_
  refine r_iconst C (q := 249) dw_248 rfl ?_
  refine r_iadd C (q := 250) dw_249 rfl ?_
  refine r_sld C (q := 251) hX hbl hbA hL ⟨by omega, by omega⟩ dw_250 rfl ?_
  refine r_aload_n C (q := 252) 0 dw_251 rfl rfl rfl ?_
  refine r_iload_n C (q := 253) 3 dw_252 rfl rfl rfl ?_
  refine r_iconst C (q := 254) dw_253 rfl ?_
  refine r_iadd C (q := 255) dw_254 rfl ?_
  refine r_sld C (q := 256) hX hbl hbA hL ⟨by omega, by omega⟩ dw_255 rfl ?_
  refine r_aload_n C (q := 257) 0 dw_256 rfl rfl rfl ?_
  refine r_iload_n C (q := 258) 3 dw_257 rfl rfl rfl ?_
  refine r_iconst C (q := 259) dw_258 rfl ?_
  refine r_iadd C (q := 260) dw_259 rfl ?_
  refine r_sld C (q := 261) hX hbl hbA hL ⟨by omega, by omega⟩ dw_260 rfl ?_
  refine r_aload_n C (q := 262) 0 dw_261 rfl rfl rfl ?_
  refine r_iload_n C (q := 263) 3 dw_262 rfl rfl rfl ?_
  refine r_bipush C (q := 265) (x := 6) dw_263 rfl rfl ?_
  refine r_iadd C (q := 266) dw_265 rfl ?_
  refine r_sld C (q := 267) hX hbl hbA hL ⟨by omega, by omega⟩ dw_266 rfl ?_
  refine r_aload_n C (q := 268) 0 dw_267 rfl rfl rfl ?_
  refine r_iload_n C (q := 269) 3 dw_268 rfl rfl rfl ?_
  refine r_bipush C (q := 271) (x := 7) dw_269 rfl rfl ?_
  refine r_iadd C (q := 272) dw_271 rfl ?_
  refine r_sld C (q := 273) hX hbl hbA hL ⟨by omega, by omega⟩ dw_272 rfl ?_
  obtain ⟨r1, sx, sm, hx, hm, hRR⟩ := hS ((xs (v3 + 1).toNat).toInt) (sc_r _) ((xs (v3 + 2).toNat).toInt) (sc_r _) ((xs (v3 + 3).toNat).toInt) (sc_r _) ((xs (v3 + 4).toNat).toInt) (sc_r _) ((xs (v3 + 5).toNat).toInt) (sc_r _) ((xs (v3 + 6).toNat).toInt) (sc_r _) ((xs (v3 + 7).toNat).toInt) (sc_r _)
  refine r_eI (emb_x h1 h2 g) C (k0 := 0) (As := [vI ((xs (v3 + 1).toNat).toInt), vI ((xs (v3 + 2).toNat).toInt), vI ((xs (v3 + 3).toNat).toInt), vI ((xs (v3 + 4).toNat).toInt), vI ((xs (v3 + 5).toNat).toInt), vI ((xs (v3 + 6).toNat).toInt), vI ((xs (v3 + 7).toNat).toInt)]) (σ' := cm sx σm) (c_x_row (emb_i (emb_x h1 h2 g) C.i) hx) (cm_x σx σm) (cm_x sx σm) (cm_xo σx sx σm) mt_O_row ml_Law_18 (Nat.le_of_ble_eq_true rfl) rfl rfl rfl (q := 276) rfl rfl rfl ⟨Nat.le_of_ble_eq_true rfl, Nat.le_of_ble_eq_true rfl⟩ rfl (Nat.le_of_ble_eq_true rfl) dw_273 rfl ?_
  refine r_aload_n C (q := 277) 2 dw_276 rfl rfl rfl ?_
  refine r_aload_n C (q := 278) 0 dw_277 rfl rfl rfl ?_
  refine r_iload_n C (q := 279) 3 dw_278 rfl rfl rfl ?_
  refine r_iconst C (q := 280) dw_279 rfl ?_
  refine r_iadd C (q := 281) dw_280 rfl ?_
  refine r_sld C (q := 282) hX hbl hbA hL ⟨by omega, by omega⟩ dw_281 rfl ?_
  refine r_aload_n C (q := 283) 0 dw_282 rfl rfl rfl ?_
  refine r_iload_n C (q := 284) 3 dw_283 rfl rfl rfl ?_
  refine r_iconst C (q := 285) dw_284 rfl ?_
  refine r_iadd C (q := 286) dw_285 rfl ?_
  refine r_sld C (q := 287) hX hbl hbA hL ⟨by omega, by omega⟩ dw_286 rfl ?_
  refine r_aload_n C (q := 288) 0 dw_287 rfl rfl rfl ?_
  refine r_iload_n C (q := 289) 3 dw_288 rfl rfl rfl ?_
  refine r_iconst C (q := 290) dw_289 rfl ?_
  refine r_iadd C (q := 291) dw_290 rfl ?_
  refine r_sld C (q := 292) hX hbl hbA hL ⟨by omega, by omega⟩ dw_291 rfl ?_
  refine r_aload_n C (q := 293) 0 dw_292 rfl rfl rfl ?_
  refine r_iload_n C (q := 294) 3 dw_293 rfl rfl rfl ?_
  refine r_iconst C (q := 295) dw_294 rfl ?_
  refine r_iadd C (q := 296) dw_295 rfl ?_
  refine r_sld C (q := 297) hX hbl hbA hL ⟨by omega, by omega⟩ dw_296 rfl ?_
  refine r_aload_n C (q := 298) 0 dw_297 rfl rfl rfl ?_
  refine r_iload_n C (q := 299) 3 dw_298 rfl rfl rfl ?_
  refine r_iconst C (q := 300) dw_299 rfl ?_
  refine r_iadd C (q := 301) dw_300 rfl ?_
  refine r_sld C (q := 302) hX hbl hbA hL ⟨by omega, by omega⟩ dw_301 rfl ?_
  refine r_aload_n C (q := 303) 0 dw_302 rfl rfl rfl ?_
  refine r_iload_n C (q := 304) 3 dw_303 rfl rfl rfl ?_
  refine r_bipush C (q := 306) (x := 6) dw_304 rfl rfl ?_
  refine r_iadd C (q := 307) dw_306 rfl ?_
  refine r_sld C (q := 308) hX hbl hbA hL ⟨by omega, by omega⟩ dw_307 rfl ?_
  refine r_aload_n C (q := 309) 0 dw_308 rfl rfl rfl ?_
  refine r_iload_n C (q := 310) 3 dw_309 rfl rfl rfl ?_
  refine r_bipush C (q := 312) (x := 7) dw_310 rfl rfl ?_
  refine r_iadd C (q := 313) dw_312 rfl ?_
  refine r_sld C (q := 314) hX hbl hbA hL ⟨by omega, by omega⟩ dw_313 rfl ?_
  refine r_eI (emb_m h1 h2 g) C (k0 := 0) (As := [vI ((xs (v3 + 1).toNat).toInt), vI ((xs (v3 + 2).toNat).toInt), vI ((xs (v3 + 3).toNat).toInt), vI ((xs (v3 + 4).toNat).toInt), vI ((xs (v3 + 5).toNat).toInt), vI ((xs (v3 + 6).toNat).toInt), vI ((xs (v3 + 7).toNat).toInt)]) (σ' := cm sx (cl38 σm sm)) (c_m_row (emb_i (emb_m h1 h2 g) C.i) hm) (cm_m sx σm) (cm_ml sx σm sm) (cm_mo sx σm sm) mt_M_row ml_Law_22 (Nat.le_of_ble_eq_true rfl) rfl rfl rfl (q := 317) rfl rfl rfl ⟨Nat.le_of_ble_eq_true rfl, Nat.le_of_ble_eq_true rfl⟩ rfl (Nat.le_of_ble_eq_true rfl) dw_314 rfl ?_
  refine r_st (cm_cl sx σm sm) ?_
  exact r_ic_eq C (t := 1629) (q := 320) dw_317 (by decide) rfl (fun _ => hk sx sm hRR) (fun c => absurd rfl c)
theorem lc_2 {X : CxT} {l : Launch} {h1 h2 : Nat → Nat} {g : va_G × ClassId × ClassId × ClassId} (C : Cx X l (lW h1 h2 g) 4 code R_law lw_tbl ret room_1) {b L : Nat} {xs : Nat → Int32} (hX : va_X b L xs X.s X.s.heap) (hbl : b < X.s.heap.size) (hbA : ¬ xA (lW h1 h2 g) X.s.heap.size b) (hL : L < 2147483648) {N : Nat} {RR : St → St → Prop} {σx σm : St} (hS : ∀ a0 : Int, i32 a0 → OKp RR (x_takeBack N a0 σx) (m_takeBack N a0 σm)) {v3 : Int} (hv : 0 ≤ v3) (hv2 : v3 + 8 ≤ L) (hk : ∀ sx sm, RR sx sm → Rj X (lW h1 h2 g) 4 (lw_Z X.below #[Value.ref b] X.s) 1629 [(0, .ref b), (1, .ref (h1 0)), (2, .ref (h2 0)), (3, vI v3)] [] (cm sx sm)) : Rj X (lW h1 h2 g) 4 (lw_Z X.below #[Value.ref b] X.s) 322 [(0, .ref b), (1, .ref (h1 0)), (2, .ref (h2 0)), (3, vI v3)] [] (cm σx σm) := by
  refine r_aload_n C (q := 323) 1 dw_322 rfl rfl rfl ?_
  refine r_aload_n C (q := 324) 0 dw_323 rfl rfl rfl ?_
  refine r_iload_n C (q := 325) 3 dw_324 rfl rfl rfl ?_
  refine r_iconst C (q := 326) dw_325 rfl ?_
  refine r_iadd C (q := 327) dw_326 rfl ?_
  refine r_sld C (q := 328) hX hbl hbA hL ⟨by omega, by omega⟩ dw_327 rfl ?_
  obtain ⟨r1, sx, sm, hx, hm, hRR⟩ := hS ((xs (v3 + 1).toNat).toInt) (sc_r _)
  refine r_eI (emb_x h1 h2 g) C (k0 := 0) (As := [vI ((xs (v3 + 1).toNat).toInt)]) (σ' := cm sx σm) (c_x_takeBack (emb_i (emb_x h1 h2 g) C.i) hx) (cm_x σx σm) (cm_x sx σm) (cm_xo σx sx σm) mt_O_takeBack ml_Law_23 (Nat.le_of_ble_eq_true rfl) rfl rfl rfl (q := 331) rfl rfl rfl ⟨Nat.le_of_ble_eq_true rfl, Nat.le_of_ble_eq_true rfl⟩ rfl (Nat.le_of_ble_eq_true rfl) dw_328 rfl ?_
  refine r_aload_n C (q := 332) 2 dw_331 rfl rfl rfl ?_
  refine r_aload_n C (q := 333) 0 dw_332 rfl rfl rfl ?_
  refine r_iload_n C (q := 334) 3 dw_333 rfl rfl rfl ?_
  refine r_iconst C (q := 335) dw_334 rfl ?_
  refine r_iadd C (q := 336) dw_335 rfl ?_
  refine r_sld C (q := 337) hX hbl hbA hL ⟨by omega, by omega⟩ dw_336 rfl ?_
  refine r_eI (emb_m h1 h2 g) C (k0 := 0) (As := [vI ((xs (v3 + 1).toNat).toInt)]) (σ' := cm sx (cl38 σm sm)) (c_m_takeBack (emb_i (emb_m h1 h2 g) C.i) hm) (cm_m sx σm) (cm_ml sx σm sm) (cm_mo sx σm sm) mt_M_takeBack ml_Law_26 (Nat.le_of_ble_eq_true rfl) rfl rfl rfl (q := 340) rfl rfl rfl ⟨Nat.le_of_ble_eq_true rfl, Nat.le_of_ble_eq_true rfl⟩ rfl (Nat.le_of_ble_eq_true rfl) dw_337 rfl ?_
  refine r_st (cm_cl sx σm sm) ?_
  exact r_ic_eq C (t := 1629) (q := 343) dw_340 (by decide) rfl (fun _ => hk sx sm hRR) (fun c => absurd rfl c)
theorem lc_3 {X : CxT} {l : Launch} {h1 h2 : Nat → Nat} {g : va_G × ClassId × ClassId × ClassId} (C : Cx X l (lW h1 h2 g) 4 code R_law lw_tbl ret room_1) {b L : Nat} {xs : Nat → Int32} (hX : va_X b L xs X.s X.s.heap) (hbl : b < X.s.heap.size) (hbA : ¬ xA (lW h1 h2 g) X.s.heap.size b) (hL : L < 2147483648) {N : Nat} {RR : St → St → Prop} {σx σm : St} (hS : ∀ a0 : Int, i32 a0 → ∀ a1 : Int, i32 a1 → OKp RR (x_about N a0 a1 σx) (m_about N a0 a1 σm)) {v3 : Int} (hv : 0 ≤ v3) (hv2 : v3 + 8 ≤ L) (hk : ∀ sx sm, RR sx sm → Rj X (lW h1 h2 g) 4 (lw_Z X.below #[Value.ref b] X.s) 1629 [(0, .ref b), (1, .ref (h1 0)), (2, .ref (h2 0)), (3, vI v3)] [] (cm sx sm)) : Rj X (lW h1 h2 g) 4 (lw_Z X.below #[Value.ref b] X.s) 345 [(0, .ref b), (1, .ref (h1 0)), (2, .ref (h2 0)), (3, vI v3)] [] (cm σx σm) := by
  refine r_aload_n C (q := 346) 1 dw_345 rfl rfl rfl ?_
  refine r_aload_n C (q := 347) 0 dw_346 rfl rfl rfl ?_
  refine r_iload_n C (q := 348) 3 dw_347 rfl rfl rfl ?_
  refine r_iconst C (q := 349) dw_348 rfl ?_
  refine r_iadd C (q := 350) dw_349 rfl ?_
  refine r_sld C (q := 351) hX hbl hbA hL ⟨by omega, by omega⟩ dw_350 rfl ?_
  refine r_aload_n C (q := 352) 0 dw_351 rfl rfl rfl ?_
  refine r_iload_n C (q := 353) 3 dw_352 rfl rfl rfl ?_
  refine r_iconst C (q := 354) dw_353 rfl ?_
  refine r_iadd C (q := 355) dw_354 rfl ?_
  refine r_sld C (q := 356) hX hbl hbA hL ⟨by omega, by omega⟩ dw_355 rfl ?_
  obtain ⟨r1, sx, sm, hx, hm, hRR⟩ := hS ((xs (v3 + 1).toNat).toInt) (sc_r _) ((xs (v3 + 2).toNat).toInt) (sc_r _)
  refine r_eI (emb_x h1 h2 g) C (k0 := 0) (As := [vI ((xs (v3 + 1).toNat).toInt), vI ((xs (v3 + 2).toNat).toInt)]) (σ' := cm sx σm) (c_x_about (emb_i (emb_x h1 h2 g) C.i) hx) (cm_x σx σm) (cm_x sx σm) (cm_xo σx sx σm) mt_O_about ml_Law_27 (Nat.le_of_ble_eq_true rfl) rfl rfl rfl (q := 359) rfl rfl rfl ⟨Nat.le_of_ble_eq_true rfl, Nat.le_of_ble_eq_true rfl⟩ rfl (Nat.le_of_ble_eq_true rfl) dw_356 rfl ?_
  refine r_aload_n C (q := 360) 2 dw_359 rfl rfl rfl ?_
  refine r_aload_n C (q := 361) 0 dw_360 rfl rfl rfl ?_
  refine r_iload_n C (q := 362) 3 dw_361 rfl rfl rfl ?_
  refine r_iconst C (q := 363) dw_362 rfl ?_
  refine r_iadd C (q := 364) dw_363 rfl ?_
  refine r_sld C (q := 365) hX hbl hbA hL ⟨by omega, by omega⟩ dw_364 rfl ?_
  refine r_aload_n C (q := 366) 0 dw_365 rfl rfl rfl ?_
  refine r_iload_n C (q := 367) 3 dw_366 rfl rfl rfl ?_
  refine r_iconst C (q := 368) dw_367 rfl ?_
  refine r_iadd C (q := 369) dw_368 rfl ?_
  refine r_sld C (q := 370) hX hbl hbA hL ⟨by omega, by omega⟩ dw_369 rfl ?_
  refine r_eI (emb_m h1 h2 g) C (k0 := 0) (As := [vI ((xs (v3 + 1).toNat).toInt), vI ((xs (v3 + 2).toNat).toInt)]) (σ' := cm sx (cl38 σm sm)) (c_m_about (emb_i (emb_m h1 h2 g) C.i) hm) (cm_m sx σm) (cm_ml sx σm sm) (cm_mo sx σm sm) mt_M_about ml_Law_31 (Nat.le_of_ble_eq_true rfl) rfl rfl rfl (q := 373) rfl rfl rfl ⟨Nat.le_of_ble_eq_true rfl, Nat.le_of_ble_eq_true rfl⟩ rfl (Nat.le_of_ble_eq_true rfl) dw_370 rfl ?_
  refine r_st (cm_cl sx σm sm) ?_
  exact r_ic_eq C (t := 1629) (q := 376) dw_373 (by decide) rfl (fun _ => hk sx sm hRR) (fun c => absurd rfl c)
theorem lc_4 {X : CxT} {l : Launch} {h1 h2 : Nat → Nat} {g : va_G × ClassId × ClassId × ClassId} (C : Cx X l (lW h1 h2 g) 4 code R_law lw_tbl ret room_1) {b L : Nat} {xs : Nat → Int32} (hX : va_X b L xs X.s X.s.heap) (hbl : b < X.s.heap.size) (hbA : ¬ xA (lW h1 h2 g) X.s.heap.size b) (hL : L < 2147483648) {N : Nat} {RR : St → St → Prop} {σx σm : St} (hS : ∀ a0 : Int, i32 a0 → ∀ a1 : Int, i32 a1 → OKp RR (x_letter N a0 a1 σx) (m_letter N a0 a1 σm)) {v3 : Int} (hv : 0 ≤ v3) (hv2 : v3 + 8 ≤ L) (hk : ∀ sx sm, RR sx sm → Rj X (lW h1 h2 g) 4 (lw_Z X.below #[Value.ref b] X.s) 1629 [(0, .ref b), (1, .ref (h1 0)), (2, .ref (h2 0)), (3, vI v3)] [] (cm sx sm)) : Rj X (lW h1 h2 g) 4 (lw_Z X.below #[Value.ref b] X.s) 378 [(0, .ref b), (1, .ref (h1 0)), (2, .ref (h2 0)), (3, vI v3)] [] (cm σx σm) := by
  refine r_aload_n C (q := 379) 1 dw_378 rfl rfl rfl ?_
  refine r_aload_n C (q := 380) 0 dw_379 rfl rfl rfl ?_
  refine r_iload_n C (q := 381) 3 dw_380 rfl rfl rfl ?_
  refine r_iconst C (q := 382) dw_381 rfl ?_
  refine r_iadd C (q := 383) dw_382 rfl ?_
  refine r_sld C (q := 384) hX hbl hbA hL ⟨by omega, by omega⟩ dw_383 rfl ?_
  refine r_aload_n C (q := 385) 0 dw_384 rfl rfl rfl ?_
  refine r_iload_n C (q := 386) 3 dw_385 rfl rfl rfl ?_
  refine r_iconst C (q := 387) dw_386 rfl ?_
  refine r_iadd C (q := 388) dw_387 rfl ?_
  refine r_sld C (q := 389) hX hbl hbA hL ⟨by omega, by omega⟩ dw_388 rfl ?_
  obtain ⟨r1, sx, sm, hx, hm, hRR⟩ := hS ((xs (v3 + 1).toNat).toInt) (sc_r _) ((xs (v3 + 2).toNat).toInt) (sc_r _)
  refine r_eI (emb_x h1 h2 g) C (k0 := 0) (As := [vI ((xs (v3 + 1).toNat).toInt), vI ((xs (v3 + 2).toNat).toInt)]) (σ' := cm sx σm) (c_x_letter (emb_i (emb_x h1 h2 g) C.i) hx) (cm_x σx σm) (cm_x sx σm) (cm_xo σx sx σm) mt_O_letter ml_Law_32 (Nat.le_of_ble_eq_true rfl) rfl rfl rfl (q := 392) rfl rfl rfl ⟨Nat.le_of_ble_eq_true rfl, Nat.le_of_ble_eq_true rfl⟩ rfl (Nat.le_of_ble_eq_true rfl) dw_389 rfl ?_
  refine r_aload_n C (q := 393) 2 dw_392 rfl rfl rfl ?_
  refine r_aload_n C (q := 394) 0 dw_393 rfl rfl rfl ?_
  refine r_iload_n C (q := 395) 3 dw_394 rfl rfl rfl ?_
  refine r_iconst C (q := 396) dw_395 rfl ?_
  refine r_iadd C (q := 397) dw_396 rfl ?_
  refine r_sld C (q := 398) hX hbl hbA hL ⟨by omega, by omega⟩ dw_397 rfl ?_
  refine r_aload_n C (q := 399) 0 dw_398 rfl rfl rfl ?_
  refine r_iload_n C (q := 400) 3 dw_399 rfl rfl rfl ?_
  refine r_iconst C (q := 401) dw_400 rfl ?_
  refine r_iadd C (q := 402) dw_401 rfl ?_
  refine r_sld C (q := 403) hX hbl hbA hL ⟨by omega, by omega⟩ dw_402 rfl ?_
  refine r_eI (emb_m h1 h2 g) C (k0 := 0) (As := [vI ((xs (v3 + 1).toNat).toInt), vI ((xs (v3 + 2).toNat).toInt)]) (σ' := cm sx (cl38 σm sm)) (c_m_letter (emb_i (emb_m h1 h2 g) C.i) hm) (cm_m sx σm) (cm_ml sx σm sm) (cm_mo sx σm sm) mt_M_letter ml_Law_35 (Nat.le_of_ble_eq_true rfl) rfl rfl rfl (q := 406) rfl rfl rfl ⟨Nat.le_of_ble_eq_true rfl, Nat.le_of_ble_eq_true rfl⟩ rfl (Nat.le_of_ble_eq_true rfl) dw_403 rfl ?_
  refine r_st (cm_cl sx σm sm) ?_
  exact r_ic_eq C (t := 1629) (q := 409) dw_406 (by decide) rfl (fun _ => hk sx sm hRR) (fun c => absurd rfl c)
theorem lc_5 {X : CxT} {l : Launch} {h1 h2 : Nat → Nat} {g : va_G × ClassId × ClassId × ClassId} (C : Cx X l (lW h1 h2 g) 4 code R_law lw_tbl ret room_1) {b L : Nat} {xs : Nat → Int32} (hX : va_X b L xs X.s X.s.heap) (hbl : b < X.s.heap.size) (hbA : ¬ xA (lW h1 h2 g) X.s.heap.size b) (hL : L < 2147483648) {N : Nat} {RR : St → St → Prop} {σx σm : St} (hS : ∀ a0 : Int, i32 a0 → OKp RR (x_asOf N a0 σx) (m_asOf N a0 σm)) {v3 : Int} (hv : 0 ≤ v3) (hv2 : v3 + 8 ≤ L) (hk : ∀ sx sm, RR sx sm → Rj X (lW h1 h2 g) 4 (lw_Z X.below #[Value.ref b] X.s) 1629 [(0, .ref b), (1, .ref (h1 0)), (2, .ref (h2 0)), (3, vI v3)] [] (cm sx sm)) : Rj X (lW h1 h2 g) 4 (lw_Z X.below #[Value.ref b] X.s) 411 [(0, .ref b), (1, .ref (h1 0)), (2, .ref (h2 0)), (3, vI v3)] [] (cm σx σm) := by
  refine r_aload_n C (q := 412) 1 dw_411 rfl rfl rfl ?_
  refine r_aload_n C (q := 413) 0 dw_412 rfl rfl rfl ?_
  refine r_iload_n C (q := 414) 3 dw_413 rfl rfl rfl ?_
  refine r_iconst C (q := 415) dw_414 rfl ?_
  refine r_iadd C (q := 416) dw_415 rfl ?_
  refine r_sld C (q := 417) hX hbl hbA hL ⟨by omega, by omega⟩ dw_416 rfl ?_
  obtain ⟨r1, sx, sm, hx, hm, hRR⟩ := hS ((xs (v3 + 1).toNat).toInt) (sc_r _)
  refine r_eI (emb_x h1 h2 g) C (k0 := 0) (As := [vI ((xs (v3 + 1).toNat).toInt)]) (σ' := cm sx σm) (c_x_asOf (emb_i (emb_x h1 h2 g) C.i) hx) (cm_x σx σm) (cm_x sx σm) (cm_xo σx sx σm) mt_O_asOf ml_Law_36 (Nat.le_of_ble_eq_true rfl) rfl rfl rfl (q := 420) rfl rfl rfl ⟨Nat.le_of_ble_eq_true rfl, Nat.le_of_ble_eq_true rfl⟩ rfl (Nat.le_of_ble_eq_true rfl) dw_417 rfl ?_
  refine r_aload_n C (q := 421) 2 dw_420 rfl rfl rfl ?_
  refine r_aload_n C (q := 422) 0 dw_421 rfl rfl rfl ?_
  refine r_iload_n C (q := 423) 3 dw_422 rfl rfl rfl ?_
  refine r_iconst C (q := 424) dw_423 rfl ?_
  refine r_iadd C (q := 425) dw_424 rfl ?_
  refine r_sld C (q := 426) hX hbl hbA hL ⟨by omega, by omega⟩ dw_425 rfl ?_
  refine r_eI (emb_m h1 h2 g) C (k0 := 0) (As := [vI ((xs (v3 + 1).toNat).toInt)]) (σ' := cm sx (cl38 σm sm)) (c_m_asOf (emb_i (emb_m h1 h2 g) C.i) hm) (cm_m sx σm) (cm_ml sx σm sm) (cm_mo sx σm sm) mt_M_asOf ml_Law_39 (Nat.le_of_ble_eq_true rfl) rfl rfl rfl (q := 429) rfl rfl rfl ⟨Nat.le_of_ble_eq_true rfl, Nat.le_of_ble_eq_true rfl⟩ rfl (Nat.le_of_ble_eq_true rfl) dw_426 rfl ?_
  refine r_st (cm_cl sx σm sm) ?_
  exact r_ic_eq C (t := 1629) (q := 432) dw_429 (by decide) rfl (fun _ => hk sx sm hRR) (fun c => absurd rfl c)
theorem lc_6 {X : CxT} {l : Launch} {h1 h2 : Nat → Nat} {g : va_G × ClassId × ClassId × ClassId} (C : Cx X l (lW h1 h2 g) 4 code R_law lw_tbl ret room_1) {b L : Nat} {xs : Nat → Int32} (hX : va_X b L xs X.s X.s.heap) (hbl : b < X.s.heap.size) (hbA : ¬ xA (lW h1 h2 g) X.s.heap.size b) (hL : L < 2147483648) {N : Nat} {RR : St → St → Prop} {σx σm : St} (hS : ∀ a0 : Int, i32 a0 → ∀ a1 : Int, i32 a1 → ∀ a2 : Int, i32 a2 → OKp RR (x_way N a0 a1 a2 σx) (m_way N a0 a1 a2 σm)) {v3 : Int} (hv : 0 ≤ v3) (hv2 : v3 + 8 ≤ L) (hk : ∀ sx sm, RR sx sm → Rj X (lW h1 h2 g) 4 (lw_Z X.below #[Value.ref b] X.s) 1629 [(0, .ref b), (1, .ref (h1 0)), (2, .ref (h2 0)), (3, vI v3)] [] (cm sx sm)) : Rj X (lW h1 h2 g) 4 (lw_Z X.below #[Value.ref b] X.s) 434 [(0, .ref b), (1, .ref (h1 0)), (2, .ref (h2 0)), (3, vI v3)] [] (cm σx σm) := by
  refine r_aload_n C (q := 435) 1 dw_434 rfl rfl rfl ?_
  refine r_aload_n C (q := 436) 0 dw_435 rfl rfl rfl ?_
  refine r_iload_n C (q := 437) 3 dw_436 rfl rfl rfl ?_
  refine r_iconst C (q := 438) dw_437 rfl ?_
  refine r_iadd C (q := 439) dw_438 rfl ?_
  refine r_sld C (q := 440) hX hbl hbA hL ⟨by omega, by omega⟩ dw_439 rfl ?_
  refine r_aload_n C (q := 441) 0 dw_440 rfl rfl rfl ?_
  refine r_iload_n C (q := 442) 3 dw_441 rfl rfl rfl ?_
  refine r_iconst C (q := 443) dw_442 rfl ?_
  refine r_iadd C (q := 444) dw_443 rfl ?_
  refine r_sld C (q := 445) hX hbl hbA hL ⟨by omega, by omega⟩ dw_444 rfl ?_
  refine r_aload_n C (q := 446) 0 dw_445 rfl rfl rfl ?_
  refine r_iload_n C (q := 447) 3 dw_446 rfl rfl rfl ?_
  refine r_iconst C (q := 448) dw_447 rfl ?_
  refine r_iadd C (q := 449) dw_448 rfl ?_
  refine r_sld C (q := 450) hX hbl hbA hL ⟨by omega, by omega⟩ dw_449 rfl ?_
  obtain ⟨r1, sx, sm, hx, hm, hRR⟩ := hS ((xs (v3 + 1).toNat).toInt) (sc_r _) ((xs (v3 + 2).toNat).toInt) (sc_r _) ((xs (v3 + 3).toNat).toInt) (sc_r _)
  refine r_eI (emb_x h1 h2 g) C (k0 := 0) (As := [vI ((xs (v3 + 1).toNat).toInt), vI ((xs (v3 + 2).toNat).toInt), vI ((xs (v3 + 3).toNat).toInt)]) (σ' := cm sx σm) (c_x_way (emb_i (emb_x h1 h2 g) C.i) hx) (cm_x σx σm) (cm_x sx σm) (cm_xo σx sx σm) mt_O_way ml_Law_40 (Nat.le_of_ble_eq_true rfl) rfl rfl rfl (q := 453) rfl rfl rfl ⟨Nat.le_of_ble_eq_true rfl, Nat.le_of_ble_eq_true rfl⟩ rfl (Nat.le_of_ble_eq_true rfl) dw_450 rfl ?_
  refine r_aload_n C (q := 454) 2 dw_453 rfl rfl rfl ?_
  refine r_aload_n C (q := 455) 0 dw_454 rfl rfl rfl ?_
  refine r_iload_n C (q := 456) 3 dw_455 rfl rfl rfl ?_
  refine r_iconst C (q := 457) dw_456 rfl ?_
  refine r_iadd C (q := 458) dw_457 rfl ?_
  refine r_sld C (q := 459) hX hbl hbA hL ⟨by omega, by omega⟩ dw_458 rfl ?_
  refine r_aload_n C (q := 460) 0 dw_459 rfl rfl rfl ?_
  refine r_iload_n C (q := 461) 3 dw_460 rfl rfl rfl ?_
  refine r_iconst C (q := 462) dw_461 rfl ?_
  refine r_iadd C (q := 463) dw_462 rfl ?_
  refine r_sld C (q := 464) hX hbl hbA hL ⟨by omega, by omega⟩ dw_463 rfl ?_
  refine r_aload_n C (q := 465) 0 dw_464 rfl rfl rfl ?_
  refine r_iload_n C (q := 466) 3 dw_465 rfl rfl rfl ?_
  refine r_iconst C (q := 467) dw_466 rfl ?_
  refine r_iadd C (q := 468) dw_467 rfl ?_
  refine r_sld C (q := 469) hX hbl hbA hL ⟨by omega, by omega⟩ dw_468 rfl ?_
  refine r_eI (emb_m h1 h2 g) C (k0 := 0) (As := [vI ((xs (v3 + 1).toNat).toInt), vI ((xs (v3 + 2).toNat).toInt), vI ((xs (v3 + 3).toNat).toInt)]) (σ' := cm sx (cl38 σm sm)) (c_m_way (emb_i (emb_m h1 h2 g) C.i) hm) (cm_m sx σm) (cm_ml sx σm sm) (cm_mo sx σm sm) mt_M_way ml_Law_44 (Nat.le_of_ble_eq_true rfl) rfl rfl rfl (q := 472) rfl rfl rfl ⟨Nat.le_of_ble_eq_true rfl, Nat.le_of_ble_eq_true rfl⟩ rfl (Nat.le_of_ble_eq_true rfl) dw_469 rfl ?_
  refine r_st (cm_cl sx σm sm) ?_
  exact r_ic_eq C (t := 1629) (q := 475) dw_472 (by decide) rfl (fun _ => hk sx sm hRR) (fun c => absurd rfl c)
theorem lc_7 {X : CxT} {l : Launch} {h1 h2 : Nat → Nat} {g : va_G × ClassId × ClassId × ClassId} (C : Cx X l (lW h1 h2 g) 4 code R_law lw_tbl ret room_1) {b L : Nat} {xs : Nat → Int32} (hX : va_X b L xs X.s X.s.heap) (hbl : b < X.s.heap.size) (hbA : ¬ xA (lW h1 h2 g) X.s.heap.size b) (hL : L < 2147483648) {N : Nat} {RR : St → St → Prop} {σx σm : St} (hS : ∀ a0 : Int, i32 a0 → OKp RR (x_type N a0 σx) (m_type N a0 σm)) {v3 : Int} (hv : 0 ≤ v3) (hv2 : v3 + 8 ≤ L) (hk : ∀ sx sm, RR sx sm → Rj X (lW h1 h2 g) 4 (lw_Z X.below #[Value.ref b] X.s) 1629 [(0, .ref b), (1, .ref (h1 0)), (2, .ref (h2 0)), (3, vI v3)] [] (cm sx sm)) : Rj X (lW h1 h2 g) 4 (lw_Z X.below #[Value.ref b] X.s) 477 [(0, .ref b), (1, .ref (h1 0)), (2, .ref (h2 0)), (3, vI v3)] [] (cm σx σm) := by
  refine r_aload_n C (q := 478) 1 dw_477 rfl rfl rfl ?_
  refine r_aload_n C (q := 479) 0 dw_478 rfl rfl rfl ?_
  refine r_iload_n C (q := 480) 3 dw_479 rfl rfl rfl ?_
  refine r_iconst C (q := 481) dw_480 rfl ?_
  refine r_iadd C (q := 482) dw_481 rfl ?_
  refine r_sld C (q := 483) hX hbl hbA hL ⟨by omega, by omega⟩ dw_482 rfl ?_
  obtain ⟨r1, sx, sm, hx, hm, hRR⟩ := hS ((xs (v3 + 1).toNat).toInt) (sc_r _)
  refine r_eI (emb_x h1 h2 g) C (k0 := 0) (As := [vI ((xs (v3 + 1).toNat).toInt)]) (σ' := cm sx σm) (c_x_type (emb_i (emb_x h1 h2 g) C.i) hx) (cm_x σx σm) (cm_x sx σm) (cm_xo σx sx σm) mt_O_type ml_Law_45 (Nat.le_of_ble_eq_true rfl) rfl rfl rfl (q := 486) rfl rfl rfl ⟨Nat.le_of_ble_eq_true rfl, Nat.le_of_ble_eq_true rfl⟩ rfl (Nat.le_of_ble_eq_true rfl) dw_483 rfl ?_
  refine r_aload_n C (q := 487) 2 dw_486 rfl rfl rfl ?_
  refine r_aload_n C (q := 488) 0 dw_487 rfl rfl rfl ?_
  refine r_iload_n C (q := 489) 3 dw_488 rfl rfl rfl ?_
  refine r_iconst C (q := 490) dw_489 rfl ?_
  refine r_iadd C (q := 491) dw_490 rfl ?_
  refine r_sld C (q := 492) hX hbl hbA hL ⟨by omega, by omega⟩ dw_491 rfl ?_
  refine r_eI (emb_m h1 h2 g) C (k0 := 0) (As := [vI ((xs (v3 + 1).toNat).toInt)]) (σ' := cm sx (cl38 σm sm)) (c_m_type (emb_i (emb_m h1 h2 g) C.i) hm) (cm_m sx σm) (cm_ml sx σm sm) (cm_mo sx σm sm) mt_M_type ml_Law_48 (Nat.le_of_ble_eq_true rfl) rfl rfl rfl (q := 495) rfl rfl rfl ⟨Nat.le_of_ble_eq_true rfl, Nat.le_of_ble_eq_true rfl⟩ rfl (Nat.le_of_ble_eq_true rfl) dw_492 rfl ?_
  refine r_st (cm_cl sx σm sm) ?_
  exact r_ic_eq C (t := 1629) (q := 498) dw_495 (by decide) rfl (fun _ => hk sx sm hRR) (fun c => absurd rfl c)
theorem lc_8 {X : CxT} {l : Launch} {h1 h2 : Nat → Nat} {g : va_G × ClassId × ClassId × ClassId} (C : Cx X l (lW h1 h2 g) 4 code R_law lw_tbl ret room_1) {b L : Nat} {xs : Nat → Int32} (hX : va_X b L xs X.s X.s.heap) (hbl : b < X.s.heap.size) (hbA : ¬ xA (lW h1 h2 g) X.s.heap.size b) (hL : L < 2147483648) {N : Nat} {RR : St → St → Prop} {σx σm : St} (hS : OKp RR (x_wipe N σx) (m_wipe N σm)) {v3 : Int} (hv : 0 ≤ v3) (hv2 : v3 + 8 ≤ L) (hk : ∀ sx sm, RR sx sm → Rj X (lW h1 h2 g) 4 (lw_Z X.below #[Value.ref b] X.s) 1629 [(0, .ref b), (1, .ref (h1 0)), (2, .ref (h2 0)), (3, vI v3)] [] (cm sx sm)) : Rj X (lW h1 h2 g) 4 (lw_Z X.below #[Value.ref b] X.s) 500 [(0, .ref b), (1, .ref (h1 0)), (2, .ref (h2 0)), (3, vI v3)] [] (cm σx σm) := by
  refine r_aload_n C (q := 501) 1 dw_500 rfl rfl rfl ?_
  obtain ⟨r1, sx, sm, hx, hm, hRR⟩ := hS 
  refine r_eI (emb_x h1 h2 g) C (k0 := 0) (As := []) (σ' := cm sx σm) (c_x_wipe (emb_i (emb_x h1 h2 g) C.i) hx) (cm_x σx σm) (cm_x sx σm) (cm_xo σx sx σm) mt_O_wipe ml_Law_49 (Nat.le_of_ble_eq_true rfl) rfl rfl rfl (q := 504) rfl rfl rfl ⟨Nat.le_of_ble_eq_true rfl, Nat.le_of_ble_eq_true rfl⟩ rfl (Nat.le_of_ble_eq_true rfl) dw_501 rfl ?_
  refine r_aload_n C (q := 505) 2 dw_504 rfl rfl rfl ?_
  refine r_eI (emb_m h1 h2 g) C (k0 := 0) (As := []) (σ' := cm sx (cl38 σm sm)) (c_m_wipe (emb_i (emb_m h1 h2 g) C.i) hm) (cm_m sx σm) (cm_ml sx σm sm) (cm_mo sx σm sm) mt_M_wipe ml_Law_53 (Nat.le_of_ble_eq_true rfl) rfl rfl rfl (q := 508) rfl rfl rfl ⟨Nat.le_of_ble_eq_true rfl, Nat.le_of_ble_eq_true rfl⟩ rfl (Nat.le_of_ble_eq_true rfl) dw_505 rfl ?_
  refine r_st (cm_cl sx σm sm) ?_
  exact r_ic_eq C (t := 1629) (q := 511) dw_508 (by decide) rfl (fun _ => hk sx sm hRR) (fun c => absurd rfl c)
theorem lc_9 {X : CxT} {l : Launch} {h1 h2 : Nat → Nat} {g : va_G × ClassId × ClassId × ClassId} (C : Cx X l (lW h1 h2 g) 4 code R_law lw_tbl ret room_1) {b L : Nat} {xs : Nat → Int32} (hX : va_X b L xs X.s X.s.heap) (hbl : b < X.s.heap.size) (hbA : ¬ xA (lW h1 h2 g) X.s.heap.size b) (hL : L < 2147483648) {N : Nat} {RR : St → St → Prop} {σx σm : St} (hS : OKp RR (x_fault N σx) (m_fault N σm)) {v3 : Int} (hv : 0 ≤ v3) (hv2 : v3 + 8 ≤ L) (hk : ∀ sx sm, RR sx sm → Rj X (lW h1 h2 g) 4 (lw_Z X.below #[Value.ref b] X.s) 1629 [(0, .ref b), (1, .ref (h1 0)), (2, .ref (h2 0)), (3, vI v3)] [] (cm sx sm)) : Rj X (lW h1 h2 g) 4 (lw_Z X.below #[Value.ref b] X.s) 513 [(0, .ref b), (1, .ref (h1 0)), (2, .ref (h2 0)), (3, vI v3)] [] (cm σx σm) := by
  refine r_aload_n C (q := 514) 1 dw_513 rfl rfl rfl ?_
  obtain ⟨r1, sx, sm, hx, hm, hRR⟩ := hS 
  refine r_eI (emb_x h1 h2 g) C (k0 := 0) (As := []) (σ' := cm sx σm) (c_x_fault (emb_i (emb_x h1 h2 g) C.i) hx) (cm_x σx σm) (cm_x sx σm) (cm_xo σx sx σm) mt_O_fault ml_Law_54 (Nat.le_of_ble_eq_true rfl) rfl rfl rfl (q := 517) rfl rfl rfl ⟨Nat.le_of_ble_eq_true rfl, Nat.le_of_ble_eq_true rfl⟩ rfl (Nat.le_of_ble_eq_true rfl) dw_514 rfl ?_
  refine r_aload_n C (q := 518) 2 dw_517 rfl rfl rfl ?_
  refine r_eI (emb_m h1 h2 g) C (k0 := 0) (As := []) (σ' := cm sx (cl38 σm sm)) (c_m_fault (emb_i (emb_m h1 h2 g) C.i) hm) (cm_m sx σm) (cm_ml sx σm sm) (cm_mo sx σm sm) mt_M_fault ml_Law_57 (Nat.le_of_ble_eq_true rfl) rfl rfl rfl (q := 521) rfl rfl rfl ⟨Nat.le_of_ble_eq_true rfl, Nat.le_of_ble_eq_true rfl⟩ rfl (Nat.le_of_ble_eq_true rfl) dw_518 rfl ?_
  refine r_st (cm_cl sx σm sm) ?_
  exact r_ic_eq C (t := 1629) (q := 524) dw_521 (by decide) rfl (fun _ => hk sx sm hRR) (fun c => absurd rfl c)
theorem lc_10 {X : CxT} {l : Launch} {h1 h2 : Nat → Nat} {g : va_G × ClassId × ClassId × ClassId} (C : Cx X l (lW h1 h2 g) 4 code R_law lw_tbl ret room_1) {b L : Nat} {xs : Nat → Int32} (hX : va_X b L xs X.s X.s.heap) (hbl : b < X.s.heap.size) (hbA : ¬ xA (lW h1 h2 g) X.s.heap.size b) (hL : L < 2147483648) {N : Nat} {RR : St → St → Prop} {σx σm : St} (hS : ∀ a0 : Int, i32 a0 → ∀ a1 : Int, i32 a1 → OKp RR (x_sound N a0 a1 σx) (m_sound N a0 a1 σm)) {v3 : Int} (hv : 0 ≤ v3) (hv2 : v3 + 8 ≤ L) (hk : ∀ sx sm, RR sx sm → Rj X (lW h1 h2 g) 4 (lw_Z X.below #[Value.ref b] X.s) 1629 [(0, .ref b), (1, .ref (h1 0)), (2, .ref (h2 0)), (3, vI v3)] [] (cm sx sm)) : Rj X (lW h1 h2 g) 4 (lw_Z X.below #[Value.ref b] X.s) 526 [(0, .ref b), (1, .ref (h1 0)), (2, .ref (h2 0)), (3, vI v3)] [] (cm σx σm) := by
  refine r_aload_n C (q := 527) 1 dw_526 rfl rfl rfl ?_
  refine r_aload_n C (q := 528) 0 dw_527 rfl rfl rfl ?_
  refine r_iload_n C (q := 529) 3 dw_528 rfl rfl rfl ?_
  refine r_iconst C (q := 530) dw_529 rfl ?_
  refine r_iadd C (q := 531) dw_530 rfl ?_
  refine r_sld C (q := 532) hX hbl hbA hL ⟨by omega, by omega⟩ dw_531 rfl ?_
  refine r_aload_n C (q := 533) 0 dw_532 rfl rfl rfl ?_
  refine r_iload_n C (q := 534) 3 dw_533 rfl rfl rfl ?_
  refine r_iconst C (q := 535) dw_534 rfl ?_
  refine r_iadd C (q := 536) dw_535 rfl ?_
  refine r_sld C (q := 537) hX hbl hbA hL ⟨by omega, by omega⟩ dw_536 rfl ?_
  obtain ⟨r1, sx, sm, hx, hm, hRR⟩ := hS ((xs (v3 + 1).toNat).toInt) (sc_r _) ((xs (v3 + 2).toNat).toInt) (sc_r _)
  refine r_eI (emb_x h1 h2 g) C (k0 := 0) (As := [vI ((xs (v3 + 1).toNat).toInt), vI ((xs (v3 + 2).toNat).toInt)]) (σ' := cm sx σm) (c_x_sound (emb_i (emb_x h1 h2 g) C.i) hx) (cm_x σx σm) (cm_x sx σm) (cm_xo σx sx σm) mt_O_sound ml_Law_58 (Nat.le_of_ble_eq_true rfl) rfl rfl rfl (q := 540) rfl rfl rfl ⟨Nat.le_of_ble_eq_true rfl, Nat.le_of_ble_eq_true rfl⟩ rfl (Nat.le_of_ble_eq_true rfl) dw_537 rfl ?_
  refine r_aload_n C (q := 541) 2 dw_540 rfl rfl rfl ?_
  refine r_aload_n C (q := 542) 0 dw_541 rfl rfl rfl ?_
  refine r_iload_n C (q := 543) 3 dw_542 rfl rfl rfl ?_
  refine r_iconst C (q := 544) dw_543 rfl ?_
  refine r_iadd C (q := 545) dw_544 rfl ?_
  refine r_sld C (q := 546) hX hbl hbA hL ⟨by omega, by omega⟩ dw_545 rfl ?_
  refine r_aload_n C (q := 547) 0 dw_546 rfl rfl rfl ?_
  refine r_iload_n C (q := 548) 3 dw_547 rfl rfl rfl ?_
  refine r_iconst C (q := 549) dw_548 rfl ?_
  refine r_iadd C (q := 550) dw_549 rfl ?_
  refine r_sld C (q := 551) hX hbl hbA hL ⟨by omega, by omega⟩ dw_550 rfl ?_
  refine r_eI (emb_m h1 h2 g) C (k0 := 0) (As := [vI ((xs (v3 + 1).toNat).toInt), vI ((xs (v3 + 2).toNat).toInt)]) (σ' := cm sx (cl38 σm sm)) (c_m_sound (emb_i (emb_m h1 h2 g) C.i) hm) (cm_m sx σm) (cm_ml sx σm sm) (cm_mo sx σm sm) mt_M_sound ml_Law_61 (Nat.le_of_ble_eq_true rfl) rfl rfl rfl (q := 554) rfl rfl rfl ⟨Nat.le_of_ble_eq_true rfl, Nat.le_of_ble_eq_true rfl⟩ rfl (Nat.le_of_ble_eq_true rfl) dw_551 rfl ?_
  refine r_st (cm_cl sx σm sm) ?_
  exact r_ic_eq C (t := 1629) (q := 557) dw_554 (by decide) rfl (fun _ => hk sx sm hRR) (fun c => absurd rfl c)
theorem lc_11 {X : CxT} {l : Launch} {h1 h2 : Nat → Nat} {g : va_G × ClassId × ClassId × ClassId} (C : Cx X l (lW h1 h2 g) 4 code R_law lw_tbl ret room_1) {b L : Nat} {xs : Nat → Int32} (hX : va_X b L xs X.s X.s.heap) (hbl : b < X.s.heap.size) (hbA : ¬ xA (lW h1 h2 g) X.s.heap.size b) (hL : L < 2147483648) {N : Nat} {RR : St → St → Prop} {σx σm : St} (hS : ∀ a0 : Int, i32 a0 → ∀ a1 : Int, i32 a1 → OKp RR (x_slips N a0 a1 σx) (m_slips N a0 a1 σm)) {v3 : Int} (hv : 0 ≤ v3) (hv2 : v3 + 8 ≤ L) (hk : ∀ sx sm, RR sx sm → Rj X (lW h1 h2 g) 4 (lw_Z X.below #[Value.ref b] X.s) 1629 [(0, .ref b), (1, .ref (h1 0)), (2, .ref (h2 0)), (3, vI v3)] [] (cm sx sm)) : Rj X (lW h1 h2 g) 4 (lw_Z X.below #[Value.ref b] X.s) 559 [(0, .ref b), (1, .ref (h1 0)), (2, .ref (h2 0)), (3, vI v3)] [] (cm σx σm) := by
  refine r_aload_n C (q := 560) 1 dw_559 rfl rfl rfl ?_
  refine r_aload_n C (q := 561) 0 dw_560 rfl rfl rfl ?_
  refine r_iload_n C (q := 562) 3 dw_561 rfl rfl rfl ?_
  refine r_iconst C (q := 563) dw_562 rfl ?_
  refine r_iadd C (q := 564) dw_563 rfl ?_
  refine r_sld C (q := 565) hX hbl hbA hL ⟨by omega, by omega⟩ dw_564 rfl ?_
  refine r_aload_n C (q := 566) 0 dw_565 rfl rfl rfl ?_
  refine r_iload_n C (q := 567) 3 dw_566 rfl rfl rfl ?_
  refine r_iconst C (q := 568) dw_567 rfl ?_
  refine r_iadd C (q := 569) dw_568 rfl ?_
  refine r_sld C (q := 570) hX hbl hbA hL ⟨by omega, by omega⟩ dw_569 rfl ?_
  obtain ⟨r1, sx, sm, hx, hm, hRR⟩ := hS ((xs (v3 + 1).toNat).toInt) (sc_r _) ((xs (v3 + 2).toNat).toInt) (sc_r _)
  refine r_eI (emb_x h1 h2 g) C (k0 := 0) (As := [vI ((xs (v3 + 1).toNat).toInt), vI ((xs (v3 + 2).toNat).toInt)]) (σ' := cm sx σm) (c_x_slips (emb_i (emb_x h1 h2 g) C.i) hx) (cm_x σx σm) (cm_x sx σm) (cm_xo σx sx σm) mt_O_slips ml_Law_62 (Nat.le_of_ble_eq_true rfl) rfl rfl rfl (q := 573) rfl rfl rfl ⟨Nat.le_of_ble_eq_true rfl, Nat.le_of_ble_eq_true rfl⟩ rfl (Nat.le_of_ble_eq_true rfl) dw_570 rfl ?_
  refine r_aload_n C (q := 574) 2 dw_573 rfl rfl rfl ?_
  refine r_aload_n C (q := 575) 0 dw_574 rfl rfl rfl ?_
  refine r_iload_n C (q := 576) 3 dw_575 rfl rfl rfl ?_
  refine r_iconst C (q := 577) dw_576 rfl ?_
  refine r_iadd C (q := 578) dw_577 rfl ?_
  refine r_sld C (q := 579) hX hbl hbA hL ⟨by omega, by omega⟩ dw_578 rfl ?_
  refine r_aload_n C (q := 580) 0 dw_579 rfl rfl rfl ?_
  refine r_iload_n C (q := 581) 3 dw_580 rfl rfl rfl ?_
  refine r_iconst C (q := 582) dw_581 rfl ?_
  refine r_iadd C (q := 583) dw_582 rfl ?_
  refine r_sld C (q := 584) hX hbl hbA hL ⟨by omega, by omega⟩ dw_583 rfl ?_
  refine r_eI (emb_m h1 h2 g) C (k0 := 0) (As := [vI ((xs (v3 + 1).toNat).toInt), vI ((xs (v3 + 2).toNat).toInt)]) (σ' := cm sx (cl38 σm sm)) (c_m_slips (emb_i (emb_m h1 h2 g) C.i) hm) (cm_m sx σm) (cm_ml sx σm sm) (cm_mo sx σm sm) mt_M_slips ml_Law_65 (Nat.le_of_ble_eq_true rfl) rfl rfl rfl (q := 587) rfl rfl rfl ⟨Nat.le_of_ble_eq_true rfl, Nat.le_of_ble_eq_true rfl⟩ rfl (Nat.le_of_ble_eq_true rfl) dw_584 rfl ?_
  refine r_st (cm_cl sx σm sm) ?_
  exact r_ic_eq C (t := 1629) (q := 590) dw_587 (by decide) rfl (fun _ => hk sx sm hRR) (fun c => absurd rfl c)
theorem lc_12 {X : CxT} {l : Launch} {h1 h2 : Nat → Nat} {g : va_G × ClassId × ClassId × ClassId} (C : Cx X l (lW h1 h2 g) 4 code R_law lw_tbl ret room_1) {b L : Nat} {xs : Nat → Int32} (hX : va_X b L xs X.s X.s.heap) (hbl : b < X.s.heap.size) (hbA : ¬ xA (lW h1 h2 g) X.s.heap.size b) (hL : L < 2147483648) {N : Nat} {RR : St → St → Prop} {σx σm : St} (hS : ∀ a0 : Int, i32 a0 → ∀ a1 : Int, i32 a1 → ∀ a2 : Int, i32 a2 → OKp RR (x_level N a0 a1 a2 σx) (m_level N a0 a1 a2 σm)) {v3 : Int} (hv : 0 ≤ v3) (hv2 : v3 + 8 ≤ L) (hk : ∀ sx sm, RR sx sm → Rj X (lW h1 h2 g) 4 (lw_Z X.below #[Value.ref b] X.s) 1629 [(0, .ref b), (1, .ref (h1 0)), (2, .ref (h2 0)), (3, vI v3)] [] (cm sx sm)) : Rj X (lW h1 h2 g) 4 (lw_Z X.below #[Value.ref b] X.s) 592 [(0, .ref b), (1, .ref (h1 0)), (2, .ref (h2 0)), (3, vI v3)] [] (cm σx σm) := by
  refine r_aload_n C (q := 593) 1 dw_592 rfl rfl rfl ?_
  refine r_aload_n C (q := 594) 0 dw_593 rfl rfl rfl ?_
  refine r_iload_n C (q := 595) 3 dw_594 rfl rfl rfl ?_
  refine r_iconst C (q := 596) dw_595 rfl ?_
  refine r_iadd C (q := 597) dw_596 rfl ?_
  refine r_sld C (q := 598) hX hbl hbA hL ⟨by omega, by omega⟩ dw_597 rfl ?_
  refine r_aload_n C (q := 599) 0 dw_598 rfl rfl rfl ?_
  refine r_iload_n C (q := 600) 3 dw_599 rfl rfl rfl ?_
  refine r_iconst C (q := 601) dw_600 rfl ?_
  refine r_iadd C (q := 602) dw_601 rfl ?_
  refine r_sld C (q := 603) hX hbl hbA hL ⟨by omega, by omega⟩ dw_602 rfl ?_
  refine r_aload_n C (q := 604) 0 dw_603 rfl rfl rfl ?_
  refine r_iload_n C (q := 605) 3 dw_604 rfl rfl rfl ?_
  refine r_iconst C (q := 606) dw_605 rfl ?_
  refine r_iadd C (q := 607) dw_606 rfl ?_
  refine r_sld C (q := 608) hX hbl hbA hL ⟨by omega, by omega⟩ dw_607 rfl ?_
  obtain ⟨r1, sx, sm, hx, hm, hRR⟩ := hS ((xs (v3 + 1).toNat).toInt) (sc_r _) ((xs (v3 + 2).toNat).toInt) (sc_r _) ((xs (v3 + 3).toNat).toInt) (sc_r _)
  refine r_eI (emb_x h1 h2 g) C (k0 := 0) (As := [vI ((xs (v3 + 1).toNat).toInt), vI ((xs (v3 + 2).toNat).toInt), vI ((xs (v3 + 3).toNat).toInt)]) (σ' := cm sx σm) (c_x_level (emb_i (emb_x h1 h2 g) C.i) hx) (cm_x σx σm) (cm_x sx σm) (cm_xo σx sx σm) mt_O_level ml_Law_66 (Nat.le_of_ble_eq_true rfl) rfl rfl rfl (q := 611) rfl rfl rfl ⟨Nat.le_of_ble_eq_true rfl, Nat.le_of_ble_eq_true rfl⟩ rfl (Nat.le_of_ble_eq_true rfl) dw_608 rfl ?_
  refine r_aload_n C (q := 612) 2 dw_611 rfl rfl rfl ?_
  refine r_aload_n C (q := 613) 0 dw_612 rfl rfl rfl ?_
  refine r_iload_n C (q := 614) 3 dw_613 rfl rfl rfl ?_
  refine r_iconst C (q := 615) dw_614 rfl ?_
  refine r_iadd C (q := 616) dw_615 rfl ?_
  refine r_sld C (q := 617) hX hbl hbA hL ⟨by omega, by omega⟩ dw_616 rfl ?_
  refine r_aload_n C (q := 618) 0 dw_617 rfl rfl rfl ?_
  refine r_iload_n C (q := 619) 3 dw_618 rfl rfl rfl ?_
  refine r_iconst C (q := 620) dw_619 rfl ?_
  refine r_iadd C (q := 621) dw_620 rfl ?_
  refine r_sld C (q := 622) hX hbl hbA hL ⟨by omega, by omega⟩ dw_621 rfl ?_
  refine r_aload_n C (q := 623) 0 dw_622 rfl rfl rfl ?_
  refine r_iload_n C (q := 624) 3 dw_623 rfl rfl rfl ?_
  refine r_iconst C (q := 625) dw_624 rfl ?_
  refine r_iadd C (q := 626) dw_625 rfl ?_
  refine r_sld C (q := 627) hX hbl hbA hL ⟨by omega, by omega⟩ dw_626 rfl ?_
  refine r_eI (emb_m h1 h2 g) C (k0 := 0) (As := [vI ((xs (v3 + 1).toNat).toInt), vI ((xs (v3 + 2).toNat).toInt), vI ((xs (v3 + 3).toNat).toInt)]) (σ' := cm sx (cl38 σm sm)) (c_m_level (emb_i (emb_m h1 h2 g) C.i) hm) (cm_m sx σm) (cm_ml sx σm sm) (cm_mo sx σm sm) mt_M_level ml_Law_69 (Nat.le_of_ble_eq_true rfl) rfl rfl rfl (q := 630) rfl rfl rfl ⟨Nat.le_of_ble_eq_true rfl, Nat.le_of_ble_eq_true rfl⟩ rfl (Nat.le_of_ble_eq_true rfl) dw_627 rfl ?_
  refine r_st (cm_cl sx σm sm) ?_
  exact r_ic_eq C (t := 1629) (q := 633) dw_630 (by decide) rfl (fun _ => hk sx sm hRR) (fun c => absurd rfl c)
theorem lc_13 {X : CxT} {l : Launch} {h1 h2 : Nat → Nat} {g : va_G × ClassId × ClassId × ClassId} (C : Cx X l (lW h1 h2 g) 4 code R_law lw_tbl ret room_1) {b L : Nat} {xs : Nat → Int32} (hX : va_X b L xs X.s X.s.heap) (hbl : b < X.s.heap.size) (hbA : ¬ xA (lW h1 h2 g) X.s.heap.size b) (hL : L < 2147483648) {N : Nat} {RR : St → St → Prop} {σx σm : St} (hS : ∀ a0 : Int, i32 a0 → ∀ a1 : Int, i32 a1 → ∀ a2 : Int, i32 a2 → OKp RR (x_points N a0 a1 a2 σx) (m_points N a0 a1 a2 σm)) {v3 : Int} (hv : 0 ≤ v3) (hv2 : v3 + 8 ≤ L) (hk : ∀ sx sm, RR sx sm → Rj X (lW h1 h2 g) 4 (lw_Z X.below #[Value.ref b] X.s) 1629 [(0, .ref b), (1, .ref (h1 0)), (2, .ref (h2 0)), (3, vI v3)] [] (cm sx sm)) : Rj X (lW h1 h2 g) 4 (lw_Z X.below #[Value.ref b] X.s) 635 [(0, .ref b), (1, .ref (h1 0)), (2, .ref (h2 0)), (3, vI v3)] [] (cm σx σm) := by
  refine r_aload_n C (q := 636) 1 dw_635 rfl rfl rfl ?_
  refine r_aload_n C (q := 637) 0 dw_636 rfl rfl rfl ?_
  refine r_iload_n C (q := 638) 3 dw_637 rfl rfl rfl ?_
  refine r_iconst C (q := 639) dw_638 rfl ?_
  refine r_iadd C (q := 640) dw_639 rfl ?_
  refine r_sld C (q := 641) hX hbl hbA hL ⟨by omega, by omega⟩ dw_640 rfl ?_
  refine r_aload_n C (q := 642) 0 dw_641 rfl rfl rfl ?_
  refine r_iload_n C (q := 643) 3 dw_642 rfl rfl rfl ?_
  refine r_iconst C (q := 644) dw_643 rfl ?_
  refine r_iadd C (q := 645) dw_644 rfl ?_
  refine r_sld C (q := 646) hX hbl hbA hL ⟨by omega, by omega⟩ dw_645 rfl ?_
  refine r_aload_n C (q := 647) 0 dw_646 rfl rfl rfl ?_
  refine r_iload_n C (q := 648) 3 dw_647 rfl rfl rfl ?_
  refine r_iconst C (q := 649) dw_648 rfl ?_
  refine r_iadd C (q := 650) dw_649 rfl ?_
  refine r_sld C (q := 651) hX hbl hbA hL ⟨by omega, by omega⟩ dw_650 rfl ?_
  obtain ⟨r1, sx, sm, hx, hm, hRR⟩ := hS ((xs (v3 + 1).toNat).toInt) (sc_r _) ((xs (v3 + 2).toNat).toInt) (sc_r _) ((xs (v3 + 3).toNat).toInt) (sc_r _)
  refine r_eI (emb_x h1 h2 g) C (k0 := 0) (As := [vI ((xs (v3 + 1).toNat).toInt), vI ((xs (v3 + 2).toNat).toInt), vI ((xs (v3 + 3).toNat).toInt)]) (σ' := cm sx σm) (c_x_points (emb_i (emb_x h1 h2 g) C.i) hx) (cm_x σx σm) (cm_x sx σm) (cm_xo σx sx σm) mt_O_points ml_Law_70 (Nat.le_of_ble_eq_true rfl) rfl rfl rfl (q := 654) rfl rfl rfl ⟨Nat.le_of_ble_eq_true rfl, Nat.le_of_ble_eq_true rfl⟩ rfl (Nat.le_of_ble_eq_true rfl) dw_651 rfl ?_
  refine r_aload_n C (q := 655) 2 dw_654 rfl rfl rfl ?_
  refine r_aload_n C (q := 656) 0 dw_655 rfl rfl rfl ?_
  refine r_iload_n C (q := 657) 3 dw_656 rfl rfl rfl ?_
  refine r_iconst C (q := 658) dw_657 rfl ?_
  refine r_iadd C (q := 659) dw_658 rfl ?_
  refine r_sld C (q := 660) hX hbl hbA hL ⟨by omega, by omega⟩ dw_659 rfl ?_
  refine r_aload_n C (q := 661) 0 dw_660 rfl rfl rfl ?_
  refine r_iload_n C (q := 662) 3 dw_661 rfl rfl rfl ?_
  refine r_iconst C (q := 663) dw_662 rfl ?_
  refine r_iadd C (q := 664) dw_663 rfl ?_
  refine r_sld C (q := 665) hX hbl hbA hL ⟨by omega, by omega⟩ dw_664 rfl ?_
  refine r_aload_n C (q := 666) 0 dw_665 rfl rfl rfl ?_
  refine r_iload_n C (q := 667) 3 dw_666 rfl rfl rfl ?_
  refine r_iconst C (q := 668) dw_667 rfl ?_
  refine r_iadd C (q := 669) dw_668 rfl ?_
  refine r_sld C (q := 670) hX hbl hbA hL ⟨by omega, by omega⟩ dw_669 rfl ?_
  refine r_eI (emb_m h1 h2 g) C (k0 := 0) (As := [vI ((xs (v3 + 1).toNat).toInt), vI ((xs (v3 + 2).toNat).toInt), vI ((xs (v3 + 3).toNat).toInt)]) (σ' := cm sx (cl38 σm sm)) (c_m_points (emb_i (emb_m h1 h2 g) C.i) hm) (cm_m sx σm) (cm_ml sx σm sm) (cm_mo sx σm sm) mt_M_points ml_Law_73 (Nat.le_of_ble_eq_true rfl) rfl rfl rfl (q := 673) rfl rfl rfl ⟨Nat.le_of_ble_eq_true rfl, Nat.le_of_ble_eq_true rfl⟩ rfl (Nat.le_of_ble_eq_true rfl) dw_670 rfl ?_
  refine r_st (cm_cl sx σm sm) ?_
  exact r_ic_eq C (t := 1629) (q := 676) dw_673 (by decide) rfl (fun _ => hk sx sm hRR) (fun c => absurd rfl c)
theorem lc_14 {X : CxT} {l : Launch} {h1 h2 : Nat → Nat} {g : va_G × ClassId × ClassId × ClassId} (C : Cx X l (lW h1 h2 g) 4 code R_law lw_tbl ret room_1) {b L : Nat} {xs : Nat → Int32} (hX : va_X b L xs X.s X.s.heap) (hbl : b < X.s.heap.size) (hbA : ¬ xA (lW h1 h2 g) X.s.heap.size b) (hL : L < 2147483648) {N : Nat} {RR : St → St → Prop} {σx σm : St} (hS : ∀ a0 : Int, i32 a0 → ∀ a1 : Int, i32 a1 → OKp RR (x_score N a0 a1 σx) (m_score N a0 a1 σm)) {v3 : Int} (hv : 0 ≤ v3) (hv2 : v3 + 8 ≤ L) (hk : ∀ sx sm, RR sx sm → Rj X (lW h1 h2 g) 4 (lw_Z X.below #[Value.ref b] X.s) 1629 [(0, .ref b), (1, .ref (h1 0)), (2, .ref (h2 0)), (3, vI v3)] [] (cm sx sm)) : Rj X (lW h1 h2 g) 4 (lw_Z X.below #[Value.ref b] X.s) 678 [(0, .ref b), (1, .ref (h1 0)), (2, .ref (h2 0)), (3, vI v3)] [] (cm σx σm) := by
  refine r_aload_n C (q := 679) 1 dw_678 rfl rfl rfl ?_
  refine r_aload_n C (q := 680) 0 dw_679 rfl rfl rfl ?_
  refine r_iload_n C (q := 681) 3 dw_680 rfl rfl rfl ?_
  refine r_iconst C (q := 682) dw_681 rfl ?_
  refine r_iadd C (q := 683) dw_682 rfl ?_
  refine r_sld C (q := 684) hX hbl hbA hL ⟨by omega, by omega⟩ dw_683 rfl ?_
  refine r_aload_n C (q := 685) 0 dw_684 rfl rfl rfl ?_
  refine r_iload_n C (q := 686) 3 dw_685 rfl rfl rfl ?_
  refine r_iconst C (q := 687) dw_686 rfl ?_
  refine r_iadd C (q := 688) dw_687 rfl ?_
  refine r_sld C (q := 689) hX hbl hbA hL ⟨by omega, by omega⟩ dw_688 rfl ?_
  obtain ⟨r1, sx, sm, hx, hm, hRR⟩ := hS ((xs (v3 + 1).toNat).toInt) (sc_r _) ((xs (v3 + 2).toNat).toInt) (sc_r _)
  refine r_eI (emb_x h1 h2 g) C (k0 := 0) (As := [vI ((xs (v3 + 1).toNat).toInt), vI ((xs (v3 + 2).toNat).toInt)]) (σ' := cm sx σm) (c_x_score (emb_i (emb_x h1 h2 g) C.i) hx) (cm_x σx σm) (cm_x sx σm) (cm_xo σx sx σm) mt_O_score ml_Law_74 (Nat.le_of_ble_eq_true rfl) rfl rfl rfl (q := 692) rfl rfl rfl ⟨Nat.le_of_ble_eq_true rfl, Nat.le_of_ble_eq_true rfl⟩ rfl (Nat.le_of_ble_eq_true rfl) dw_689 rfl ?_
  refine r_aload_n C (q := 693) 2 dw_692 rfl rfl rfl ?_
  refine r_aload_n C (q := 694) 0 dw_693 rfl rfl rfl ?_
  refine r_iload_n C (q := 695) 3 dw_694 rfl rfl rfl ?_
  refine r_iconst C (q := 696) dw_695 rfl ?_
  refine r_iadd C (q := 697) dw_696 rfl ?_
  refine r_sld C (q := 698) hX hbl hbA hL ⟨by omega, by omega⟩ dw_697 rfl ?_
  refine r_aload_n C (q := 699) 0 dw_698 rfl rfl rfl ?_
  refine r_iload_n C (q := 700) 3 dw_699 rfl rfl rfl ?_
  refine r_iconst C (q := 701) dw_700 rfl ?_
  refine r_iadd C (q := 702) dw_701 rfl ?_
  refine r_sld C (q := 703) hX hbl hbA hL ⟨by omega, by omega⟩ dw_702 rfl ?_
  refine r_eI (emb_m h1 h2 g) C (k0 := 0) (As := [vI ((xs (v3 + 1).toNat).toInt), vI ((xs (v3 + 2).toNat).toInt)]) (σ' := cm sx (cl38 σm sm)) (c_m_score (emb_i (emb_m h1 h2 g) C.i) hm) (cm_m sx σm) (cm_ml sx σm sm) (cm_mo sx σm sm) mt_M_score ml_Law_77 (Nat.le_of_ble_eq_true rfl) rfl rfl rfl (q := 706) rfl rfl rfl ⟨Nat.le_of_ble_eq_true rfl, Nat.le_of_ble_eq_true rfl⟩ rfl (Nat.le_of_ble_eq_true rfl) dw_703 rfl ?_
  refine r_st (cm_cl sx σm sm) ?_
  exact r_ic_eq C (t := 1629) (q := 709) dw_706 (by decide) rfl (fun _ => hk sx sm hRR) (fun c => absurd rfl c)
theorem lc_15 {X : CxT} {l : Launch} {h1 h2 : Nat → Nat} {g : va_G × ClassId × ClassId × ClassId} (C : Cx X l (lW h1 h2 g) 4 code R_law lw_tbl ret room_1) {b L : Nat} {xs : Nat → Int32} (hX : va_X b L xs X.s X.s.heap) (hbl : b < X.s.heap.size) (hbA : ¬ xA (lW h1 h2 g) X.s.heap.size b) (hL : L < 2147483648) {N : Nat} {RR : St → St → Prop} {σx σm : St} (hS : ∀ a0 : Int, bit1 a0 → ∀ a1 : Int, i32 a1 → ∀ a2 : Int, i32 a2 → ∀ a3 : Int, i32 a3 → OKp RR (x_chance N a0 a1 a2 a3 σx) (m_chance N a0 a1 a2 a3 σm)) {v3 : Int} (hv : 0 ≤ v3) (hv2 : v3 + 8 ≤ L) (hk : ∀ sx sm, RR sx sm → Rj X (lW h1 h2 g) 4 (lw_Z X.below #[Value.ref b] X.s) 1629 [(0, .ref b), (1, .ref (h1 0)), (2, .ref (h2 0)), (3, vI v3)] [] (cm sx sm)) : Rj X (lW h1 h2 g) 4 (lw_Z X.below #[Value.ref b] X.s) 711 [(0, .ref b), (1, .ref (h1 0)), (2, .ref (h2 0)), (3, vI v3)] [] (cm σx σm) := by
  refine r_aload_n C (q := 712) 1 dw_711 rfl rfl rfl ?_
  refine r_aload_n C (q := 713) 0 dw_712 rfl rfl rfl ?_
  refine r_iload_n C (q := 714) 3 dw_713 rfl rfl rfl ?_
  refine r_iconst C (q := 715) dw_714 rfl ?_
  refine r_iadd C (q := 716) dw_715 rfl ?_
  refine r_sld C (q := 717) hX hbl hbA hL ⟨by omega, by omega⟩ dw_716 rfl ?_
  refine r_if_eq C (t := 724) (q := 720) dw_717 (by decide) rfl (fun c717 => ?_) (fun c717 => ?_)
  · refine r_iconst C (q := 725) dw_724 rfl ?_
    refine r_aload_n C (q := 726) 0 dw_725 rfl rfl rfl ?_
    refine r_iload_n C (q := 727) 3 dw_726 rfl rfl rfl ?_
    refine r_iconst C (q := 728) dw_727 rfl ?_
    refine r_iadd C (q := 729) dw_728 rfl ?_
    refine r_sld C (q := 730) hX hbl hbA hL ⟨by omega, by omega⟩ dw_729 rfl ?_
    refine r_aload_n C (q := 731) 0 dw_730 rfl rfl rfl ?_
    refine r_iload_n C (q := 732) 3 dw_731 rfl rfl rfl ?_
    refine r_iconst C (q := 733) dw_732 rfl ?_
    refine r_iadd C (q := 734) dw_733 rfl ?_
    refine r_sld C (q := 735) hX hbl hbA hL ⟨by omega, by omega⟩ dw_734 rfl ?_
    refine r_aload_n C (q := 736) 0 dw_735 rfl rfl rfl ?_
    refine r_iload_n C (q := 737) 3 dw_736 rfl rfl rfl ?_
    refine r_iconst C (q := 738) dw_737 rfl ?_
    refine r_iadd C (q := 739) dw_738 rfl ?_
    refine r_sld C (q := 740) hX hbl hbA hL ⟨by omega, by omega⟩ dw_739 rfl ?_
    obtain ⟨r1, sx, sm, hx, hm, hRR⟩ := hS 0 (by decide) ((xs (v3 + 2).toNat).toInt) (sc_r _) ((xs (v3 + 3).toNat).toInt) (sc_r _) ((xs (v3 + 4).toNat).toInt) (sc_r _)
    refine r_eI (emb_x h1 h2 g) C (k0 := 0) (As := [vI 0, vI ((xs (v3 + 2).toNat).toInt), vI ((xs (v3 + 3).toNat).toInt), vI ((xs (v3 + 4).toNat).toInt)]) (σ' := cm sx σm) (c_x_chance (emb_i (emb_x h1 h2 g) C.i) hx) (cm_x σx σm) (cm_x sx σm) (cm_xo σx sx σm) mt_O_chance ml_Law_78 (Nat.le_of_ble_eq_true rfl) rfl rfl rfl (q := 743) rfl rfl rfl ⟨Nat.le_of_ble_eq_true rfl, Nat.le_of_ble_eq_true rfl⟩ rfl (Nat.le_of_ble_eq_true rfl) dw_740 rfl ?_
    refine r_aload_n C (q := 744) 2 dw_743 rfl rfl rfl ?_
    refine r_aload_n C (q := 745) 0 dw_744 rfl rfl rfl ?_
    refine r_iload_n C (q := 746) 3 dw_745 rfl rfl rfl ?_
    refine r_iconst C (q := 747) dw_746 rfl ?_
    refine r_iadd C (q := 748) dw_747 rfl ?_
    refine r_sld C (q := 749) hX hbl hbA hL ⟨by omega, by omega⟩ dw_748 rfl ?_
    refine r_if_eq C (t := 756) (q := 752) dw_749 (by decide) rfl (fun c749 => ?_) (fun c749 => ?_)
    · refine r_iconst C (q := 757) dw_756 rfl ?_
      refine r_aload_n C (q := 758) 0 dw_757 rfl rfl rfl ?_
      refine r_iload_n C (q := 759) 3 dw_758 rfl rfl rfl ?_
      refine r_iconst C (q := 760) dw_759 rfl ?_
      refine r_iadd C (q := 761) dw_760 rfl ?_
      refine r_sld C (q := 762) hX hbl hbA hL ⟨by omega, by omega⟩ dw_761 rfl ?_
      refine r_aload_n C (q := 763) 0 dw_762 rfl rfl rfl ?_
      refine r_iload_n C (q := 764) 3 dw_763 rfl rfl rfl ?_
      refine r_iconst C (q := 765) dw_764 rfl ?_
      refine r_iadd C (q := 766) dw_765 rfl ?_
      refine r_sld C (q := 767) hX hbl hbA hL ⟨by omega, by omega⟩ dw_766 rfl ?_
      refine r_aload_n C (q := 768) 0 dw_767 rfl rfl rfl ?_
      refine r_iload_n C (q := 769) 3 dw_768 rfl rfl rfl ?_
      refine r_iconst C (q := 770) dw_769 rfl ?_
      refine r_iadd C (q := 771) dw_770 rfl ?_
      refine r_sld C (q := 772) hX hbl hbA hL ⟨by omega, by omega⟩ dw_771 rfl ?_
      refine r_eI (emb_m h1 h2 g) C (k0 := 0) (As := [vI 0, vI ((xs (v3 + 2).toNat).toInt), vI ((xs (v3 + 3).toNat).toInt), vI ((xs (v3 + 4).toNat).toInt)]) (σ' := cm sx (cl38 σm sm)) (c_m_chance (emb_i (emb_m h1 h2 g) C.i) hm) (cm_m sx σm) (cm_ml sx σm sm) (cm_mo sx σm sm) mt_M_chance ml_Law_82 (Nat.le_of_ble_eq_true rfl) rfl rfl rfl (q := 775) rfl rfl rfl ⟨Nat.le_of_ble_eq_true rfl, Nat.le_of_ble_eq_true rfl⟩ rfl (Nat.le_of_ble_eq_true rfl) dw_772 rfl ?_
      refine r_st (cm_cl sx σm sm) ?_
      exact r_ic_eq C (t := 1629) (q := 778) dw_775 (by decide) rfl (fun _ => hk sx sm hRR) (fun c => absurd rfl c)
    · exact absurd c717 c749
  · refine r_iconst C (q := 721) dw_720 rfl ?_
    refine r_goto C (q := 725) dw_721 (by decide) ?_
    refine r_aload_n C (q := 726) 0 dw_725 rfl rfl rfl ?_
    refine r_iload_n C (q := 727) 3 dw_726 rfl rfl rfl ?_
    refine r_iconst C (q := 728) dw_727 rfl ?_
    refine r_iadd C (q := 729) dw_728 rfl ?_
    refine r_sld C (q := 730) hX hbl hbA hL ⟨by omega, by omega⟩ dw_729 rfl ?_
    refine r_aload_n C (q := 731) 0 dw_730 rfl rfl rfl ?_
    refine r_iload_n C (q := 732) 3 dw_731 rfl rfl rfl ?_
    refine r_iconst C (q := 733) dw_732 rfl ?_
    refine r_iadd C (q := 734) dw_733 rfl ?_
    refine r_sld C (q := 735) hX hbl hbA hL ⟨by omega, by omega⟩ dw_734 rfl ?_
    refine r_aload_n C (q := 736) 0 dw_735 rfl rfl rfl ?_
    refine r_iload_n C (q := 737) 3 dw_736 rfl rfl rfl ?_
    refine r_iconst C (q := 738) dw_737 rfl ?_
    refine r_iadd C (q := 739) dw_738 rfl ?_
    refine r_sld C (q := 740) hX hbl hbA hL ⟨by omega, by omega⟩ dw_739 rfl ?_
    obtain ⟨r1, sx, sm, hx, hm, hRR⟩ := hS 1 (by decide) ((xs (v3 + 2).toNat).toInt) (sc_r _) ((xs (v3 + 3).toNat).toInt) (sc_r _) ((xs (v3 + 4).toNat).toInt) (sc_r _)
    refine r_eI (emb_x h1 h2 g) C (k0 := 0) (As := [vI 1, vI ((xs (v3 + 2).toNat).toInt), vI ((xs (v3 + 3).toNat).toInt), vI ((xs (v3 + 4).toNat).toInt)]) (σ' := cm sx σm) (c_x_chance (emb_i (emb_x h1 h2 g) C.i) hx) (cm_x σx σm) (cm_x sx σm) (cm_xo σx sx σm) mt_O_chance ml_Law_78 (Nat.le_of_ble_eq_true rfl) rfl rfl rfl (q := 743) rfl rfl rfl ⟨Nat.le_of_ble_eq_true rfl, Nat.le_of_ble_eq_true rfl⟩ rfl (Nat.le_of_ble_eq_true rfl) dw_740 rfl ?_
    refine r_aload_n C (q := 744) 2 dw_743 rfl rfl rfl ?_
    refine r_aload_n C (q := 745) 0 dw_744 rfl rfl rfl ?_
    refine r_iload_n C (q := 746) 3 dw_745 rfl rfl rfl ?_
    refine r_iconst C (q := 747) dw_746 rfl ?_
    refine r_iadd C (q := 748) dw_747 rfl ?_
    refine r_sld C (q := 749) hX hbl hbA hL ⟨by omega, by omega⟩ dw_748 rfl ?_
    refine r_if_eq C (t := 756) (q := 752) dw_749 (by decide) rfl (fun c749 => ?_) (fun c749 => ?_)
    · exact absurd c749 c717
    · refine r_iconst C (q := 753) dw_752 rfl ?_
      refine r_goto C (q := 757) dw_753 (by decide) ?_
      refine r_aload_n C (q := 758) 0 dw_757 rfl rfl rfl ?_
      refine r_iload_n C (q := 759) 3 dw_758 rfl rfl rfl ?_
      refine r_iconst C (q := 760) dw_759 rfl ?_
      refine r_iadd C (q := 761) dw_760 rfl ?_
      refine r_sld C (q := 762) hX hbl hbA hL ⟨by omega, by omega⟩ dw_761 rfl ?_
      refine r_aload_n C (q := 763) 0 dw_762 rfl rfl rfl ?_
      refine r_iload_n C (q := 764) 3 dw_763 rfl rfl rfl ?_
      refine r_iconst C (q := 765) dw_764 rfl ?_
      refine r_iadd C (q := 766) dw_765 rfl ?_
      refine r_sld C (q := 767) hX hbl hbA hL ⟨by omega, by omega⟩ dw_766 rfl ?_
      refine r_aload_n C (q := 768) 0 dw_767 rfl rfl rfl ?_
      refine r_iload_n C (q := 769) 3 dw_768 rfl rfl rfl ?_
      refine r_iconst C (q := 770) dw_769 rfl ?_
      refine r_iadd C (q := 771) dw_770 rfl ?_
      refine r_sld C (q := 772) hX hbl hbA hL ⟨by omega, by omega⟩ dw_771 rfl ?_
      refine r_eI (emb_m h1 h2 g) C (k0 := 0) (As := [vI 1, vI ((xs (v3 + 2).toNat).toInt), vI ((xs (v3 + 3).toNat).toInt), vI ((xs (v3 + 4).toNat).toInt)]) (σ' := cm sx (cl38 σm sm)) (c_m_chance (emb_i (emb_m h1 h2 g) C.i) hm) (cm_m sx σm) (cm_ml sx σm sm) (cm_mo sx σm sm) mt_M_chance ml_Law_82 (Nat.le_of_ble_eq_true rfl) rfl rfl rfl (q := 775) rfl rfl rfl ⟨Nat.le_of_ble_eq_true rfl, Nat.le_of_ble_eq_true rfl⟩ rfl (Nat.le_of_ble_eq_true rfl) dw_772 rfl ?_
      refine r_st (cm_cl sx σm sm) ?_
      exact r_ic_eq C (t := 1629) (q := 778) dw_775 (by decide) rfl (fun _ => hk sx sm hRR) (fun c => absurd rfl c)
theorem lc_16 {X : CxT} {l : Launch} {h1 h2 : Nat → Nat} {g : va_G × ClassId × ClassId × ClassId} (C : Cx X l (lW h1 h2 g) 4 code R_law lw_tbl ret room_1) {b L : Nat} {xs : Nat → Int32} (hX : va_X b L xs X.s X.s.heap) (hbl : b < X.s.heap.size) (hbA : ¬ xA (lW h1 h2 g) X.s.heap.size b) (hL : L < 2147483648) {N : Nat} {RR : St → St → Prop} {σx σm : St} (hS : ∀ a0 : Int, i32 a0 → ∀ a1 : Int, i32 a1 → ∀ a2 : Int, i32 a2 → OKp RR (x_odds N a0 a1 a2 σx) (m_odds N a0 a1 a2 σm)) {v3 : Int} (hv : 0 ≤ v3) (hv2 : v3 + 8 ≤ L) (hk : ∀ sx sm, RR sx sm → Rj X (lW h1 h2 g) 4 (lw_Z X.below #[Value.ref b] X.s) 1629 [(0, .ref b), (1, .ref (h1 0)), (2, .ref (h2 0)), (3, vI v3)] [] (cm sx sm)) : Rj X (lW h1 h2 g) 4 (lw_Z X.below #[Value.ref b] X.s) 780 [(0, .ref b), (1, .ref (h1 0)), (2, .ref (h2 0)), (3, vI v3)] [] (cm σx σm) := by
  refine r_aload_n C (q := 781) 1 dw_780 rfl rfl rfl ?_
  refine r_aload_n C (q := 782) 0 dw_781 rfl rfl rfl ?_
  refine r_iload_n C (q := 783) 3 dw_782 rfl rfl rfl ?_
  refine r_iconst C (q := 784) dw_783 rfl ?_
  refine r_iadd C (q := 785) dw_784 rfl ?_
  refine r_sld C (q := 786) hX hbl hbA hL ⟨by omega, by omega⟩ dw_785 rfl ?_
  refine r_aload_n C (q := 787) 0 dw_786 rfl rfl rfl ?_
  refine r_iload_n C (q := 788) 3 dw_787 rfl rfl rfl ?_
  refine r_iconst C (q := 789) dw_788 rfl ?_
  refine r_iadd C (q := 790) dw_789 rfl ?_
  refine r_sld C (q := 791) hX hbl hbA hL ⟨by omega, by omega⟩ dw_790 rfl ?_
  refine r_aload_n C (q := 792) 0 dw_791 rfl rfl rfl ?_
  refine r_iload_n C (q := 793) 3 dw_792 rfl rfl rfl ?_
  refine r_iconst C (q := 794) dw_793 rfl ?_
  refine r_iadd C (q := 795) dw_794 rfl ?_
  refine r_sld C (q := 796) hX hbl hbA hL ⟨by omega, by omega⟩ dw_795 rfl ?_
  obtain ⟨r1, sx, sm, hx, hm, hRR⟩ := hS ((xs (v3 + 1).toNat).toInt) (sc_r _) ((xs (v3 + 2).toNat).toInt) (sc_r _) ((xs (v3 + 3).toNat).toInt) (sc_r _)
  refine r_eL (emb_x h1 h2 g) C (k0 := 0) (As := [vI ((xs (v3 + 1).toNat).toInt), vI ((xs (v3 + 2).toNat).toInt), vI ((xs (v3 + 3).toNat).toInt)]) (σ' := cm sx σm) (c_x_odds (emb_i (emb_x h1 h2 g) C.i) hx) (cm_x σx σm) (cm_x sx σm) (cm_xo σx sx σm) mt_O_odds ml_Law_83 (Nat.le_of_ble_eq_true rfl) rfl rfl rfl (q := 799) rfl rfl rfl ⟨Nat.le_of_ble_eq_true rfl, Nat.le_of_ble_eq_true rfl⟩ rfl (Nat.le_of_ble_eq_true rfl) dw_796 rfl ?_
  refine r_aload_n C (q := 800) 2 dw_799 rfl rfl rfl ?_
  refine r_aload_n C (q := 801) 0 dw_800 rfl rfl rfl ?_
  refine r_iload_n C (q := 802) 3 dw_801 rfl rfl rfl ?_
  refine r_iconst C (q := 803) dw_802 rfl ?_
  refine r_iadd C (q := 804) dw_803 rfl ?_
  refine r_sld C (q := 805) hX hbl hbA hL ⟨by omega, by omega⟩ dw_804 rfl ?_
  refine r_aload_n C (q := 806) 0 dw_805 rfl rfl rfl ?_
  refine r_iload_n C (q := 807) 3 dw_806 rfl rfl rfl ?_
  refine r_iconst C (q := 808) dw_807 rfl ?_
  refine r_iadd C (q := 809) dw_808 rfl ?_
  refine r_sld C (q := 810) hX hbl hbA hL ⟨by omega, by omega⟩ dw_809 rfl ?_
  refine r_aload_n C (q := 811) 0 dw_810 rfl rfl rfl ?_
  refine r_iload_n C (q := 812) 3 dw_811 rfl rfl rfl ?_
  refine r_iconst C (q := 813) dw_812 rfl ?_
  refine r_iadd C (q := 814) dw_813 rfl ?_
  refine r_sld C (q := 815) hX hbl hbA hL ⟨by omega, by omega⟩ dw_814 rfl ?_
  refine r_eL (emb_m h1 h2 g) C (k0 := 0) (As := [vI ((xs (v3 + 1).toNat).toInt), vI ((xs (v3 + 2).toNat).toInt), vI ((xs (v3 + 3).toNat).toInt)]) (σ' := cm sx (cl38 σm sm)) (c_m_odds (emb_i (emb_m h1 h2 g) C.i) hm) (cm_m sx σm) (cm_ml sx σm sm) (cm_mo sx σm sm) mt_M_odds ml_Law_87 (Nat.le_of_ble_eq_true rfl) rfl rfl rfl (q := 818) rfl rfl rfl ⟨Nat.le_of_ble_eq_true rfl, Nat.le_of_ble_eq_true rfl⟩ rfl (Nat.le_of_ble_eq_true rfl) dw_815 rfl ?_
  refine r_st (cm_cl sx σm sm) ?_
  exact r_lc_eq C (t := 1629) (q := 819) (q2 := 822) dw_818 rfl dw_819 (by decide) rfl (fun _ => hk sx sm hRR) (fun c => absurd rfl c)
theorem lc_17 {X : CxT} {l : Launch} {h1 h2 : Nat → Nat} {g : va_G × ClassId × ClassId × ClassId} (C : Cx X l (lW h1 h2 g) 4 code R_law lw_tbl ret room_1) {b L : Nat} {xs : Nat → Int32} (hX : va_X b L xs X.s X.s.heap) (hbl : b < X.s.heap.size) (hbA : ¬ xA (lW h1 h2 g) X.s.heap.size b) (hL : L < 2147483648) {N : Nat} {RR : St → St → Prop} {σx σm : St} (hS : ∀ a0 : Int, i32 a0 → ∀ a1 : Int, i32 a1 → ∀ a2 : Int, i32 a2 → ∀ a3 : Int, i32 a3 → OKp RR (x_belief N a0 a1 a2 a3 σx) (m_belief N a0 a1 a2 a3 σm)) {v3 : Int} (hv : 0 ≤ v3) (hv2 : v3 + 8 ≤ L) (hk : ∀ sx sm, RR sx sm → Rj X (lW h1 h2 g) 4 (lw_Z X.below #[Value.ref b] X.s) 1629 [(0, .ref b), (1, .ref (h1 0)), (2, .ref (h2 0)), (3, vI v3)] [] (cm sx sm)) : Rj X (lW h1 h2 g) 4 (lw_Z X.below #[Value.ref b] X.s) 824 [(0, .ref b), (1, .ref (h1 0)), (2, .ref (h2 0)), (3, vI v3)] [] (cm σx σm) := by
  refine r_aload_n C (q := 825) 1 dw_824 rfl rfl rfl ?_
  refine r_aload_n C (q := 826) 0 dw_825 rfl rfl rfl ?_
  refine r_iload_n C (q := 827) 3 dw_826 rfl rfl rfl ?_
  refine r_iconst C (q := 828) dw_827 rfl ?_
  refine r_iadd C (q := 829) dw_828 rfl ?_
  refine r_sld C (q := 830) hX hbl hbA hL ⟨by omega, by omega⟩ dw_829 rfl ?_
  refine r_aload_n C (q := 831) 0 dw_830 rfl rfl rfl ?_
  refine r_iload_n C (q := 832) 3 dw_831 rfl rfl rfl ?_
  refine r_iconst C (q := 833) dw_832 rfl ?_
  refine r_iadd C (q := 834) dw_833 rfl ?_
  refine r_sld C (q := 835) hX hbl hbA hL ⟨by omega, by omega⟩ dw_834 rfl ?_
  refine r_aload_n C (q := 836) 0 dw_835 rfl rfl rfl ?_
  refine r_iload_n C (q := 837) 3 dw_836 rfl rfl rfl ?_
  refine r_iconst C (q := 838) dw_837 rfl ?_
  refine r_iadd C (q := 839) dw_838 rfl ?_
  refine r_sld C (q := 840) hX hbl hbA hL ⟨by omega, by omega⟩ dw_839 rfl ?_
  refine r_aload_n C (q := 841) 0 dw_840 rfl rfl rfl ?_
  refine r_iload_n C (q := 842) 3 dw_841 rfl rfl rfl ?_
  refine r_iconst C (q := 843) dw_842 rfl ?_
  refine r_iadd C (q := 844) dw_843 rfl ?_
  refine r_sld C (q := 845) hX hbl hbA hL ⟨by omega, by omega⟩ dw_844 rfl ?_
  obtain ⟨r1, sx, sm, hx, hm, hRR⟩ := hS ((xs (v3 + 1).toNat).toInt) (sc_r _) ((xs (v3 + 2).toNat).toInt) (sc_r _) ((xs (v3 + 3).toNat).toInt) (sc_r _) ((xs (v3 + 4).toNat).toInt) (sc_r _)
  refine r_eI (emb_x h1 h2 g) C (k0 := 0) (As := [vI ((xs (v3 + 1).toNat).toInt), vI ((xs (v3 + 2).toNat).toInt), vI ((xs (v3 + 3).toNat).toInt), vI ((xs (v3 + 4).toNat).toInt)]) (σ' := cm sx σm) (c_x_belief (emb_i (emb_x h1 h2 g) C.i) hx) (cm_x σx σm) (cm_x sx σm) (cm_xo σx sx σm) mt_O_belief ml_Law_88 (Nat.le_of_ble_eq_true rfl) rfl rfl rfl (q := 848) rfl rfl rfl ⟨Nat.le_of_ble_eq_true rfl, Nat.le_of_ble_eq_true rfl⟩ rfl (Nat.le_of_ble_eq_true rfl) dw_845 rfl ?_
  refine r_aload_n C (q := 849) 2 dw_848 rfl rfl rfl ?_
  refine r_aload_n C (q := 850) 0 dw_849 rfl rfl rfl ?_
  refine r_iload_n C (q := 851) 3 dw_850 rfl rfl rfl ?_
  refine r_iconst C (q := 852) dw_851 rfl ?_
  refine r_iadd C (q := 853) dw_852 rfl ?_
  refine r_sld C (q := 854) hX hbl hbA hL ⟨by omega, by omega⟩ dw_853 rfl ?_
  refine r_aload_n C (q := 855) 0 dw_854 rfl rfl rfl ?_
  refine r_iload_n C (q := 856) 3 dw_855 rfl rfl rfl ?_
  refine r_iconst C (q := 857) dw_856 rfl ?_
  refine r_iadd C (q := 858) dw_857 rfl ?_
  refine r_sld C (q := 859) hX hbl hbA hL ⟨by omega, by omega⟩ dw_858 rfl ?_
  refine r_aload_n C (q := 860) 0 dw_859 rfl rfl rfl ?_
  refine r_iload_n C (q := 861) 3 dw_860 rfl rfl rfl ?_
  refine r_iconst C (q := 862) dw_861 rfl ?_
  refine r_iadd C (q := 863) dw_862 rfl ?_
  refine r_sld C (q := 864) hX hbl hbA hL ⟨by omega, by omega⟩ dw_863 rfl ?_
  refine r_aload_n C (q := 865) 0 dw_864 rfl rfl rfl ?_
  refine r_iload_n C (q := 866) 3 dw_865 rfl rfl rfl ?_
  refine r_iconst C (q := 867) dw_866 rfl ?_
  refine r_iadd C (q := 868) dw_867 rfl ?_
  refine r_sld C (q := 869) hX hbl hbA hL ⟨by omega, by omega⟩ dw_868 rfl ?_
  refine r_eI (emb_m h1 h2 g) C (k0 := 0) (As := [vI ((xs (v3 + 1).toNat).toInt), vI ((xs (v3 + 2).toNat).toInt), vI ((xs (v3 + 3).toNat).toInt), vI ((xs (v3 + 4).toNat).toInt)]) (σ' := cm sx (cl38 σm sm)) (c_m_belief (emb_i (emb_m h1 h2 g) C.i) hm) (cm_m sx σm) (cm_ml sx σm sm) (cm_mo sx σm sm) mt_M_belief ml_Law_92 (Nat.le_of_ble_eq_true rfl) rfl rfl rfl (q := 872) rfl rfl rfl ⟨Nat.le_of_ble_eq_true rfl, Nat.le_of_ble_eq_true rfl⟩ rfl (Nat.le_of_ble_eq_true rfl) dw_869 rfl ?_
  refine r_st (cm_cl sx σm sm) ?_
  exact r_ic_eq C (t := 1629) (q := 875) dw_872 (by decide) rfl (fun _ => hk sx sm hRR) (fun c => absurd rfl c)
theorem lc_18 {X : CxT} {l : Launch} {h1 h2 : Nat → Nat} {g : va_G × ClassId × ClassId × ClassId} (C : Cx X l (lW h1 h2 g) 4 code R_law lw_tbl ret room_1) {b L : Nat} {xs : Nat → Int32} (hX : va_X b L xs X.s X.s.heap) (hbl : b < X.s.heap.size) (hbA : ¬ xA (lW h1 h2 g) X.s.heap.size b) (hL : L < 2147483648) {N : Nat} {RR : St → St → Prop} {σx σm : St} (hS : ∀ a0 : Int, i32 a0 → OKp RR (x_line N a0 σx) (m_line N a0 σm)) {v3 : Int} (hv : 0 ≤ v3) (hv2 : v3 + 8 ≤ L) (hk : ∀ sx sm, RR sx sm → Rj X (lW h1 h2 g) 4 (lw_Z X.below #[Value.ref b] X.s) 1629 [(0, .ref b), (1, .ref (h1 0)), (2, .ref (h2 0)), (3, vI v3)] [] (cm sx sm)) : Rj X (lW h1 h2 g) 4 (lw_Z X.below #[Value.ref b] X.s) 877 [(0, .ref b), (1, .ref (h1 0)), (2, .ref (h2 0)), (3, vI v3)] [] (cm σx σm) := by
  refine r_aload_n C (q := 878) 1 dw_877 rfl rfl rfl ?_
  refine r_aload_n C (q := 879) 0 dw_878 rfl rfl rfl ?_
  refine r_iload_n C (q := 880) 3 dw_879 rfl rfl rfl ?_
  refine r_iconst C (q := 881) dw_880 rfl ?_
  refine r_iadd C (q := 882) dw_881 rfl ?_
  refine r_sld C (q := 883) hX hbl hbA hL ⟨by omega, by omega⟩ dw_882 rfl ?_
  obtain ⟨r1, sx, sm, hx, hm, hRR⟩ := hS ((xs (v3 + 1).toNat).toInt) (sc_r _)
  refine r_eI (emb_x h1 h2 g) C (k0 := 0) (As := [vI ((xs (v3 + 1).toNat).toInt)]) (σ' := cm sx σm) (c_x_line (emb_i (emb_x h1 h2 g) C.i) hx) (cm_x σx σm) (cm_x sx σm) (cm_xo σx sx σm) mt_O_line ml_Law_93 (Nat.le_of_ble_eq_true rfl) rfl rfl rfl (q := 886) rfl rfl rfl ⟨Nat.le_of_ble_eq_true rfl, Nat.le_of_ble_eq_true rfl⟩ rfl (Nat.le_of_ble_eq_true rfl) dw_883 rfl ?_
  refine r_aload_n C (q := 887) 2 dw_886 rfl rfl rfl ?_
  refine r_aload_n C (q := 888) 0 dw_887 rfl rfl rfl ?_
  refine r_iload_n C (q := 889) 3 dw_888 rfl rfl rfl ?_
  refine r_iconst C (q := 890) dw_889 rfl ?_
  refine r_iadd C (q := 891) dw_890 rfl ?_
  refine r_sld C (q := 892) hX hbl hbA hL ⟨by omega, by omega⟩ dw_891 rfl ?_
  refine r_eI (emb_m h1 h2 g) C (k0 := 0) (As := [vI ((xs (v3 + 1).toNat).toInt)]) (σ' := cm sx (cl38 σm sm)) (c_m_line (emb_i (emb_m h1 h2 g) C.i) hm) (cm_m sx σm) (cm_ml sx σm sm) (cm_mo sx σm sm) mt_M_line ml_Law_96 (Nat.le_of_ble_eq_true rfl) rfl rfl rfl (q := 895) rfl rfl rfl ⟨Nat.le_of_ble_eq_true rfl, Nat.le_of_ble_eq_true rfl⟩ rfl (Nat.le_of_ble_eq_true rfl) dw_892 rfl ?_
  refine r_st (cm_cl sx σm sm) ?_
  exact r_ic_eq C (t := 1629) (q := 898) dw_895 (by decide) rfl (fun _ => hk sx sm hRR) (fun c => absurd rfl c)
theorem lc_19 {X : CxT} {l : Launch} {h1 h2 : Nat → Nat} {g : va_G × ClassId × ClassId × ClassId} (C : Cx X l (lW h1 h2 g) 4 code R_law lw_tbl ret room_1) {b L : Nat} {xs : Nat → Int32} (hX : va_X b L xs X.s X.s.heap) (hbl : b < X.s.heap.size) (hbA : ¬ xA (lW h1 h2 g) X.s.heap.size b) (hL : L < 2147483648) {N : Nat} {RR : St → St → Prop} {σx σm : St} (hS : OKp RR (x_links N σx) (m_links N σm)) {v3 : Int} (hv : 0 ≤ v3) (hv2 : v3 + 8 ≤ L) (hk : ∀ sx sm, RR sx sm → Rj X (lW h1 h2 g) 4 (lw_Z X.below #[Value.ref b] X.s) 1629 [(0, .ref b), (1, .ref (h1 0)), (2, .ref (h2 0)), (3, vI v3)] [] (cm sx sm)) : Rj X (lW h1 h2 g) 4 (lw_Z X.below #[Value.ref b] X.s) 900 [(0, .ref b), (1, .ref (h1 0)), (2, .ref (h2 0)), (3, vI v3)] [] (cm σx σm) := by
  refine r_aload_n C (q := 901) 1 dw_900 rfl rfl rfl ?_
  obtain ⟨r1, sx, sm, hx, hm, hRR⟩ := hS 
  refine r_eI (emb_x h1 h2 g) C (k0 := 0) (As := []) (σ' := cm sx σm) (c_x_links (emb_i (emb_x h1 h2 g) C.i) hx) (cm_x σx σm) (cm_x sx σm) (cm_xo σx sx σm) mt_O_links ml_Law_97 (Nat.le_of_ble_eq_true rfl) rfl rfl rfl (q := 904) rfl rfl rfl ⟨Nat.le_of_ble_eq_true rfl, Nat.le_of_ble_eq_true rfl⟩ rfl (Nat.le_of_ble_eq_true rfl) dw_901 rfl ?_
  refine r_aload_n C (q := 905) 2 dw_904 rfl rfl rfl ?_
  refine r_eI (emb_m h1 h2 g) C (k0 := 0) (As := []) (σ' := cm sx (cl38 σm sm)) (c_m_links (emb_i (emb_m h1 h2 g) C.i) hm) (cm_m sx σm) (cm_ml sx σm sm) (cm_mo sx σm sm) mt_M_links ml_Law_100 (Nat.le_of_ble_eq_true rfl) rfl rfl rfl (q := 908) rfl rfl rfl ⟨Nat.le_of_ble_eq_true rfl, Nat.le_of_ble_eq_true rfl⟩ rfl (Nat.le_of_ble_eq_true rfl) dw_905 rfl ?_
  refine r_st (cm_cl sx σm sm) ?_
  exact r_ic_eq C (t := 1629) (q := 911) dw_908 (by decide) rfl (fun _ => hk sx sm hRR) (fun c => absurd rfl c)
theorem lc_20 {X : CxT} {l : Launch} {h1 h2 : Nat → Nat} {g : va_G × ClassId × ClassId × ClassId} (C : Cx X l (lW h1 h2 g) 4 code R_law lw_tbl ret room_1) {b L : Nat} {xs : Nat → Int32} (hX : va_X b L xs X.s X.s.heap) (hbl : b < X.s.heap.size) (hbA : ¬ xA (lW h1 h2 g) X.s.heap.size b) (hL : L < 2147483648) {N : Nat} {RR : St → St → Prop} {σx σm : St} (hS : ∀ a0 : Int, i32 a0 → ∀ a1 : Int, i32 a1 → ∀ a2 : Int, i32 a2 → OKp RR (x_laid N a0 a1 a2 σx) (m_laid N a0 a1 a2 σm)) {v3 : Int} (hv : 0 ≤ v3) (hv2 : v3 + 8 ≤ L) (hk : ∀ sx sm, RR sx sm → Rj X (lW h1 h2 g) 4 (lw_Z X.below #[Value.ref b] X.s) 1629 [(0, .ref b), (1, .ref (h1 0)), (2, .ref (h2 0)), (3, vI v3)] [] (cm sx sm)) : Rj X (lW h1 h2 g) 4 (lw_Z X.below #[Value.ref b] X.s) 913 [(0, .ref b), (1, .ref (h1 0)), (2, .ref (h2 0)), (3, vI v3)] [] (cm σx σm) := by
  refine r_aload_n C (q := 914) 1 dw_913 rfl rfl rfl ?_
  refine r_aload_n C (q := 915) 0 dw_914 rfl rfl rfl ?_
  refine r_iload_n C (q := 916) 3 dw_915 rfl rfl rfl ?_
  refine r_iconst C (q := 917) dw_916 rfl ?_
  refine r_iadd C (q := 918) dw_917 rfl ?_
  refine r_sld C (q := 919) hX hbl hbA hL ⟨by omega, by omega⟩ dw_918 rfl ?_
  refine r_aload_n C (q := 920) 0 dw_919 rfl rfl rfl ?_
  refine r_iload_n C (q := 921) 3 dw_920 rfl rfl rfl ?_
  refine r_iconst C (q := 922) dw_921 rfl ?_
  refine r_iadd C (q := 923) dw_922 rfl ?_
  refine r_sld C (q := 924) hX hbl hbA hL ⟨by omega, by omega⟩ dw_923 rfl ?_
  refine r_aload_n C (q := 925) 0 dw_924 rfl rfl rfl ?_
  refine r_iload_n C (q := 926) 3 dw_925 rfl rfl rfl ?_
  refine r_iconst C (q := 927) dw_926 rfl ?_
  refine r_iadd C (q := 928) dw_927 rfl ?_
  refine r_sld C (q := 929) hX hbl hbA hL ⟨by omega, by omega⟩ dw_928 rfl ?_
  obtain ⟨r1, sx, sm, hx, hm, hRR⟩ := hS ((xs (v3 + 1).toNat).toInt) (sc_r _) ((xs (v3 + 2).toNat).toInt) (sc_r _) ((xs (v3 + 3).toNat).toInt) (sc_r _)
  refine r_eI (emb_x h1 h2 g) C (k0 := 0) (As := [vI ((xs (v3 + 1).toNat).toInt), vI ((xs (v3 + 2).toNat).toInt), vI ((xs (v3 + 3).toNat).toInt)]) (σ' := cm sx σm) (c_x_laid (emb_i (emb_x h1 h2 g) C.i) hx) (cm_x σx σm) (cm_x sx σm) (cm_xo σx sx σm) mt_O_laid ml_Law_101 (Nat.le_of_ble_eq_true rfl) rfl rfl rfl (q := 932) rfl rfl rfl ⟨Nat.le_of_ble_eq_true rfl, Nat.le_of_ble_eq_true rfl⟩ rfl (Nat.le_of_ble_eq_true rfl) dw_929 rfl ?_
  refine r_aload_n C (q := 933) 2 dw_932 rfl rfl rfl ?_
  refine r_aload_n C (q := 934) 0 dw_933 rfl rfl rfl ?_
  refine r_iload_n C (q := 935) 3 dw_934 rfl rfl rfl ?_
  refine r_iconst C (q := 936) dw_935 rfl ?_
  refine r_iadd C (q := 937) dw_936 rfl ?_
  refine r_sld C (q := 938) hX hbl hbA hL ⟨by omega, by omega⟩ dw_937 rfl ?_
  refine r_aload_n C (q := 939) 0 dw_938 rfl rfl rfl ?_
  refine r_iload_n C (q := 940) 3 dw_939 rfl rfl rfl ?_
  refine r_iconst C (q := 941) dw_940 rfl ?_
  refine r_iadd C (q := 942) dw_941 rfl ?_
  refine r_sld C (q := 943) hX hbl hbA hL ⟨by omega, by omega⟩ dw_942 rfl ?_
  refine r_aload_n C (q := 944) 0 dw_943 rfl rfl rfl ?_
  refine r_iload_n C (q := 945) 3 dw_944 rfl rfl rfl ?_
  refine r_iconst C (q := 946) dw_945 rfl ?_
  refine r_iadd C (q := 947) dw_946 rfl ?_
  refine r_sld C (q := 948) hX hbl hbA hL ⟨by omega, by omega⟩ dw_947 rfl ?_
  refine r_eI (emb_m h1 h2 g) C (k0 := 0) (As := [vI ((xs (v3 + 1).toNat).toInt), vI ((xs (v3 + 2).toNat).toInt), vI ((xs (v3 + 3).toNat).toInt)]) (σ' := cm sx (cl38 σm sm)) (c_m_laid (emb_i (emb_m h1 h2 g) C.i) hm) (cm_m sx σm) (cm_ml sx σm sm) (cm_mo sx σm sm) mt_M_laid ml_Law_104 (Nat.le_of_ble_eq_true rfl) rfl rfl rfl (q := 951) rfl rfl rfl ⟨Nat.le_of_ble_eq_true rfl, Nat.le_of_ble_eq_true rfl⟩ rfl (Nat.le_of_ble_eq_true rfl) dw_948 rfl ?_
  refine r_st (cm_cl sx σm sm) ?_
  exact r_ic_eq C (t := 1629) (q := 954) dw_951 (by decide) rfl (fun _ => hk sx sm hRR) (fun c => absurd rfl c)
theorem lc_21 {X : CxT} {l : Launch} {h1 h2 : Nat → Nat} {g : va_G × ClassId × ClassId × ClassId} (C : Cx X l (lW h1 h2 g) 4 code R_law lw_tbl ret room_1) {b L : Nat} {xs : Nat → Int32} (hX : va_X b L xs X.s X.s.heap) (hbl : b < X.s.heap.size) (hbA : ¬ xA (lW h1 h2 g) X.s.heap.size b) (hL : L < 2147483648) {N : Nat} {RR : St → St → Prop} {σx σm : St} (hS : ∀ a0 : Int, i32 a0 → ∀ a1 : Int, i32 a1 → OKp RR (x_mate N a0 a1 σx) (m_mate N a0 a1 σm)) {v3 : Int} (hv : 0 ≤ v3) (hv2 : v3 + 8 ≤ L) (hk : ∀ sx sm, RR sx sm → Rj X (lW h1 h2 g) 4 (lw_Z X.below #[Value.ref b] X.s) 1629 [(0, .ref b), (1, .ref (h1 0)), (2, .ref (h2 0)), (3, vI v3)] [] (cm sx sm)) : Rj X (lW h1 h2 g) 4 (lw_Z X.below #[Value.ref b] X.s) 956 [(0, .ref b), (1, .ref (h1 0)), (2, .ref (h2 0)), (3, vI v3)] [] (cm σx σm) := by
  refine r_aload_n C (q := 957) 1 dw_956 rfl rfl rfl ?_
  refine r_aload_n C (q := 958) 0 dw_957 rfl rfl rfl ?_
  refine r_iload_n C (q := 959) 3 dw_958 rfl rfl rfl ?_
  refine r_iconst C (q := 960) dw_959 rfl ?_
  refine r_iadd C (q := 961) dw_960 rfl ?_
  refine r_sld C (q := 962) hX hbl hbA hL ⟨by omega, by omega⟩ dw_961 rfl ?_
  refine r_aload_n C (q := 963) 0 dw_962 rfl rfl rfl ?_
  refine r_iload_n C (q := 964) 3 dw_963 rfl rfl rfl ?_
  refine r_iconst C (q := 965) dw_964 rfl ?_
  refine r_iadd C (q := 966) dw_965 rfl ?_
  refine r_sld C (q := 967) hX hbl hbA hL ⟨by omega, by omega⟩ dw_966 rfl ?_
  obtain ⟨r1, sx, sm, hx, hm, hRR⟩ := hS ((xs (v3 + 1).toNat).toInt) (sc_r _) ((xs (v3 + 2).toNat).toInt) (sc_r _)
  refine r_eI (emb_x h1 h2 g) C (k0 := 0) (As := [vI ((xs (v3 + 1).toNat).toInt), vI ((xs (v3 + 2).toNat).toInt)]) (σ' := cm sx σm) (c_x_mate (emb_i (emb_x h1 h2 g) C.i) hx) (cm_x σx σm) (cm_x sx σm) (cm_xo σx sx σm) mt_O_mate ml_Law_105 (Nat.le_of_ble_eq_true rfl) rfl rfl rfl (q := 970) rfl rfl rfl ⟨Nat.le_of_ble_eq_true rfl, Nat.le_of_ble_eq_true rfl⟩ rfl (Nat.le_of_ble_eq_true rfl) dw_967 rfl ?_
  refine r_aload_n C (q := 971) 2 dw_970 rfl rfl rfl ?_
  refine r_aload_n C (q := 972) 0 dw_971 rfl rfl rfl ?_
  refine r_iload_n C (q := 973) 3 dw_972 rfl rfl rfl ?_
  refine r_iconst C (q := 974) dw_973 rfl ?_
  refine r_iadd C (q := 975) dw_974 rfl ?_
  refine r_sld C (q := 976) hX hbl hbA hL ⟨by omega, by omega⟩ dw_975 rfl ?_
  refine r_aload_n C (q := 977) 0 dw_976 rfl rfl rfl ?_
  refine r_iload_n C (q := 978) 3 dw_977 rfl rfl rfl ?_
  refine r_iconst C (q := 979) dw_978 rfl ?_
  refine r_iadd C (q := 980) dw_979 rfl ?_
  refine r_sld C (q := 981) hX hbl hbA hL ⟨by omega, by omega⟩ dw_980 rfl ?_
  refine r_eI (emb_m h1 h2 g) C (k0 := 0) (As := [vI ((xs (v3 + 1).toNat).toInt), vI ((xs (v3 + 2).toNat).toInt)]) (σ' := cm sx (cl38 σm sm)) (c_m_mate (emb_i (emb_m h1 h2 g) C.i) hm) (cm_m sx σm) (cm_ml sx σm sm) (cm_mo sx σm sm) mt_M_mate ml_Law_108 (Nat.le_of_ble_eq_true rfl) rfl rfl rfl (q := 984) rfl rfl rfl ⟨Nat.le_of_ble_eq_true rfl, Nat.le_of_ble_eq_true rfl⟩ rfl (Nat.le_of_ble_eq_true rfl) dw_981 rfl ?_
  refine r_st (cm_cl sx σm sm) ?_
  exact r_ic_eq C (t := 1629) (q := 987) dw_984 (by decide) rfl (fun _ => hk sx sm hRR) (fun c => absurd rfl c)
theorem lc_22 {X : CxT} {l : Launch} {h1 h2 : Nat → Nat} {g : va_G × ClassId × ClassId × ClassId} (C : Cx X l (lW h1 h2 g) 4 code R_law lw_tbl ret room_1) {b L : Nat} {xs : Nat → Int32} (hX : va_X b L xs X.s X.s.heap) (hbl : b < X.s.heap.size) (hbA : ¬ xA (lW h1 h2 g) X.s.heap.size b) (hL : L < 2147483648) {N : Nat} {RR : St → St → Prop} {σx σm : St} (hS : ∀ a0 : Int, i32 a0 → OKp RR (x_bundle N a0 σx) (m_bundle N a0 σm)) {v3 : Int} (hv : 0 ≤ v3) (hv2 : v3 + 8 ≤ L) (hk : ∀ sx sm, RR sx sm → Rj X (lW h1 h2 g) 4 (lw_Z X.below #[Value.ref b] X.s) 1629 [(0, .ref b), (1, .ref (h1 0)), (2, .ref (h2 0)), (3, vI v3)] [] (cm sx sm)) : Rj X (lW h1 h2 g) 4 (lw_Z X.below #[Value.ref b] X.s) 989 [(0, .ref b), (1, .ref (h1 0)), (2, .ref (h2 0)), (3, vI v3)] [] (cm σx σm) := by
  refine r_aload_n C (q := 990) 1 dw_989 rfl rfl rfl ?_
  refine r_aload_n C (q := 991) 0 dw_990 rfl rfl rfl ?_
  refine r_iload_n C (q := 992) 3 dw_991 rfl rfl rfl ?_
  refine r_iconst C (q := 993) dw_992 rfl ?_
  refine r_iadd C (q := 994) dw_993 rfl ?_
  refine r_sld C (q := 995) hX hbl hbA hL ⟨by omega, by omega⟩ dw_994 rfl ?_
  obtain ⟨r1, sx, sm, hx, hm, hRR⟩ := hS ((xs (v3 + 1).toNat).toInt) (sc_r _)
  refine r_eI (emb_x h1 h2 g) C (k0 := 0) (As := [vI ((xs (v3 + 1).toNat).toInt)]) (σ' := cm sx σm) (c_x_bundle (emb_i (emb_x h1 h2 g) C.i) hx) (cm_x σx σm) (cm_x sx σm) (cm_xo σx sx σm) mt_O_bundle ml_Law_109 (Nat.le_of_ble_eq_true rfl) rfl rfl rfl (q := 998) rfl rfl rfl ⟨Nat.le_of_ble_eq_true rfl, Nat.le_of_ble_eq_true rfl⟩ rfl (Nat.le_of_ble_eq_true rfl) dw_995 rfl ?_
  refine r_aload_n C (q := 999) 2 dw_998 rfl rfl rfl ?_
  refine r_aload_n C (q := 1000) 0 dw_999 rfl rfl rfl ?_
  refine r_iload_n C (q := 1001) 3 dw_1000 rfl rfl rfl ?_
  refine r_iconst C (q := 1002) dw_1001 rfl ?_
  refine r_iadd C (q := 1003) dw_1002 rfl ?_
  refine r_sld C (q := 1004) hX hbl hbA hL ⟨by omega, by omega⟩ dw_1003 rfl ?_
  refine r_eI (emb_m h1 h2 g) C (k0 := 0) (As := [vI ((xs (v3 + 1).toNat).toInt)]) (σ' := cm sx (cl38 σm sm)) (c_m_bundle (emb_i (emb_m h1 h2 g) C.i) hm) (cm_m sx σm) (cm_ml sx σm sm) (cm_mo sx σm sm) mt_M_bundle ml_Law_112 (Nat.le_of_ble_eq_true rfl) rfl rfl rfl (q := 1007) rfl rfl rfl ⟨Nat.le_of_ble_eq_true rfl, Nat.le_of_ble_eq_true rfl⟩ rfl (Nat.le_of_ble_eq_true rfl) dw_1004 rfl ?_
  refine r_st (cm_cl sx σm sm) ?_
  exact r_ic_eq C (t := 1629) (q := 1010) dw_1007 (by decide) rfl (fun _ => hk sx sm hRR) (fun c => absurd rfl c)
theorem lc_23 {X : CxT} {l : Launch} {h1 h2 : Nat → Nat} {g : va_G × ClassId × ClassId × ClassId} (C : Cx X l (lW h1 h2 g) 4 code R_law lw_tbl ret room_1) {b L : Nat} {xs : Nat → Int32} (hX : va_X b L xs X.s X.s.heap) (hbl : b < X.s.heap.size) (hbA : ¬ xA (lW h1 h2 g) X.s.heap.size b) (hL : L < 2147483648) {N : Nat} {RR : St → St → Prop} {σx σm : St} (hS : ∀ a0 : Int, i32 a0 → OKp RR (x_bundles N a0 σx) (m_bundles N a0 σm)) {v3 : Int} (hv : 0 ≤ v3) (hv2 : v3 + 8 ≤ L) (hk : ∀ sx sm, RR sx sm → Rj X (lW h1 h2 g) 4 (lw_Z X.below #[Value.ref b] X.s) 1629 [(0, .ref b), (1, .ref (h1 0)), (2, .ref (h2 0)), (3, vI v3)] [] (cm sx sm)) : Rj X (lW h1 h2 g) 4 (lw_Z X.below #[Value.ref b] X.s) 1012 [(0, .ref b), (1, .ref (h1 0)), (2, .ref (h2 0)), (3, vI v3)] [] (cm σx σm) := by
  refine r_aload_n C (q := 1013) 1 dw_1012 rfl rfl rfl ?_
  refine r_aload_n C (q := 1014) 0 dw_1013 rfl rfl rfl ?_
  refine r_iload_n C (q := 1015) 3 dw_1014 rfl rfl rfl ?_
  refine r_iconst C (q := 1016) dw_1015 rfl ?_
  refine r_iadd C (q := 1017) dw_1016 rfl ?_
  refine r_sld C (q := 1018) hX hbl hbA hL ⟨by omega, by omega⟩ dw_1017 rfl ?_
  obtain ⟨r1, sx, sm, hx, hm, hRR⟩ := hS ((xs (v3 + 1).toNat).toInt) (sc_r _)
  refine r_eI (emb_x h1 h2 g) C (k0 := 0) (As := [vI ((xs (v3 + 1).toNat).toInt)]) (σ' := cm sx σm) (c_x_bundles (emb_i (emb_x h1 h2 g) C.i) hx) (cm_x σx σm) (cm_x sx σm) (cm_xo σx sx σm) mt_O_bundles ml_Law_113 (Nat.le_of_ble_eq_true rfl) rfl rfl rfl (q := 1021) rfl rfl rfl ⟨Nat.le_of_ble_eq_true rfl, Nat.le_of_ble_eq_true rfl⟩ rfl (Nat.le_of_ble_eq_true rfl) dw_1018 rfl ?_
  refine r_aload_n C (q := 1022) 2 dw_1021 rfl rfl rfl ?_
  refine r_aload_n C (q := 1023) 0 dw_1022 rfl rfl rfl ?_
  refine r_iload_n C (q := 1024) 3 dw_1023 rfl rfl rfl ?_
  refine r_iconst C (q := 1025) dw_1024 rfl ?_
  refine r_iadd C (q := 1026) dw_1025 rfl ?_
  refine r_sld C (q := 1027) hX hbl hbA hL ⟨by omega, by omega⟩ dw_1026 rfl ?_
  refine r_eI (emb_m h1 h2 g) C (k0 := 0) (As := [vI ((xs (v3 + 1).toNat).toInt)]) (σ' := cm sx (cl38 σm sm)) (c_m_bundles (emb_i (emb_m h1 h2 g) C.i) hm) (cm_m sx σm) (cm_ml sx σm sm) (cm_mo sx σm sm) mt_M_bundles ml_Law_116 (Nat.le_of_ble_eq_true rfl) rfl rfl rfl (q := 1030) rfl rfl rfl ⟨Nat.le_of_ble_eq_true rfl, Nat.le_of_ble_eq_true rfl⟩ rfl (Nat.le_of_ble_eq_true rfl) dw_1027 rfl ?_
  refine r_st (cm_cl sx σm sm) ?_
  exact r_ic_eq C (t := 1629) (q := 1033) dw_1030 (by decide) rfl (fun _ => hk sx sm hRR) (fun c => absurd rfl c)
theorem lc_24 {X : CxT} {l : Launch} {h1 h2 : Nat → Nat} {g : va_G × ClassId × ClassId × ClassId} (C : Cx X l (lW h1 h2 g) 4 code R_law lw_tbl ret room_1) {b L : Nat} {xs : Nat → Int32} (hX : va_X b L xs X.s X.s.heap) (hbl : b < X.s.heap.size) (hbA : ¬ xA (lW h1 h2 g) X.s.heap.size b) (hL : L < 2147483648) {N : Nat} {RR : St → St → Prop} {σx σm : St} (hS : ∀ a0 : Int, i32 a0 → OKp RR (x_torn N a0 σx) (m_torn N a0 σm)) {v3 : Int} (hv : 0 ≤ v3) (hv2 : v3 + 8 ≤ L) (hk : ∀ sx sm, RR sx sm → Rj X (lW h1 h2 g) 4 (lw_Z X.below #[Value.ref b] X.s) 1629 [(0, .ref b), (1, .ref (h1 0)), (2, .ref (h2 0)), (3, vI v3)] [] (cm sx sm)) : Rj X (lW h1 h2 g) 4 (lw_Z X.below #[Value.ref b] X.s) 1035 [(0, .ref b), (1, .ref (h1 0)), (2, .ref (h2 0)), (3, vI v3)] [] (cm σx σm) := by
  refine r_aload_n C (q := 1036) 1 dw_1035 rfl rfl rfl ?_
  refine r_aload_n C (q := 1037) 0 dw_1036 rfl rfl rfl ?_
  refine r_iload_n C (q := 1038) 3 dw_1037 rfl rfl rfl ?_
  refine r_iconst C (q := 1039) dw_1038 rfl ?_
  refine r_iadd C (q := 1040) dw_1039 rfl ?_
  refine r_sld C (q := 1041) hX hbl hbA hL ⟨by omega, by omega⟩ dw_1040 rfl ?_
  obtain ⟨r1, sx, sm, hx, hm, hRR⟩ := hS ((xs (v3 + 1).toNat).toInt) (sc_r _)
  refine r_eI (emb_x h1 h2 g) C (k0 := 0) (As := [vI ((xs (v3 + 1).toNat).toInt)]) (σ' := cm sx σm) (c_x_torn (emb_i (emb_x h1 h2 g) C.i) hx) (cm_x σx σm) (cm_x sx σm) (cm_xo σx sx σm) mt_O_torn ml_Law_117 (Nat.le_of_ble_eq_true rfl) rfl rfl rfl (q := 1044) rfl rfl rfl ⟨Nat.le_of_ble_eq_true rfl, Nat.le_of_ble_eq_true rfl⟩ rfl (Nat.le_of_ble_eq_true rfl) dw_1041 rfl ?_
  refine r_aload_n C (q := 1045) 2 dw_1044 rfl rfl rfl ?_
  refine r_aload_n C (q := 1046) 0 dw_1045 rfl rfl rfl ?_
  refine r_iload_n C (q := 1047) 3 dw_1046 rfl rfl rfl ?_
  refine r_iconst C (q := 1048) dw_1047 rfl ?_
  refine r_iadd C (q := 1049) dw_1048 rfl ?_
  refine r_sld C (q := 1050) hX hbl hbA hL ⟨by omega, by omega⟩ dw_1049 rfl ?_
  refine r_eI (emb_m h1 h2 g) C (k0 := 0) (As := [vI ((xs (v3 + 1).toNat).toInt)]) (σ' := cm sx (cl38 σm sm)) (c_m_torn (emb_i (emb_m h1 h2 g) C.i) hm) (cm_m sx σm) (cm_ml sx σm sm) (cm_mo sx σm sm) mt_M_torn ml_Law_120 (Nat.le_of_ble_eq_true rfl) rfl rfl rfl (q := 1053) rfl rfl rfl ⟨Nat.le_of_ble_eq_true rfl, Nat.le_of_ble_eq_true rfl⟩ rfl (Nat.le_of_ble_eq_true rfl) dw_1050 rfl ?_
  refine r_st (cm_cl sx σm sm) ?_
  exact r_ic_eq C (t := 1629) (q := 1056) dw_1053 (by decide) rfl (fun _ => hk sx sm hRR) (fun c => absurd rfl c)
theorem lc_25 {X : CxT} {l : Launch} {h1 h2 : Nat → Nat} {g : va_G × ClassId × ClassId × ClassId} (C : Cx X l (lW h1 h2 g) 4 code R_law lw_tbl ret room_1) {b L : Nat} {xs : Nat → Int32} (hX : va_X b L xs X.s X.s.heap) (hbl : b < X.s.heap.size) (hbA : ¬ xA (lW h1 h2 g) X.s.heap.size b) (hL : L < 2147483648) {N : Nat} {RR : St → St → Prop} {σx σm : St} (hS : ∀ a0 : Int, i32 a0 → ∀ a1 : Int, i32 a1 → OKp RR (x_cut N a0 a1 σx) (m_cut N a0 a1 σm)) {v3 : Int} (hv : 0 ≤ v3) (hv2 : v3 + 8 ≤ L) (hk : ∀ sx sm, RR sx sm → Rj X (lW h1 h2 g) 4 (lw_Z X.below #[Value.ref b] X.s) 1629 [(0, .ref b), (1, .ref (h1 0)), (2, .ref (h2 0)), (3, vI v3)] [] (cm sx sm)) : Rj X (lW h1 h2 g) 4 (lw_Z X.below #[Value.ref b] X.s) 1058 [(0, .ref b), (1, .ref (h1 0)), (2, .ref (h2 0)), (3, vI v3)] [] (cm σx σm) := by
  refine r_aload_n C (q := 1059) 1 dw_1058 rfl rfl rfl ?_
  refine r_aload_n C (q := 1060) 0 dw_1059 rfl rfl rfl ?_
  refine r_iload_n C (q := 1061) 3 dw_1060 rfl rfl rfl ?_
  refine r_iconst C (q := 1062) dw_1061 rfl ?_
  refine r_iadd C (q := 1063) dw_1062 rfl ?_
  refine r_sld C (q := 1064) hX hbl hbA hL ⟨by omega, by omega⟩ dw_1063 rfl ?_
  refine r_aload_n C (q := 1065) 0 dw_1064 rfl rfl rfl ?_
  refine r_iload_n C (q := 1066) 3 dw_1065 rfl rfl rfl ?_
  refine r_iconst C (q := 1067) dw_1066 rfl ?_
  refine r_iadd C (q := 1068) dw_1067 rfl ?_
  refine r_sld C (q := 1069) hX hbl hbA hL ⟨by omega, by omega⟩ dw_1068 rfl ?_
  obtain ⟨r1, sx, sm, hx, hm, hRR⟩ := hS ((xs (v3 + 1).toNat).toInt) (sc_r _) ((xs (v3 + 2).toNat).toInt) (sc_r _)
  refine r_eI (emb_x h1 h2 g) C (k0 := 0) (As := [vI ((xs (v3 + 1).toNat).toInt), vI ((xs (v3 + 2).toNat).toInt)]) (σ' := cm sx σm) (c_x_cut (emb_i (emb_x h1 h2 g) C.i) hx) (cm_x σx σm) (cm_x sx σm) (cm_xo σx sx σm) mt_O_cut ml_Law_121 (Nat.le_of_ble_eq_true rfl) rfl rfl rfl (q := 1072) rfl rfl rfl ⟨Nat.le_of_ble_eq_true rfl, Nat.le_of_ble_eq_true rfl⟩ rfl (Nat.le_of_ble_eq_true rfl) dw_1069 rfl ?_
  refine r_aload_n C (q := 1073) 2 dw_1072 rfl rfl rfl ?_
  refine r_aload_n C (q := 1074) 0 dw_1073 rfl rfl rfl ?_
  refine r_iload_n C (q := 1075) 3 dw_1074 rfl rfl rfl ?_
  refine r_iconst C (q := 1076) dw_1075 rfl ?_
  refine r_iadd C (q := 1077) dw_1076 rfl ?_
  refine r_sld C (q := 1078) hX hbl hbA hL ⟨by omega, by omega⟩ dw_1077 rfl ?_
  refine r_aload_n C (q := 1079) 0 dw_1078 rfl rfl rfl ?_
  refine r_iload_n C (q := 1080) 3 dw_1079 rfl rfl rfl ?_
  refine r_iconst C (q := 1081) dw_1080 rfl ?_
  refine r_iadd C (q := 1082) dw_1081 rfl ?_
  refine r_sld C (q := 1083) hX hbl hbA hL ⟨by omega, by omega⟩ dw_1082 rfl ?_
  refine r_eI (emb_m h1 h2 g) C (k0 := 0) (As := [vI ((xs (v3 + 1).toNat).toInt), vI ((xs (v3 + 2).toNat).toInt)]) (σ' := cm sx (cl38 σm sm)) (c_m_cut (emb_i (emb_m h1 h2 g) C.i) hm) (cm_m sx σm) (cm_ml sx σm sm) (cm_mo sx σm sm) mt_M_cut ml_Law_124 (Nat.le_of_ble_eq_true rfl) rfl rfl rfl (q := 1086) rfl rfl rfl ⟨Nat.le_of_ble_eq_true rfl, Nat.le_of_ble_eq_true rfl⟩ rfl (Nat.le_of_ble_eq_true rfl) dw_1083 rfl ?_
  refine r_st (cm_cl sx σm sm) ?_
  exact r_ic_eq C (t := 1629) (q := 1089) dw_1086 (by decide) rfl (fun _ => hk sx sm hRR) (fun c => absurd rfl c)
theorem lc_26 {X : CxT} {l : Launch} {h1 h2 : Nat → Nat} {g : va_G × ClassId × ClassId × ClassId} (C : Cx X l (lW h1 h2 g) 4 code R_law lw_tbl ret room_1) {b L : Nat} {xs : Nat → Int32} (hX : va_X b L xs X.s X.s.heap) (hbl : b < X.s.heap.size) (hbA : ¬ xA (lW h1 h2 g) X.s.heap.size b) (hL : L < 2147483648) {N : Nat} {RR : St → St → Prop} {σx σm : St} (hS : ∀ a0 : Int, i32 a0 → ∀ a1 : Int, i32 a1 → ∀ a2 : Int, bit1 a2 → OKp RR (x_check N a0 a1 a2 σx) (m_check N a0 a1 a2 σm)) {v3 : Int} (hv : 0 ≤ v3) (hv2 : v3 + 8 ≤ L) (hk : ∀ sx sm, RR sx sm → Rj X (lW h1 h2 g) 4 (lw_Z X.below #[Value.ref b] X.s) 1629 [(0, .ref b), (1, .ref (h1 0)), (2, .ref (h2 0)), (3, vI v3)] [] (cm sx sm)) : Rj X (lW h1 h2 g) 4 (lw_Z X.below #[Value.ref b] X.s) 1091 [(0, .ref b), (1, .ref (h1 0)), (2, .ref (h2 0)), (3, vI v3)] [] (cm σx σm) := by
  refine r_aload_n C (q := 1092) 1 dw_1091 rfl rfl rfl ?_
  refine r_aload_n C (q := 1093) 0 dw_1092 rfl rfl rfl ?_
  refine r_iload_n C (q := 1094) 3 dw_1093 rfl rfl rfl ?_
  refine r_iconst C (q := 1095) dw_1094 rfl ?_
  refine r_iadd C (q := 1096) dw_1095 rfl ?_
  refine r_sld C (q := 1097) hX hbl hbA hL ⟨by omega, by omega⟩ dw_1096 rfl ?_
  refine r_aload_n C (q := 1098) 0 dw_1097 rfl rfl rfl ?_
  refine r_iload_n C (q := 1099) 3 dw_1098 rfl rfl rfl ?_
  refine r_iconst C (q := 1100) dw_1099 rfl ?_
  refine r_iadd C (q := 1101) dw_1100 rfl ?_
  refine r_sld C (q := 1102) hX hbl hbA hL ⟨by omega, by omega⟩ dw_1101 rfl ?_
  refine r_aload_n C (q := 1103) 0 dw_1102 rfl rfl rfl ?_
  refine r_iload_n C (q := 1104) 3 dw_1103 rfl rfl rfl ?_
  refine r_iconst C (q := 1105) dw_1104 rfl ?_
  refine r_iadd C (q := 1106) dw_1105 rfl ?_
  refine r_sld C (q := 1107) hX hbl hbA hL ⟨by omega, by omega⟩ dw_1106 rfl ?_
  refine r_if_eq C (t := 1114) (q := 1110) dw_1107 (by decide) rfl (fun c1107 => ?_) (fun c1107 => ?_)
  · refine r_iconst C (q := 1115) dw_1114 rfl ?_
    obtain ⟨r1, sx, sm, hx, hm, hRR⟩ := hS ((xs (v3 + 1).toNat).toInt) (sc_r _) ((xs (v3 + 2).toNat).toInt) (sc_r _) 0 (by decide)
    refine r_eI (emb_x h1 h2 g) C (k0 := 0) (As := [vI ((xs (v3 + 1).toNat).toInt), vI ((xs (v3 + 2).toNat).toInt), vI 0]) (σ' := cm sx σm) (c_x_check (emb_i (emb_x h1 h2 g) C.i) hx) (cm_x σx σm) (cm_x sx σm) (cm_xo σx sx σm) mt_O_check ml_Law_125 (Nat.le_of_ble_eq_true rfl) rfl rfl rfl (q := 1118) rfl rfl rfl ⟨Nat.le_of_ble_eq_true rfl, Nat.le_of_ble_eq_true rfl⟩ rfl (Nat.le_of_ble_eq_true rfl) dw_1115 rfl ?_
    refine r_aload_n C (q := 1119) 2 dw_1118 rfl rfl rfl ?_
    refine r_aload_n C (q := 1120) 0 dw_1119 rfl rfl rfl ?_
    refine r_iload_n C (q := 1121) 3 dw_1120 rfl rfl rfl ?_
    refine r_iconst C (q := 1122) dw_1121 rfl ?_
    refine r_iadd C (q := 1123) dw_1122 rfl ?_
    refine r_sld C (q := 1124) hX hbl hbA hL ⟨by omega, by omega⟩ dw_1123 rfl ?_
    refine r_aload_n C (q := 1125) 0 dw_1124 rfl rfl rfl ?_
    refine r_iload_n C (q := 1126) 3 dw_1125 rfl rfl rfl ?_
    refine r_iconst C (q := 1127) dw_1126 rfl ?_
    refine r_iadd C (q := 1128) dw_1127 rfl ?_
    refine r_sld C (q := 1129) hX hbl hbA hL ⟨by omega, by omega⟩ dw_1128 rfl ?_
    refine r_aload_n C (q := 1130) 0 dw_1129 rfl rfl rfl ?_
    refine r_iload_n C (q := 1131) 3 dw_1130 rfl rfl rfl ?_
    refine r_iconst C (q := 1132) dw_1131 rfl ?_
    refine r_iadd C (q := 1133) dw_1132 rfl ?_
    refine r_sld C (q := 1134) hX hbl hbA hL ⟨by omega, by omega⟩ dw_1133 rfl ?_
    refine r_if_eq C (t := 1141) (q := 1137) dw_1134 (by decide) rfl (fun c1134 => ?_) (fun c1134 => ?_)
    · refine r_iconst C (q := 1142) dw_1141 rfl ?_
      refine r_eI (emb_m h1 h2 g) C (k0 := 0) (As := [vI ((xs (v3 + 1).toNat).toInt), vI ((xs (v3 + 2).toNat).toInt), vI 0]) (σ' := cm sx (cl38 σm sm)) (c_m_check (emb_i (emb_m h1 h2 g) C.i) hm) (cm_m sx σm) (cm_ml sx σm sm) (cm_mo sx σm sm) mt_M_check ml_Law_129 (Nat.le_of_ble_eq_true rfl) rfl rfl rfl (q := 1145) rfl rfl rfl ⟨Nat.le_of_ble_eq_true rfl, Nat.le_of_ble_eq_true rfl⟩ rfl (Nat.le_of_ble_eq_true rfl) dw_1142 rfl ?_
      refine r_st (cm_cl sx σm sm) ?_
      exact r_ic_eq C (t := 1629) (q := 1148) dw_1145 (by decide) rfl (fun _ => hk sx sm hRR) (fun c => absurd rfl c)
    · exact absurd c1107 c1134
  · refine r_iconst C (q := 1111) dw_1110 rfl ?_
    refine r_goto C (q := 1115) dw_1111 (by decide) ?_
    obtain ⟨r1, sx, sm, hx, hm, hRR⟩ := hS ((xs (v3 + 1).toNat).toInt) (sc_r _) ((xs (v3 + 2).toNat).toInt) (sc_r _) 1 (by decide)
    refine r_eI (emb_x h1 h2 g) C (k0 := 0) (As := [vI ((xs (v3 + 1).toNat).toInt), vI ((xs (v3 + 2).toNat).toInt), vI 1]) (σ' := cm sx σm) (c_x_check (emb_i (emb_x h1 h2 g) C.i) hx) (cm_x σx σm) (cm_x sx σm) (cm_xo σx sx σm) mt_O_check ml_Law_125 (Nat.le_of_ble_eq_true rfl) rfl rfl rfl (q := 1118) rfl rfl rfl ⟨Nat.le_of_ble_eq_true rfl, Nat.le_of_ble_eq_true rfl⟩ rfl (Nat.le_of_ble_eq_true rfl) dw_1115 rfl ?_
    refine r_aload_n C (q := 1119) 2 dw_1118 rfl rfl rfl ?_
    refine r_aload_n C (q := 1120) 0 dw_1119 rfl rfl rfl ?_
    refine r_iload_n C (q := 1121) 3 dw_1120 rfl rfl rfl ?_
    refine r_iconst C (q := 1122) dw_1121 rfl ?_
    refine r_iadd C (q := 1123) dw_1122 rfl ?_
    refine r_sld C (q := 1124) hX hbl hbA hL ⟨by omega, by omega⟩ dw_1123 rfl ?_
    refine r_aload_n C (q := 1125) 0 dw_1124 rfl rfl rfl ?_
    refine r_iload_n C (q := 1126) 3 dw_1125 rfl rfl rfl ?_
    refine r_iconst C (q := 1127) dw_1126 rfl ?_
    refine r_iadd C (q := 1128) dw_1127 rfl ?_
    refine r_sld C (q := 1129) hX hbl hbA hL ⟨by omega, by omega⟩ dw_1128 rfl ?_
    refine r_aload_n C (q := 1130) 0 dw_1129 rfl rfl rfl ?_
    refine r_iload_n C (q := 1131) 3 dw_1130 rfl rfl rfl ?_
    refine r_iconst C (q := 1132) dw_1131 rfl ?_
    refine r_iadd C (q := 1133) dw_1132 rfl ?_
    refine r_sld C (q := 1134) hX hbl hbA hL ⟨by omega, by omega⟩ dw_1133 rfl ?_
    refine r_if_eq C (t := 1141) (q := 1137) dw_1134 (by decide) rfl (fun c1134 => ?_) (fun c1134 => ?_)
    · exact absurd c1134 c1107
    · refine r_iconst C (q := 1138) dw_1137 rfl ?_
      refine r_goto C (q := 1142) dw_1138 (by decide) ?_
      refine r_eI (emb_m h1 h2 g) C (k0 := 0) (As := [vI ((xs (v3 + 1).toNat).toInt), vI ((xs (v3 + 2).toNat).toInt), vI 1]) (σ' := cm sx (cl38 σm sm)) (c_m_check (emb_i (emb_m h1 h2 g) C.i) hm) (cm_m sx σm) (cm_ml sx σm sm) (cm_mo sx σm sm) mt_M_check ml_Law_129 (Nat.le_of_ble_eq_true rfl) rfl rfl rfl (q := 1145) rfl rfl rfl ⟨Nat.le_of_ble_eq_true rfl, Nat.le_of_ble_eq_true rfl⟩ rfl (Nat.le_of_ble_eq_true rfl) dw_1142 rfl ?_
      refine r_st (cm_cl sx σm sm) ?_
      exact r_ic_eq C (t := 1629) (q := 1148) dw_1145 (by decide) rfl (fun _ => hk sx sm hRR) (fun c => absurd rfl c)
theorem lc_27 {X : CxT} {l : Launch} {h1 h2 : Nat → Nat} {g : va_G × ClassId × ClassId × ClassId} (C : Cx X l (lW h1 h2 g) 4 code R_law lw_tbl ret room_1) {b L : Nat} {xs : Nat → Int32} (hX : va_X b L xs X.s X.s.heap) (hbl : b < X.s.heap.size) (hbA : ¬ xA (lW h1 h2 g) X.s.heap.size b) (hL : L < 2147483648) {N : Nat} {RR : St → St → Prop} {σx σm : St} (hS : ∀ a0 : Int, i32 a0 → OKp RR (x_checked N a0 σx) (m_checked N a0 σm)) {v3 : Int} (hv : 0 ≤ v3) (hv2 : v3 + 8 ≤ L) (hk : ∀ sx sm, RR sx sm → Rj X (lW h1 h2 g) 4 (lw_Z X.below #[Value.ref b] X.s) 1629 [(0, .ref b), (1, .ref (h1 0)), (2, .ref (h2 0)), (3, vI v3)] [] (cm sx sm)) : Rj X (lW h1 h2 g) 4 (lw_Z X.below #[Value.ref b] X.s) 1150 [(0, .ref b), (1, .ref (h1 0)), (2, .ref (h2 0)), (3, vI v3)] [] (cm σx σm) := by
  refine r_aload_n C (q := 1151) 1 dw_1150 rfl rfl rfl ?_
  refine r_aload_n C (q := 1152) 0 dw_1151 rfl rfl rfl ?_
  refine r_iload_n C (q := 1153) 3 dw_1152 rfl rfl rfl ?_
  refine r_iconst C (q := 1154) dw_1153 rfl ?_
  refine r_iadd C (q := 1155) dw_1154 rfl ?_
  refine r_sld C (q := 1156) hX hbl hbA hL ⟨by omega, by omega⟩ dw_1155 rfl ?_
  obtain ⟨r1, sx, sm, hx, hm, hRR⟩ := hS ((xs (v3 + 1).toNat).toInt) (sc_r _)
  refine r_eI (emb_x h1 h2 g) C (k0 := 0) (As := [vI ((xs (v3 + 1).toNat).toInt)]) (σ' := cm sx σm) (c_x_checked (emb_i (emb_x h1 h2 g) C.i) hx) (cm_x σx σm) (cm_x sx σm) (cm_xo σx sx σm) mt_O_checked ml_Law_130 (Nat.le_of_ble_eq_true rfl) rfl rfl rfl (q := 1159) rfl rfl rfl ⟨Nat.le_of_ble_eq_true rfl, Nat.le_of_ble_eq_true rfl⟩ rfl (Nat.le_of_ble_eq_true rfl) dw_1156 rfl ?_
  refine r_aload_n C (q := 1160) 2 dw_1159 rfl rfl rfl ?_
  refine r_aload_n C (q := 1161) 0 dw_1160 rfl rfl rfl ?_
  refine r_iload_n C (q := 1162) 3 dw_1161 rfl rfl rfl ?_
  refine r_iconst C (q := 1163) dw_1162 rfl ?_
  refine r_iadd C (q := 1164) dw_1163 rfl ?_
  refine r_sld C (q := 1165) hX hbl hbA hL ⟨by omega, by omega⟩ dw_1164 rfl ?_
  refine r_eI (emb_m h1 h2 g) C (k0 := 0) (As := [vI ((xs (v3 + 1).toNat).toInt)]) (σ' := cm sx (cl38 σm sm)) (c_m_checked (emb_i (emb_m h1 h2 g) C.i) hm) (cm_m sx σm) (cm_ml sx σm sm) (cm_mo sx σm sm) mt_M_checked ml_Law_133 (Nat.le_of_ble_eq_true rfl) rfl rfl rfl (q := 1168) rfl rfl rfl ⟨Nat.le_of_ble_eq_true rfl, Nat.le_of_ble_eq_true rfl⟩ rfl (Nat.le_of_ble_eq_true rfl) dw_1165 rfl ?_
  refine r_st (cm_cl sx σm sm) ?_
  exact r_ic_eq C (t := 1629) (q := 1171) dw_1168 (by decide) rfl (fun _ => hk sx sm hRR) (fun c => absurd rfl c)
theorem lc_28 {X : CxT} {l : Launch} {h1 h2 : Nat → Nat} {g : va_G × ClassId × ClassId × ClassId} (C : Cx X l (lW h1 h2 g) 4 code R_law lw_tbl ret room_1) {b L : Nat} {xs : Nat → Int32} (hX : va_X b L xs X.s X.s.heap) (hbl : b < X.s.heap.size) (hbA : ¬ xA (lW h1 h2 g) X.s.heap.size b) (hL : L < 2147483648) {N : Nat} {RR : St → St → Prop} {σx σm : St} (hS : ∀ a0 : Int, i32 a0 → OKp RR (x_bound N a0 σx) (m_bound N a0 σm)) {v3 : Int} (hv : 0 ≤ v3) (hv2 : v3 + 8 ≤ L) (hk : ∀ sx sm, RR sx sm → Rj X (lW h1 h2 g) 4 (lw_Z X.below #[Value.ref b] X.s) 1629 [(0, .ref b), (1, .ref (h1 0)), (2, .ref (h2 0)), (3, vI v3)] [] (cm sx sm)) : Rj X (lW h1 h2 g) 4 (lw_Z X.below #[Value.ref b] X.s) 1173 [(0, .ref b), (1, .ref (h1 0)), (2, .ref (h2 0)), (3, vI v3)] [] (cm σx σm) := by
  refine r_aload_n C (q := 1174) 1 dw_1173 rfl rfl rfl ?_
  refine r_aload_n C (q := 1175) 0 dw_1174 rfl rfl rfl ?_
  refine r_iload_n C (q := 1176) 3 dw_1175 rfl rfl rfl ?_
  refine r_iconst C (q := 1177) dw_1176 rfl ?_
  refine r_iadd C (q := 1178) dw_1177 rfl ?_
  refine r_sld C (q := 1179) hX hbl hbA hL ⟨by omega, by omega⟩ dw_1178 rfl ?_
  obtain ⟨r1, sx, sm, hx, hm, hRR⟩ := hS ((xs (v3 + 1).toNat).toInt) (sc_r _)
  refine r_eI (emb_x h1 h2 g) C (k0 := 0) (As := [vI ((xs (v3 + 1).toNat).toInt)]) (σ' := cm sx σm) (c_x_bound (emb_i (emb_x h1 h2 g) C.i) hx) (cm_x σx σm) (cm_x sx σm) (cm_xo σx sx σm) mt_O_bound ml_Law_134 (Nat.le_of_ble_eq_true rfl) rfl rfl rfl (q := 1182) rfl rfl rfl ⟨Nat.le_of_ble_eq_true rfl, Nat.le_of_ble_eq_true rfl⟩ rfl (Nat.le_of_ble_eq_true rfl) dw_1179 rfl ?_
  refine r_aload_n C (q := 1183) 2 dw_1182 rfl rfl rfl ?_
  refine r_aload_n C (q := 1184) 0 dw_1183 rfl rfl rfl ?_
  refine r_iload_n C (q := 1185) 3 dw_1184 rfl rfl rfl ?_
  refine r_iconst C (q := 1186) dw_1185 rfl ?_
  refine r_iadd C (q := 1187) dw_1186 rfl ?_
  refine r_sld C (q := 1188) hX hbl hbA hL ⟨by omega, by omega⟩ dw_1187 rfl ?_
  refine r_eI (emb_m h1 h2 g) C (k0 := 0) (As := [vI ((xs (v3 + 1).toNat).toInt)]) (σ' := cm sx (cl38 σm sm)) (c_m_bound (emb_i (emb_m h1 h2 g) C.i) hm) (cm_m sx σm) (cm_ml sx σm sm) (cm_mo sx σm sm) mt_M_bound ml_Law_137 (Nat.le_of_ble_eq_true rfl) rfl rfl rfl (q := 1191) rfl rfl rfl ⟨Nat.le_of_ble_eq_true rfl, Nat.le_of_ble_eq_true rfl⟩ rfl (Nat.le_of_ble_eq_true rfl) dw_1188 rfl ?_
  refine r_st (cm_cl sx σm sm) ?_
  exact r_ic_eq C (t := 1629) (q := 1194) dw_1191 (by decide) rfl (fun _ => hk sx sm hRR) (fun c => absurd rfl c)
theorem lc_29 {X : CxT} {l : Launch} {h1 h2 : Nat → Nat} {g : va_G × ClassId × ClassId × ClassId} (C : Cx X l (lW h1 h2 g) 4 code R_law lw_tbl ret room_1) {b L : Nat} {xs : Nat → Int32} (hX : va_X b L xs X.s X.s.heap) (hbl : b < X.s.heap.size) (hbA : ¬ xA (lW h1 h2 g) X.s.heap.size b) (hL : L < 2147483648) {N : Nat} {RR : St → St → Prop} {σx σm : St} (hS : ∀ a0 : Int, bit1 a0 → ∀ a1 : Int, i32 a1 → ∀ a2 : Int, i32 a2 → OKp RR (x_learnt N a0 a1 a2 σx) (m_learnt N a0 a1 a2 σm)) {v3 : Int} (hv : 0 ≤ v3) (hv2 : v3 + 8 ≤ L) (hk : ∀ sx sm, RR sx sm → Rj X (lW h1 h2 g) 4 (lw_Z X.below #[Value.ref b] X.s) 1629 [(0, .ref b), (1, .ref (h1 0)), (2, .ref (h2 0)), (3, vI v3)] [] (cm sx sm)) : Rj X (lW h1 h2 g) 4 (lw_Z X.below #[Value.ref b] X.s) 1196 [(0, .ref b), (1, .ref (h1 0)), (2, .ref (h2 0)), (3, vI v3)] [] (cm σx σm) := by
  refine r_aload_n C (q := 1197) 1 dw_1196 rfl rfl rfl ?_
  refine r_aload_n C (q := 1198) 0 dw_1197 rfl rfl rfl ?_
  refine r_iload_n C (q := 1199) 3 dw_1198 rfl rfl rfl ?_
  refine r_iconst C (q := 1200) dw_1199 rfl ?_
  refine r_iadd C (q := 1201) dw_1200 rfl ?_
  refine r_sld C (q := 1202) hX hbl hbA hL ⟨by omega, by omega⟩ dw_1201 rfl ?_
  refine r_if_eq C (t := 1209) (q := 1205) dw_1202 (by decide) rfl (fun c1202 => ?_) (fun c1202 => ?_)
  · refine r_iconst C (q := 1210) dw_1209 rfl ?_
    refine r_aload_n C (q := 1211) 0 dw_1210 rfl rfl rfl ?_
    refine r_iload_n C (q := 1212) 3 dw_1211 rfl rfl rfl ?_
    refine r_iconst C (q := 1213) dw_1212 rfl ?_
    refine r_iadd C (q := 1214) dw_1213 rfl ?_
    refine r_sld C (q := 1215) hX hbl hbA hL ⟨by omega, by omega⟩ dw_1214 rfl ?_
    refine r_aload_n C (q := 1216) 0 dw_1215 rfl rfl rfl ?_
    refine r_iload_n C (q := 1217) 3 dw_1216 rfl rfl rfl ?_
    refine r_iconst C (q := 1218) dw_1217 rfl ?_
    refine r_iadd C (q := 1219) dw_1218 rfl ?_
    refine r_sld C (q := 1220) hX hbl hbA hL ⟨by omega, by omega⟩ dw_1219 rfl ?_
    obtain ⟨r1, sx, sm, hx, hm, hRR⟩ := hS 0 (by decide) ((xs (v3 + 2).toNat).toInt) (sc_r _) ((xs (v3 + 3).toNat).toInt) (sc_r _)
    refine r_eI (emb_x h1 h2 g) C (k0 := 0) (As := [vI 0, vI ((xs (v3 + 2).toNat).toInt), vI ((xs (v3 + 3).toNat).toInt)]) (σ' := cm sx σm) (c_x_learnt (emb_i (emb_x h1 h2 g) C.i) hx) (cm_x σx σm) (cm_x sx σm) (cm_xo σx sx σm) mt_O_learnt ml_Law_138 (Nat.le_of_ble_eq_true rfl) rfl rfl rfl (q := 1223) rfl rfl rfl ⟨Nat.le_of_ble_eq_true rfl, Nat.le_of_ble_eq_true rfl⟩ rfl (Nat.le_of_ble_eq_true rfl) dw_1220 rfl ?_
    refine r_aload_n C (q := 1224) 2 dw_1223 rfl rfl rfl ?_
    refine r_aload_n C (q := 1225) 0 dw_1224 rfl rfl rfl ?_
    refine r_iload_n C (q := 1226) 3 dw_1225 rfl rfl rfl ?_
    refine r_iconst C (q := 1227) dw_1226 rfl ?_
    refine r_iadd C (q := 1228) dw_1227 rfl ?_
    refine r_sld C (q := 1229) hX hbl hbA hL ⟨by omega, by omega⟩ dw_1228 rfl ?_
    refine r_if_eq C (t := 1236) (q := 1232) dw_1229 (by decide) rfl (fun c1229 => ?_) (fun c1229 => ?_)
    · refine r_iconst C (q := 1237) dw_1236 rfl ?_
      refine r_aload_n C (q := 1238) 0 dw_1237 rfl rfl rfl ?_
      refine r_iload_n C (q := 1239) 3 dw_1238 rfl rfl rfl ?_
      refine r_iconst C (q := 1240) dw_1239 rfl ?_
      refine r_iadd C (q := 1241) dw_1240 rfl ?_
      refine r_sld C (q := 1242) hX hbl hbA hL ⟨by omega, by omega⟩ dw_1241 rfl ?_
      refine r_aload_n C (q := 1243) 0 dw_1242 rfl rfl rfl ?_
      refine r_iload_n C (q := 1244) 3 dw_1243 rfl rfl rfl ?_
      refine r_iconst C (q := 1245) dw_1244 rfl ?_
      refine r_iadd C (q := 1246) dw_1245 rfl ?_
      refine r_sld C (q := 1247) hX hbl hbA hL ⟨by omega, by omega⟩ dw_1246 rfl ?_
      refine r_eI (emb_m h1 h2 g) C (k0 := 0) (As := [vI 0, vI ((xs (v3 + 2).toNat).toInt), vI ((xs (v3 + 3).toNat).toInt)]) (σ' := cm sx (cl38 σm sm)) (c_m_learnt (emb_i (emb_m h1 h2 g) C.i) hm) (cm_m sx σm) (cm_ml sx σm sm) (cm_mo sx σm sm) mt_M_learnt ml_Law_142 (Nat.le_of_ble_eq_true rfl) rfl rfl rfl (q := 1250) rfl rfl rfl ⟨Nat.le_of_ble_eq_true rfl, Nat.le_of_ble_eq_true rfl⟩ rfl (Nat.le_of_ble_eq_true rfl) dw_1247 rfl ?_
      refine r_st (cm_cl sx σm sm) ?_
      exact r_ic_eq C (t := 1629) (q := 1253) dw_1250 (by decide) rfl (fun _ => hk sx sm hRR) (fun c => absurd rfl c)
    · exact absurd c1202 c1229
  · refine r_iconst C (q := 1206) dw_1205 rfl ?_
    refine r_goto C (q := 1210) dw_1206 (by decide) ?_
    refine r_aload_n C (q := 1211) 0 dw_1210 rfl rfl rfl ?_
    refine r_iload_n C (q := 1212) 3 dw_1211 rfl rfl rfl ?_
    refine r_iconst C (q := 1213) dw_1212 rfl ?_
    refine r_iadd C (q := 1214) dw_1213 rfl ?_
    refine r_sld C (q := 1215) hX hbl hbA hL ⟨by omega, by omega⟩ dw_1214 rfl ?_
    refine r_aload_n C (q := 1216) 0 dw_1215 rfl rfl rfl ?_
    refine r_iload_n C (q := 1217) 3 dw_1216 rfl rfl rfl ?_
    refine r_iconst C (q := 1218) dw_1217 rfl ?_
    refine r_iadd C (q := 1219) dw_1218 rfl ?_
    refine r_sld C (q := 1220) hX hbl hbA hL ⟨by omega, by omega⟩ dw_1219 rfl ?_
    obtain ⟨r1, sx, sm, hx, hm, hRR⟩ := hS 1 (by decide) ((xs (v3 + 2).toNat).toInt) (sc_r _) ((xs (v3 + 3).toNat).toInt) (sc_r _)
    refine r_eI (emb_x h1 h2 g) C (k0 := 0) (As := [vI 1, vI ((xs (v3 + 2).toNat).toInt), vI ((xs (v3 + 3).toNat).toInt)]) (σ' := cm sx σm) (c_x_learnt (emb_i (emb_x h1 h2 g) C.i) hx) (cm_x σx σm) (cm_x sx σm) (cm_xo σx sx σm) mt_O_learnt ml_Law_138 (Nat.le_of_ble_eq_true rfl) rfl rfl rfl (q := 1223) rfl rfl rfl ⟨Nat.le_of_ble_eq_true rfl, Nat.le_of_ble_eq_true rfl⟩ rfl (Nat.le_of_ble_eq_true rfl) dw_1220 rfl ?_
    refine r_aload_n C (q := 1224) 2 dw_1223 rfl rfl rfl ?_
    refine r_aload_n C (q := 1225) 0 dw_1224 rfl rfl rfl ?_
    refine r_iload_n C (q := 1226) 3 dw_1225 rfl rfl rfl ?_
    refine r_iconst C (q := 1227) dw_1226 rfl ?_
    refine r_iadd C (q := 1228) dw_1227 rfl ?_
    refine r_sld C (q := 1229) hX hbl hbA hL ⟨by omega, by omega⟩ dw_1228 rfl ?_
    refine r_if_eq C (t := 1236) (q := 1232) dw_1229 (by decide) rfl (fun c1229 => ?_) (fun c1229 => ?_)
    · exact absurd c1229 c1202
    · refine r_iconst C (q := 1233) dw_1232 rfl ?_
      refine r_goto C (q := 1237) dw_1233 (by decide) ?_
      refine r_aload_n C (q := 1238) 0 dw_1237 rfl rfl rfl ?_
      refine r_iload_n C (q := 1239) 3 dw_1238 rfl rfl rfl ?_
      refine r_iconst C (q := 1240) dw_1239 rfl ?_
      refine r_iadd C (q := 1241) dw_1240 rfl ?_
      refine r_sld C (q := 1242) hX hbl hbA hL ⟨by omega, by omega⟩ dw_1241 rfl ?_
      refine r_aload_n C (q := 1243) 0 dw_1242 rfl rfl rfl ?_
      refine r_iload_n C (q := 1244) 3 dw_1243 rfl rfl rfl ?_
      refine r_iconst C (q := 1245) dw_1244 rfl ?_
      refine r_iadd C (q := 1246) dw_1245 rfl ?_
      refine r_sld C (q := 1247) hX hbl hbA hL ⟨by omega, by omega⟩ dw_1246 rfl ?_
      refine r_eI (emb_m h1 h2 g) C (k0 := 0) (As := [vI 1, vI ((xs (v3 + 2).toNat).toInt), vI ((xs (v3 + 3).toNat).toInt)]) (σ' := cm sx (cl38 σm sm)) (c_m_learnt (emb_i (emb_m h1 h2 g) C.i) hm) (cm_m sx σm) (cm_ml sx σm sm) (cm_mo sx σm sm) mt_M_learnt ml_Law_142 (Nat.le_of_ble_eq_true rfl) rfl rfl rfl (q := 1250) rfl rfl rfl ⟨Nat.le_of_ble_eq_true rfl, Nat.le_of_ble_eq_true rfl⟩ rfl (Nat.le_of_ble_eq_true rfl) dw_1247 rfl ?_
      refine r_st (cm_cl sx σm sm) ?_
      exact r_ic_eq C (t := 1629) (q := 1253) dw_1250 (by decide) rfl (fun _ => hk sx sm hRR) (fun c => absurd rfl c)
theorem lc_30 {X : CxT} {l : Launch} {h1 h2 : Nat → Nat} {g : va_G × ClassId × ClassId × ClassId} (C : Cx X l (lW h1 h2 g) 4 code R_law lw_tbl ret room_1) {b L : Nat} {xs : Nat → Int32} (hX : va_X b L xs X.s X.s.heap) (hbl : b < X.s.heap.size) (hbA : ¬ xA (lW h1 h2 g) X.s.heap.size b) (hL : L < 2147483648) {N : Nat} {RR : St → St → Prop} {σx σm : St} (hS : ∀ a0 : Int, i32 a0 → ∀ a1 : Int, i32 a1 → ∀ a2 : Int, i32 a2 → OKp RR (x_meet N a0 a1 a2 σx) (m_meet N a0 a1 a2 σm)) {v3 : Int} (hv : 0 ≤ v3) (hv2 : v3 + 8 ≤ L) (hk : ∀ sx sm, RR sx sm → Rj X (lW h1 h2 g) 4 (lw_Z X.below #[Value.ref b] X.s) 1629 [(0, .ref b), (1, .ref (h1 0)), (2, .ref (h2 0)), (3, vI v3)] [] (cm sx sm)) : Rj X (lW h1 h2 g) 4 (lw_Z X.below #[Value.ref b] X.s) 1255 [(0, .ref b), (1, .ref (h1 0)), (2, .ref (h2 0)), (3, vI v3)] [] (cm σx σm) := by
  refine r_aload_n C (q := 1256) 1 dw_1255 rfl rfl rfl ?_
  refine r_aload_n C (q := 1257) 0 dw_1256 rfl rfl rfl ?_
  refine r_iload_n C (q := 1258) 3 dw_1257 rfl rfl rfl ?_
  refine r_iconst C (q := 1259) dw_1258 rfl ?_
  refine r_iadd C (q := 1260) dw_1259 rfl ?_
  refine r_sld C (q := 1261) hX hbl hbA hL ⟨by omega, by omega⟩ dw_1260 rfl ?_
  refine r_aload_n C (q := 1262) 0 dw_1261 rfl rfl rfl ?_
  refine r_iload_n C (q := 1263) 3 dw_1262 rfl rfl rfl ?_
  refine r_iconst C (q := 1264) dw_1263 rfl ?_
  refine r_iadd C (q := 1265) dw_1264 rfl ?_
  refine r_sld C (q := 1266) hX hbl hbA hL ⟨by omega, by omega⟩ dw_1265 rfl ?_
  refine r_aload_n C (q := 1267) 0 dw_1266 rfl rfl rfl ?_
  refine r_iload_n C (q := 1268) 3 dw_1267 rfl rfl rfl ?_
  refine r_iconst C (q := 1269) dw_1268 rfl ?_
  refine r_iadd C (q := 1270) dw_1269 rfl ?_
  refine r_sld C (q := 1271) hX hbl hbA hL ⟨by omega, by omega⟩ dw_1270 rfl ?_
  obtain ⟨r1, sx, sm, hx, hm, hRR⟩ := hS ((xs (v3 + 1).toNat).toInt) (sc_r _) ((xs (v3 + 2).toNat).toInt) (sc_r _) ((xs (v3 + 3).toNat).toInt) (sc_r _)
  refine r_eI (emb_x h1 h2 g) C (k0 := 0) (As := [vI ((xs (v3 + 1).toNat).toInt), vI ((xs (v3 + 2).toNat).toInt), vI ((xs (v3 + 3).toNat).toInt)]) (σ' := cm sx σm) (c_x_meet (emb_i (emb_x h1 h2 g) C.i) hx) (cm_x σx σm) (cm_x sx σm) (cm_xo σx sx σm) mt_O_meet ml_Law_143 (Nat.le_of_ble_eq_true rfl) rfl rfl rfl (q := 1274) rfl rfl rfl ⟨Nat.le_of_ble_eq_true rfl, Nat.le_of_ble_eq_true rfl⟩ rfl (Nat.le_of_ble_eq_true rfl) dw_1271 rfl ?_
  refine r_aload_n C (q := 1275) 2 dw_1274 rfl rfl rfl ?_
  refine r_aload_n C (q := 1276) 0 dw_1275 rfl rfl rfl ?_
  refine r_iload_n C (q := 1277) 3 dw_1276 rfl rfl rfl ?_
  refine r_iconst C (q := 1278) dw_1277 rfl ?_
  refine r_iadd C (q := 1279) dw_1278 rfl ?_
  refine r_sld C (q := 1280) hX hbl hbA hL ⟨by omega, by omega⟩ dw_1279 rfl ?_
  refine r_aload_n C (q := 1281) 0 dw_1280 rfl rfl rfl ?_
  refine r_iload_n C (q := 1282) 3 dw_1281 rfl rfl rfl ?_
  refine r_iconst C (q := 1283) dw_1282 rfl ?_
  refine r_iadd C (q := 1284) dw_1283 rfl ?_
  refine r_sld C (q := 1285) hX hbl hbA hL ⟨by omega, by omega⟩ dw_1284 rfl ?_
  refine r_aload_n C (q := 1286) 0 dw_1285 rfl rfl rfl ?_
  refine r_iload_n C (q := 1287) 3 dw_1286 rfl rfl rfl ?_
  refine r_iconst C (q := 1288) dw_1287 rfl ?_
  refine r_iadd C (q := 1289) dw_1288 rfl ?_
  refine r_sld C (q := 1290) hX hbl hbA hL ⟨by omega, by omega⟩ dw_1289 rfl ?_
  refine r_eI (emb_m h1 h2 g) C (k0 := 0) (As := [vI ((xs (v3 + 1).toNat).toInt), vI ((xs (v3 + 2).toNat).toInt), vI ((xs (v3 + 3).toNat).toInt)]) (σ' := cm sx (cl38 σm sm)) (c_m_meet (emb_i (emb_m h1 h2 g) C.i) hm) (cm_m sx σm) (cm_ml sx σm sm) (cm_mo sx σm sm) mt_M_meet ml_Law_146 (Nat.le_of_ble_eq_true rfl) rfl rfl rfl (q := 1293) rfl rfl rfl ⟨Nat.le_of_ble_eq_true rfl, Nat.le_of_ble_eq_true rfl⟩ rfl (Nat.le_of_ble_eq_true rfl) dw_1290 rfl ?_
  refine r_st (cm_cl sx σm sm) ?_
  exact r_ic_eq C (t := 1629) (q := 1296) dw_1293 (by decide) rfl (fun _ => hk sx sm hRR) (fun c => absurd rfl c)
theorem lc_31 {X : CxT} {l : Launch} {h1 h2 : Nat → Nat} {g : va_G × ClassId × ClassId × ClassId} (C : Cx X l (lW h1 h2 g) 4 code R_law lw_tbl ret room_1) {b L : Nat} {xs : Nat → Int32} (hX : va_X b L xs X.s X.s.heap) (hbl : b < X.s.heap.size) (hbA : ¬ xA (lW h1 h2 g) X.s.heap.size b) (hL : L < 2147483648) {N : Nat} {RR : St → St → Prop} {σx σm : St} (hS : ∀ a0 : Int, i32 a0 → OKp RR (x_pairs N a0 σx) (m_pairs N a0 σm)) {v3 : Int} (hv : 0 ≤ v3) (hv2 : v3 + 8 ≤ L) (hk : ∀ sx sm, RR sx sm → Rj X (lW h1 h2 g) 4 (lw_Z X.below #[Value.ref b] X.s) 1629 [(0, .ref b), (1, .ref (h1 0)), (2, .ref (h2 0)), (3, vI v3)] [] (cm sx sm)) : Rj X (lW h1 h2 g) 4 (lw_Z X.below #[Value.ref b] X.s) 1298 [(0, .ref b), (1, .ref (h1 0)), (2, .ref (h2 0)), (3, vI v3)] [] (cm σx σm) := by
  refine r_aload_n C (q := 1299) 1 dw_1298 rfl rfl rfl ?_
  refine r_aload_n C (q := 1300) 0 dw_1299 rfl rfl rfl ?_
  refine r_iload_n C (q := 1301) 3 dw_1300 rfl rfl rfl ?_
  refine r_iconst C (q := 1302) dw_1301 rfl ?_
  refine r_iadd C (q := 1303) dw_1302 rfl ?_
  refine r_sld C (q := 1304) hX hbl hbA hL ⟨by omega, by omega⟩ dw_1303 rfl ?_
  obtain ⟨r1, sx, sm, hx, hm, hRR⟩ := hS ((xs (v3 + 1).toNat).toInt) (sc_r _)
  refine r_eI (emb_x h1 h2 g) C (k0 := 0) (As := [vI ((xs (v3 + 1).toNat).toInt)]) (σ' := cm sx σm) (c_x_pairs (emb_i (emb_x h1 h2 g) C.i) hx) (cm_x σx σm) (cm_x sx σm) (cm_xo σx sx σm) mt_O_pairs ml_Law_147 (Nat.le_of_ble_eq_true rfl) rfl rfl rfl (q := 1307) rfl rfl rfl ⟨Nat.le_of_ble_eq_true rfl, Nat.le_of_ble_eq_true rfl⟩ rfl (Nat.le_of_ble_eq_true rfl) dw_1304 rfl ?_
  refine r_aload_n C (q := 1308) 2 dw_1307 rfl rfl rfl ?_
  refine r_aload_n C (q := 1309) 0 dw_1308 rfl rfl rfl ?_
  refine r_iload_n C (q := 1310) 3 dw_1309 rfl rfl rfl ?_
  refine r_iconst C (q := 1311) dw_1310 rfl ?_
  refine r_iadd C (q := 1312) dw_1311 rfl ?_
  refine r_sld C (q := 1313) hX hbl hbA hL ⟨by omega, by omega⟩ dw_1312 rfl ?_
  refine r_eI (emb_m h1 h2 g) C (k0 := 0) (As := [vI ((xs (v3 + 1).toNat).toInt)]) (σ' := cm sx (cl38 σm sm)) (c_m_pairs (emb_i (emb_m h1 h2 g) C.i) hm) (cm_m sx σm) (cm_ml sx σm sm) (cm_mo sx σm sm) mt_M_pairs ml_Law_150 (Nat.le_of_ble_eq_true rfl) rfl rfl rfl (q := 1316) rfl rfl rfl ⟨Nat.le_of_ble_eq_true rfl, Nat.le_of_ble_eq_true rfl⟩ rfl (Nat.le_of_ble_eq_true rfl) dw_1313 rfl ?_
  refine r_st (cm_cl sx σm sm) ?_
  exact r_ic_eq C (t := 1629) (q := 1319) dw_1316 (by decide) rfl (fun _ => hk sx sm hRR) (fun c => absurd rfl c)
theorem lc_32 {X : CxT} {l : Launch} {h1 h2 : Nat → Nat} {g : va_G × ClassId × ClassId × ClassId} (C : Cx X l (lW h1 h2 g) 4 code R_law lw_tbl ret room_1) {b L : Nat} {xs : Nat → Int32} (hX : va_X b L xs X.s X.s.heap) (hbl : b < X.s.heap.size) (hbA : ¬ xA (lW h1 h2 g) X.s.heap.size b) (hL : L < 2147483648) {N : Nat} {RR : St → St → Prop} {σx σm : St} (hS : OKp RR (x_keys N σx) (m_keys N σm)) {v3 : Int} (hv : 0 ≤ v3) (hv2 : v3 + 8 ≤ L) (hk : ∀ sx sm, RR sx sm → Rj X (lW h1 h2 g) 4 (lw_Z X.below #[Value.ref b] X.s) 1629 [(0, .ref b), (1, .ref (h1 0)), (2, .ref (h2 0)), (3, vI v3)] [] (cm sx sm)) : Rj X (lW h1 h2 g) 4 (lw_Z X.below #[Value.ref b] X.s) 1321 [(0, .ref b), (1, .ref (h1 0)), (2, .ref (h2 0)), (3, vI v3)] [] (cm σx σm) := by
  refine r_aload_n C (q := 1322) 1 dw_1321 rfl rfl rfl ?_
  obtain ⟨r1, sx, sm, hx, hm, hRR⟩ := hS 
  refine r_eI (emb_x h1 h2 g) C (k0 := 0) (As := []) (σ' := cm sx σm) (c_x_keys (emb_i (emb_x h1 h2 g) C.i) hx) (cm_x σx σm) (cm_x sx σm) (cm_xo σx sx σm) mt_O_keys ml_Law_151 (Nat.le_of_ble_eq_true rfl) rfl rfl rfl (q := 1325) rfl rfl rfl ⟨Nat.le_of_ble_eq_true rfl, Nat.le_of_ble_eq_true rfl⟩ rfl (Nat.le_of_ble_eq_true rfl) dw_1322 rfl ?_
  refine r_aload_n C (q := 1326) 2 dw_1325 rfl rfl rfl ?_
  refine r_eI (emb_m h1 h2 g) C (k0 := 0) (As := []) (σ' := cm sx (cl38 σm sm)) (c_m_keys (emb_i (emb_m h1 h2 g) C.i) hm) (cm_m sx σm) (cm_ml sx σm sm) (cm_mo sx σm sm) mt_M_keys ml_Law_154 (Nat.le_of_ble_eq_true rfl) rfl rfl rfl (q := 1329) rfl rfl rfl ⟨Nat.le_of_ble_eq_true rfl, Nat.le_of_ble_eq_true rfl⟩ rfl (Nat.le_of_ble_eq_true rfl) dw_1326 rfl ?_
  refine r_st (cm_cl sx σm sm) ?_
  exact r_ic_eq C (t := 1629) (q := 1332) dw_1329 (by decide) rfl (fun _ => hk sx sm hRR) (fun c => absurd rfl c)
theorem lc_33 {X : CxT} {l : Launch} {h1 h2 : Nat → Nat} {g : va_G × ClassId × ClassId × ClassId} (C : Cx X l (lW h1 h2 g) 4 code R_law lw_tbl ret room_1) {b L : Nat} {xs : Nat → Int32} (hX : va_X b L xs X.s X.s.heap) (hbl : b < X.s.heap.size) (hbA : ¬ xA (lW h1 h2 g) X.s.heap.size b) (hL : L < 2147483648) {N : Nat} {RR : St → St → Prop} {σx σm : St} (hS : ∀ a0 : Int, i32 a0 → ∀ a1 : Int, i32 a1 → ∀ a2 : Int, i32 a2 → OKp RR (x_sheet N a0 a1 a2 σx) (m_sheet N a0 a1 a2 σm)) {v3 : Int} (hv : 0 ≤ v3) (hv2 : v3 + 8 ≤ L) (hk : ∀ sx sm, RR sx sm → Rj X (lW h1 h2 g) 4 (lw_Z X.below #[Value.ref b] X.s) 1629 [(0, .ref b), (1, .ref (h1 0)), (2, .ref (h2 0)), (3, vI v3)] [] (cm sx sm)) : Rj X (lW h1 h2 g) 4 (lw_Z X.below #[Value.ref b] X.s) 1334 [(0, .ref b), (1, .ref (h1 0)), (2, .ref (h2 0)), (3, vI v3)] [] (cm σx σm) := by
  refine r_aload_n C (q := 1335) 1 dw_1334 rfl rfl rfl ?_
  refine r_aload_n C (q := 1336) 0 dw_1335 rfl rfl rfl ?_
  refine r_iload_n C (q := 1337) 3 dw_1336 rfl rfl rfl ?_
  refine r_iconst C (q := 1338) dw_1337 rfl ?_
  refine r_iadd C (q := 1339) dw_1338 rfl ?_
  refine r_sld C (q := 1340) hX hbl hbA hL ⟨by omega, by omega⟩ dw_1339 rfl ?_
  refine r_aload_n C (q := 1341) 0 dw_1340 rfl rfl rfl ?_
  refine r_iload_n C (q := 1342) 3 dw_1341 rfl rfl rfl ?_
  refine r_iconst C (q := 1343) dw_1342 rfl ?_
  refine r_iadd C (q := 1344) dw_1343 rfl ?_
  refine r_sld C (q := 1345) hX hbl hbA hL ⟨by omega, by omega⟩ dw_1344 rfl ?_
  refine r_aload_n C (q := 1346) 0 dw_1345 rfl rfl rfl ?_
  refine r_iload_n C (q := 1347) 3 dw_1346 rfl rfl rfl ?_
  refine r_iconst C (q := 1348) dw_1347 rfl ?_
  refine r_iadd C (q := 1349) dw_1348 rfl ?_
  refine r_sld C (q := 1350) hX hbl hbA hL ⟨by omega, by omega⟩ dw_1349 rfl ?_
  obtain ⟨r1, sx, sm, hx, hm, hRR⟩ := hS ((xs (v3 + 1).toNat).toInt) (sc_r _) ((xs (v3 + 2).toNat).toInt) (sc_r _) ((xs (v3 + 3).toNat).toInt) (sc_r _)
  refine r_eI (emb_x h1 h2 g) C (k0 := 0) (As := [vI ((xs (v3 + 1).toNat).toInt), vI ((xs (v3 + 2).toNat).toInt), vI ((xs (v3 + 3).toNat).toInt)]) (σ' := cm sx σm) (c_x_sheet (emb_i (emb_x h1 h2 g) C.i) hx) (cm_x σx σm) (cm_x sx σm) (cm_xo σx sx σm) mt_O_sheet ml_Law_155 (Nat.le_of_ble_eq_true rfl) rfl rfl rfl (q := 1353) rfl rfl rfl ⟨Nat.le_of_ble_eq_true rfl, Nat.le_of_ble_eq_true rfl⟩ rfl (Nat.le_of_ble_eq_true rfl) dw_1350 rfl ?_
  refine r_aload_n C (q := 1354) 2 dw_1353 rfl rfl rfl ?_
  refine r_aload_n C (q := 1355) 0 dw_1354 rfl rfl rfl ?_
  refine r_iload_n C (q := 1356) 3 dw_1355 rfl rfl rfl ?_
  refine r_iconst C (q := 1357) dw_1356 rfl ?_
  refine r_iadd C (q := 1358) dw_1357 rfl ?_
  refine r_sld C (q := 1359) hX hbl hbA hL ⟨by omega, by omega⟩ dw_1358 rfl ?_
  refine r_aload_n C (q := 1360) 0 dw_1359 rfl rfl rfl ?_
  refine r_iload_n C (q := 1361) 3 dw_1360 rfl rfl rfl ?_
  refine r_iconst C (q := 1362) dw_1361 rfl ?_
  refine r_iadd C (q := 1363) dw_1362 rfl ?_
  refine r_sld C (q := 1364) hX hbl hbA hL ⟨by omega, by omega⟩ dw_1363 rfl ?_
  refine r_aload_n C (q := 1365) 0 dw_1364 rfl rfl rfl ?_
  refine r_iload_n C (q := 1366) 3 dw_1365 rfl rfl rfl ?_
  refine r_iconst C (q := 1367) dw_1366 rfl ?_
  refine r_iadd C (q := 1368) dw_1367 rfl ?_
  refine r_sld C (q := 1369) hX hbl hbA hL ⟨by omega, by omega⟩ dw_1368 rfl ?_
  refine r_eI (emb_m h1 h2 g) C (k0 := 0) (As := [vI ((xs (v3 + 1).toNat).toInt), vI ((xs (v3 + 2).toNat).toInt), vI ((xs (v3 + 3).toNat).toInt)]) (σ' := cm sx (cl38 σm sm)) (c_m_sheet (emb_i (emb_m h1 h2 g) C.i) hm) (cm_m sx σm) (cm_ml sx σm sm) (cm_mo sx σm sm) mt_M_sheet ml_Law_158 (Nat.le_of_ble_eq_true rfl) rfl rfl rfl (q := 1372) rfl rfl rfl ⟨Nat.le_of_ble_eq_true rfl, Nat.le_of_ble_eq_true rfl⟩ rfl (Nat.le_of_ble_eq_true rfl) dw_1369 rfl ?_
  refine r_st (cm_cl sx σm sm) ?_
  exact r_ic_eq C (t := 1629) (q := 1375) dw_1372 (by decide) rfl (fun _ => hk sx sm hRR) (fun c => absurd rfl c)
theorem lc_34 {X : CxT} {l : Launch} {h1 h2 : Nat → Nat} {g : va_G × ClassId × ClassId × ClassId} (C : Cx X l (lW h1 h2 g) 4 code R_law lw_tbl ret room_1) {b L : Nat} {xs : Nat → Int32} (hX : va_X b L xs X.s X.s.heap) (hbl : b < X.s.heap.size) (hbA : ¬ xA (lW h1 h2 g) X.s.heap.size b) (hL : L < 2147483648) {N : Nat} {RR : St → St → Prop} {σx σm : St} (hS : ∀ a0 : Int, i32 a0 → OKp RR (x_lose N a0 σx) (m_lose N a0 σm)) {v3 : Int} (hv : 0 ≤ v3) (hv2 : v3 + 8 ≤ L) (hk : ∀ sx sm, RR sx sm → Rj X (lW h1 h2 g) 4 (lw_Z X.below #[Value.ref b] X.s) 1629 [(0, .ref b), (1, .ref (h1 0)), (2, .ref (h2 0)), (3, vI v3)] [] (cm sx sm)) : Rj X (lW h1 h2 g) 4 (lw_Z X.below #[Value.ref b] X.s) 1377 [(0, .ref b), (1, .ref (h1 0)), (2, .ref (h2 0)), (3, vI v3)] [] (cm σx σm) := by
  refine r_aload_n C (q := 1378) 1 dw_1377 rfl rfl rfl ?_
  refine r_aload_n C (q := 1379) 0 dw_1378 rfl rfl rfl ?_
  refine r_iload_n C (q := 1380) 3 dw_1379 rfl rfl rfl ?_
  refine r_iconst C (q := 1381) dw_1380 rfl ?_
  refine r_iadd C (q := 1382) dw_1381 rfl ?_
  refine r_sld C (q := 1383) hX hbl hbA hL ⟨by omega, by omega⟩ dw_1382 rfl ?_
  obtain ⟨r1, sx, sm, hx, hm, hRR⟩ := hS ((xs (v3 + 1).toNat).toInt) (sc_r _)
  refine r_eI (emb_x h1 h2 g) C (k0 := 0) (As := [vI ((xs (v3 + 1).toNat).toInt)]) (σ' := cm sx σm) (c_x_lose (emb_i (emb_x h1 h2 g) C.i) hx) (cm_x σx σm) (cm_x sx σm) (cm_xo σx sx σm) mt_O_lose ml_Law_159 (Nat.le_of_ble_eq_true rfl) rfl rfl rfl (q := 1386) rfl rfl rfl ⟨Nat.le_of_ble_eq_true rfl, Nat.le_of_ble_eq_true rfl⟩ rfl (Nat.le_of_ble_eq_true rfl) dw_1383 rfl ?_
  refine r_aload_n C (q := 1387) 2 dw_1386 rfl rfl rfl ?_
  refine r_aload_n C (q := 1388) 0 dw_1387 rfl rfl rfl ?_
  refine r_iload_n C (q := 1389) 3 dw_1388 rfl rfl rfl ?_
  refine r_iconst C (q := 1390) dw_1389 rfl ?_
  refine r_iadd C (q := 1391) dw_1390 rfl ?_
  refine r_sld C (q := 1392) hX hbl hbA hL ⟨by omega, by omega⟩ dw_1391 rfl ?_
  refine r_eI (emb_m h1 h2 g) C (k0 := 0) (As := [vI ((xs (v3 + 1).toNat).toInt)]) (σ' := cm sx (cl38 σm sm)) (c_m_lose (emb_i (emb_m h1 h2 g) C.i) hm) (cm_m sx σm) (cm_ml sx σm sm) (cm_mo sx σm sm) mt_M_lose ml_Law_162 (Nat.le_of_ble_eq_true rfl) rfl rfl rfl (q := 1395) rfl rfl rfl ⟨Nat.le_of_ble_eq_true rfl, Nat.le_of_ble_eq_true rfl⟩ rfl (Nat.le_of_ble_eq_true rfl) dw_1392 rfl ?_
  refine r_st (cm_cl sx σm sm) ?_
  exact r_ic_eq C (t := 1629) (q := 1398) dw_1395 (by decide) rfl (fun _ => hk sx sm hRR) (fun c => absurd rfl c)
theorem lc_35 {X : CxT} {l : Launch} {h1 h2 : Nat → Nat} {g : va_G × ClassId × ClassId × ClassId} (C : Cx X l (lW h1 h2 g) 4 code R_law lw_tbl ret room_1) {b L : Nat} {xs : Nat → Int32} (hX : va_X b L xs X.s X.s.heap) (hbl : b < X.s.heap.size) (hbA : ¬ xA (lW h1 h2 g) X.s.heap.size b) (hL : L < 2147483648) {N : Nat} {RR : St → St → Prop} {σx σm : St} (hS : ∀ a0 : Int, i32 a0 → ∀ a1 : Int, i32 a1 → ∀ a2 : Int, i32 a2 → ∀ a3 : Int, i32 a3 → OKp RR (x_put N a0 a1 a2 a3 σx) (m_put N a0 a1 a2 a3 σm)) {v3 : Int} (hv : 0 ≤ v3) (hv2 : v3 + 8 ≤ L) (hk : ∀ sx sm, RR sx sm → Rj X (lW h1 h2 g) 4 (lw_Z X.below #[Value.ref b] X.s) 1629 [(0, .ref b), (1, .ref (h1 0)), (2, .ref (h2 0)), (3, vI v3)] [] (cm sx sm)) : Rj X (lW h1 h2 g) 4 (lw_Z X.below #[Value.ref b] X.s) 1400 [(0, .ref b), (1, .ref (h1 0)), (2, .ref (h2 0)), (3, vI v3)] [] (cm σx σm) := by
  refine r_aload_n C (q := 1401) 1 dw_1400 rfl rfl rfl ?_
  refine r_aload_n C (q := 1402) 0 dw_1401 rfl rfl rfl ?_
  refine r_iload_n C (q := 1403) 3 dw_1402 rfl rfl rfl ?_
  refine r_iconst C (q := 1404) dw_1403 rfl ?_
  refine r_iadd C (q := 1405) dw_1404 rfl ?_
  refine r_sld C (q := 1406) hX hbl hbA hL ⟨by omega, by omega⟩ dw_1405 rfl ?_
  refine r_aload_n C (q := 1407) 0 dw_1406 rfl rfl rfl ?_
  refine r_iload_n C (q := 1408) 3 dw_1407 rfl rfl rfl ?_
  refine r_iconst C (q := 1409) dw_1408 rfl ?_
  refine r_iadd C (q := 1410) dw_1409 rfl ?_
  refine r_sld C (q := 1411) hX hbl hbA hL ⟨by omega, by omega⟩ dw_1410 rfl ?_
  refine r_aload_n C (q := 1412) 0 dw_1411 rfl rfl rfl ?_
  refine r_iload_n C (q := 1413) 3 dw_1412 rfl rfl rfl ?_
  refine r_iconst C (q := 1414) dw_1413 rfl ?_
  refine r_iadd C (q := 1415) dw_1414 rfl ?_
  refine r_sld C (q := 1416) hX hbl hbA hL ⟨by omega, by omega⟩ dw_1415 rfl ?_
  refine r_aload_n C (q := 1417) 0 dw_1416 rfl rfl rfl ?_
  refine r_iload_n C (q := 1418) 3 dw_1417 rfl rfl rfl ?_
  refine r_iconst C (q := 1419) dw_1418 rfl ?_
  refine r_iadd C (q := 1420) dw_1419 rfl ?_
  refine r_sld C (q := 1421) hX hbl hbA hL ⟨by omega, by omega⟩ dw_1420 rfl ?_
  obtain ⟨r1, sx, sm, hx, hm, hRR⟩ := hS ((xs (v3 + 1).toNat).toInt) (sc_r _) ((xs (v3 + 2).toNat).toInt) (sc_r _) ((xs (v3 + 3).toNat).toInt) (sc_r _) ((xs (v3 + 4).toNat).toInt) (sc_r _)
  refine r_eI (emb_x h1 h2 g) C (k0 := 0) (As := [vI ((xs (v3 + 1).toNat).toInt), vI ((xs (v3 + 2).toNat).toInt), vI ((xs (v3 + 3).toNat).toInt), vI ((xs (v3 + 4).toNat).toInt)]) (σ' := cm sx σm) (c_x_put (emb_i (emb_x h1 h2 g) C.i) hx) (cm_x σx σm) (cm_x sx σm) (cm_xo σx sx σm) mt_O_put ml_Law_163 (Nat.le_of_ble_eq_true rfl) rfl rfl rfl (q := 1424) rfl rfl rfl ⟨Nat.le_of_ble_eq_true rfl, Nat.le_of_ble_eq_true rfl⟩ rfl (Nat.le_of_ble_eq_true rfl) dw_1421 rfl ?_
  refine r_aload_n C (q := 1425) 2 dw_1424 rfl rfl rfl ?_
  refine r_aload_n C (q := 1426) 0 dw_1425 rfl rfl rfl ?_
  refine r_iload_n C (q := 1427) 3 dw_1426 rfl rfl rfl ?_
  refine r_iconst C (q := 1428) dw_1427 rfl ?_
  refine r_iadd C (q := 1429) dw_1428 rfl ?_
  refine r_sld C (q := 1430) hX hbl hbA hL ⟨by omega, by omega⟩ dw_1429 rfl ?_
  refine r_aload_n C (q := 1431) 0 dw_1430 rfl rfl rfl ?_
  refine r_iload_n C (q := 1432) 3 dw_1431 rfl rfl rfl ?_
  refine r_iconst C (q := 1433) dw_1432 rfl ?_
  refine r_iadd C (q := 1434) dw_1433 rfl ?_
  refine r_sld C (q := 1435) hX hbl hbA hL ⟨by omega, by omega⟩ dw_1434 rfl ?_
  refine r_aload_n C (q := 1436) 0 dw_1435 rfl rfl rfl ?_
  refine r_iload_n C (q := 1437) 3 dw_1436 rfl rfl rfl ?_
  refine r_iconst C (q := 1438) dw_1437 rfl ?_
  refine r_iadd C (q := 1439) dw_1438 rfl ?_
  refine r_sld C (q := 1440) hX hbl hbA hL ⟨by omega, by omega⟩ dw_1439 rfl ?_
  refine r_aload_n C (q := 1441) 0 dw_1440 rfl rfl rfl ?_
  refine r_iload_n C (q := 1442) 3 dw_1441 rfl rfl rfl ?_
  refine r_iconst C (q := 1443) dw_1442 rfl ?_
  refine r_iadd C (q := 1444) dw_1443 rfl ?_
  refine r_sld C (q := 1445) hX hbl hbA hL ⟨by omega, by omega⟩ dw_1444 rfl ?_
  refine r_eI (emb_m h1 h2 g) C (k0 := 0) (As := [vI ((xs (v3 + 1).toNat).toInt), vI ((xs (v3 + 2).toNat).toInt), vI ((xs (v3 + 3).toNat).toInt), vI ((xs (v3 + 4).toNat).toInt)]) (σ' := cm sx (cl38 σm sm)) (c_m_put (emb_i (emb_m h1 h2 g) C.i) hm) (cm_m sx σm) (cm_ml sx σm sm) (cm_mo sx σm sm) mt_M_put ml_Law_166 (Nat.le_of_ble_eq_true rfl) rfl rfl rfl (q := 1448) rfl rfl rfl ⟨Nat.le_of_ble_eq_true rfl, Nat.le_of_ble_eq_true rfl⟩ rfl (Nat.le_of_ble_eq_true rfl) dw_1445 rfl ?_
  refine r_st (cm_cl sx σm sm) ?_
  exact r_ic_eq C (t := 1629) (q := 1451) dw_1448 (by decide) rfl (fun _ => hk sx sm hRR) (fun c => absurd rfl c)
theorem lc_36 {X : CxT} {l : Launch} {h1 h2 : Nat → Nat} {g : va_G × ClassId × ClassId × ClassId} (C : Cx X l (lW h1 h2 g) 4 code R_law lw_tbl ret room_1) {b L : Nat} {xs : Nat → Int32} (hX : va_X b L xs X.s X.s.heap) (hbl : b < X.s.heap.size) (hbA : ¬ xA (lW h1 h2 g) X.s.heap.size b) (hL : L < 2147483648) {N : Nat} {RR : St → St → Prop} {σx σm : St} (hS : ∀ a0 : Int, i32 a0 → ∀ a1 : Int, i32 a1 → ∀ a2 : Int, i32 a2 → OKp RR (x_get N a0 a1 a2 σx) (m_get N a0 a1 a2 σm)) {v3 : Int} (hv : 0 ≤ v3) (hv2 : v3 + 8 ≤ L) (hk : ∀ sx sm, RR sx sm → Rj X (lW h1 h2 g) 4 (lw_Z X.below #[Value.ref b] X.s) 1629 [(0, .ref b), (1, .ref (h1 0)), (2, .ref (h2 0)), (3, vI v3)] [] (cm sx sm)) : Rj X (lW h1 h2 g) 4 (lw_Z X.below #[Value.ref b] X.s) 1453 [(0, .ref b), (1, .ref (h1 0)), (2, .ref (h2 0)), (3, vI v3)] [] (cm σx σm) := by
  refine r_aload_n C (q := 1454) 1 dw_1453 rfl rfl rfl ?_
  refine r_aload_n C (q := 1455) 0 dw_1454 rfl rfl rfl ?_
  refine r_iload_n C (q := 1456) 3 dw_1455 rfl rfl rfl ?_
  refine r_iconst C (q := 1457) dw_1456 rfl ?_
  refine r_iadd C (q := 1458) dw_1457 rfl ?_
  refine r_sld C (q := 1459) hX hbl hbA hL ⟨by omega, by omega⟩ dw_1458 rfl ?_
  refine r_aload_n C (q := 1460) 0 dw_1459 rfl rfl rfl ?_
  refine r_iload_n C (q := 1461) 3 dw_1460 rfl rfl rfl ?_
  refine r_iconst C (q := 1462) dw_1461 rfl ?_
  refine r_iadd C (q := 1463) dw_1462 rfl ?_
  refine r_sld C (q := 1464) hX hbl hbA hL ⟨by omega, by omega⟩ dw_1463 rfl ?_
  refine r_aload_n C (q := 1465) 0 dw_1464 rfl rfl rfl ?_
  refine r_iload_n C (q := 1466) 3 dw_1465 rfl rfl rfl ?_
  refine r_iconst C (q := 1467) dw_1466 rfl ?_
  refine r_iadd C (q := 1468) dw_1467 rfl ?_
  refine r_sld C (q := 1469) hX hbl hbA hL ⟨by omega, by omega⟩ dw_1468 rfl ?_
  obtain ⟨r1, sx, sm, hx, hm, hRR⟩ := hS ((xs (v3 + 1).toNat).toInt) (sc_r _) ((xs (v3 + 2).toNat).toInt) (sc_r _) ((xs (v3 + 3).toNat).toInt) (sc_r _)
  refine r_eI (emb_x h1 h2 g) C (k0 := 0) (As := [vI ((xs (v3 + 1).toNat).toInt), vI ((xs (v3 + 2).toNat).toInt), vI ((xs (v3 + 3).toNat).toInt)]) (σ' := cm sx σm) (c_x_get (emb_i (emb_x h1 h2 g) C.i) hx) (cm_x σx σm) (cm_x sx σm) (cm_xo σx sx σm) mt_O_get ml_Law_167 (Nat.le_of_ble_eq_true rfl) rfl rfl rfl (q := 1472) rfl rfl rfl ⟨Nat.le_of_ble_eq_true rfl, Nat.le_of_ble_eq_true rfl⟩ rfl (Nat.le_of_ble_eq_true rfl) dw_1469 rfl ?_
  refine r_aload_n C (q := 1473) 2 dw_1472 rfl rfl rfl ?_
  refine r_aload_n C (q := 1474) 0 dw_1473 rfl rfl rfl ?_
  refine r_iload_n C (q := 1475) 3 dw_1474 rfl rfl rfl ?_
  refine r_iconst C (q := 1476) dw_1475 rfl ?_
  refine r_iadd C (q := 1477) dw_1476 rfl ?_
  refine r_sld C (q := 1478) hX hbl hbA hL ⟨by omega, by omega⟩ dw_1477 rfl ?_
  refine r_aload_n C (q := 1479) 0 dw_1478 rfl rfl rfl ?_
  refine r_iload_n C (q := 1480) 3 dw_1479 rfl rfl rfl ?_
  refine r_iconst C (q := 1481) dw_1480 rfl ?_
  refine r_iadd C (q := 1482) dw_1481 rfl ?_
  refine r_sld C (q := 1483) hX hbl hbA hL ⟨by omega, by omega⟩ dw_1482 rfl ?_
  refine r_aload_n C (q := 1484) 0 dw_1483 rfl rfl rfl ?_
  refine r_iload_n C (q := 1485) 3 dw_1484 rfl rfl rfl ?_
  refine r_iconst C (q := 1486) dw_1485 rfl ?_
  refine r_iadd C (q := 1487) dw_1486 rfl ?_
  refine r_sld C (q := 1488) hX hbl hbA hL ⟨by omega, by omega⟩ dw_1487 rfl ?_
  refine r_eI (emb_m h1 h2 g) C (k0 := 0) (As := [vI ((xs (v3 + 1).toNat).toInt), vI ((xs (v3 + 2).toNat).toInt), vI ((xs (v3 + 3).toNat).toInt)]) (σ' := cm sx (cl38 σm sm)) (c_m_get (emb_i (emb_m h1 h2 g) C.i) hm) (cm_m sx σm) (cm_ml sx σm sm) (cm_mo sx σm sm) mt_M_get ml_Law_170 (Nat.le_of_ble_eq_true rfl) rfl rfl rfl (q := 1491) rfl rfl rfl ⟨Nat.le_of_ble_eq_true rfl, Nat.le_of_ble_eq_true rfl⟩ rfl (Nat.le_of_ble_eq_true rfl) dw_1488 rfl ?_
  refine r_st (cm_cl sx σm sm) ?_
  exact r_ic_eq C (t := 1629) (q := 1494) dw_1491 (by decide) rfl (fun _ => hk sx sm hRR) (fun c => absurd rfl c)
theorem lc_37 {X : CxT} {l : Launch} {h1 h2 : Nat → Nat} {g : va_G × ClassId × ClassId × ClassId} (C : Cx X l (lW h1 h2 g) 4 code R_law lw_tbl ret room_1) {b L : Nat} {xs : Nat → Int32} (hX : va_X b L xs X.s X.s.heap) (hbl : b < X.s.heap.size) (hbA : ¬ xA (lW h1 h2 g) X.s.heap.size b) (hL : L < 2147483648) {N : Nat} {RR : St → St → Prop} {σx σm : St} (hS : ∀ a0 : Int, i32 a0 → ∀ a1 : Int, i32 a1 → ∀ a2 : Int, i32 a2 → ∀ a3 : Int, i32 a3 → ∀ a4 : Int, i32 a4 → OKp RR (x_copy N a0 a1 a2 a3 a4 σx) (m_copy N a0 a1 a2 a3 a4 σm)) {v3 : Int} (hv : 0 ≤ v3) (hv2 : v3 + 8 ≤ L) (hk : ∀ sx sm, RR sx sm → Rj X (lW h1 h2 g) 4 (lw_Z X.below #[Value.ref b] X.s) 1629 [(0, .ref b), (1, .ref (h1 0)), (2, .ref (h2 0)), (3, vI v3)] [] (cm sx sm)) : Rj X (lW h1 h2 g) 4 (lw_Z X.below #[Value.ref b] X.s) 1496 [(0, .ref b), (1, .ref (h1 0)), (2, .ref (h2 0)), (3, vI v3)] [] (cm σx σm) := by
  refine r_aload_n C (q := 1497) 1 dw_1496 rfl rfl rfl ?_
  refine r_aload_n C (q := 1498) 0 dw_1497 rfl rfl rfl ?_
  refine r_iload_n C (q := 1499) 3 dw_1498 rfl rfl rfl ?_
  refine r_iconst C (q := 1500) dw_1499 rfl ?_
  refine r_iadd C (q := 1501) dw_1500 rfl ?_
  refine r_sld C (q := 1502) hX hbl hbA hL ⟨by omega, by omega⟩ dw_1501 rfl ?_
  refine r_aload_n C (q := 1503) 0 dw_1502 rfl rfl rfl ?_
  refine r_iload_n C (q := 1504) 3 dw_1503 rfl rfl rfl ?_
  refine r_iconst C (q := 1505) dw_1504 rfl ?_
  refine r_iadd C (q := 1506) dw_1505 rfl ?_
  refine r_sld C (q := 1507) hX hbl hbA hL ⟨by omega, by omega⟩ dw_1506 rfl ?_
  refine r_aload_n C (q := 1508) 0 dw_1507 rfl rfl rfl ?_
  refine r_iload_n C (q := 1509) 3 dw_1508 rfl rfl rfl ?_
  refine r_iconst C (q := 1510) dw_1509 rfl ?_
  refine r_iadd C (q := 1511) dw_1510 rfl ?_
  refine r_sld C (q := 1512) hX hbl hbA hL ⟨by omega, by omega⟩ dw_1511 rfl ?_
  refine r_aload_n C (q := 1513) 0 dw_1512 rfl rfl rfl ?_
  refine r_iload_n C (q := 1514) 3 dw_1513 rfl rfl rfl ?_
  refine r_iconst C (q := 1515) dw_1514 rfl ?_
  refine r_iadd C (q := 1516) dw_1515 rfl ?_
  refine r_sld C (q := 1517) hX hbl hbA hL ⟨by omega, by omega⟩ dw_1516 rfl ?_
  refine r_aload_n C (q := 1518) 0 dw_1517 rfl rfl rfl ?_
  refine r_iload_n C (q := 1519) 3 dw_1518 rfl rfl rfl ?_
  refine r_iconst C (q := 1520) dw_1519 rfl ?_
  refine r_iadd C (q := 1521) dw_1520 rfl ?_
  refine r_sld C (q := 1522) hX hbl hbA hL ⟨by omega, by omega⟩ dw_1521 rfl ?_
  obtain ⟨r1, sx, sm, hx, hm, hRR⟩ := hS ((xs (v3 + 1).toNat).toInt) (sc_r _) ((xs (v3 + 2).toNat).toInt) (sc_r _) ((xs (v3 + 3).toNat).toInt) (sc_r _) ((xs (v3 + 4).toNat).toInt) (sc_r _) ((xs (v3 + 5).toNat).toInt) (sc_r _)
  refine r_eI (emb_x h1 h2 g) C (k0 := 0) (As := [vI ((xs (v3 + 1).toNat).toInt), vI ((xs (v3 + 2).toNat).toInt), vI ((xs (v3 + 3).toNat).toInt), vI ((xs (v3 + 4).toNat).toInt), vI ((xs (v3 + 5).toNat).toInt)]) (σ' := cm sx σm) (c_x_copy (emb_i (emb_x h1 h2 g) C.i) hx) (cm_x σx σm) (cm_x sx σm) (cm_xo σx sx σm) mt_O_copy ml_Law_171 (Nat.le_of_ble_eq_true rfl) rfl rfl rfl (q := 1525) rfl rfl rfl ⟨Nat.le_of_ble_eq_true rfl, Nat.le_of_ble_eq_true rfl⟩ rfl (Nat.le_of_ble_eq_true rfl) dw_1522 rfl ?_
  refine r_aload_n C (q := 1526) 2 dw_1525 rfl rfl rfl ?_
  refine r_aload_n C (q := 1527) 0 dw_1526 rfl rfl rfl ?_
  refine r_iload_n C (q := 1528) 3 dw_1527 rfl rfl rfl ?_
  refine r_iconst C (q := 1529) dw_1528 rfl ?_
  refine r_iadd C (q := 1530) dw_1529 rfl ?_
  refine r_sld C (q := 1531) hX hbl hbA hL ⟨by omega, by omega⟩ dw_1530 rfl ?_
  refine r_aload_n C (q := 1532) 0 dw_1531 rfl rfl rfl ?_
  refine r_iload_n C (q := 1533) 3 dw_1532 rfl rfl rfl ?_
  refine r_iconst C (q := 1534) dw_1533 rfl ?_
  refine r_iadd C (q := 1535) dw_1534 rfl ?_
  refine r_sld C (q := 1536) hX hbl hbA hL ⟨by omega, by omega⟩ dw_1535 rfl ?_
  refine r_aload_n C (q := 1537) 0 dw_1536 rfl rfl rfl ?_
  refine r_iload_n C (q := 1538) 3 dw_1537 rfl rfl rfl ?_
  refine r_iconst C (q := 1539) dw_1538 rfl ?_
  refine r_iadd C (q := 1540) dw_1539 rfl ?_
  refine r_sld C (q := 1541) hX hbl hbA hL ⟨by omega, by omega⟩ dw_1540 rfl ?_
  refine r_aload_n C (q := 1542) 0 dw_1541 rfl rfl rfl ?_
  refine r_iload_n C (q := 1543) 3 dw_1542 rfl rfl rfl ?_
  refine r_iconst C (q := 1544) dw_1543 rfl ?_
  refine r_iadd C (q := 1545) dw_1544 rfl ?_
  refine r_sld C (q := 1546) hX hbl hbA hL ⟨by omega, by omega⟩ dw_1545 rfl ?_
  refine r_aload_n C (q := 1547) 0 dw_1546 rfl rfl rfl ?_
  refine r_iload_n C (q := 1548) 3 dw_1547 rfl rfl rfl ?_
  refine r_iconst C (q := 1549) dw_1548 rfl ?_
  refine r_iadd C (q := 1550) dw_1549 rfl ?_
  refine r_sld C (q := 1551) hX hbl hbA hL ⟨by omega, by omega⟩ dw_1550 rfl ?_
  refine r_eI (emb_m h1 h2 g) C (k0 := 0) (As := [vI ((xs (v3 + 1).toNat).toInt), vI ((xs (v3 + 2).toNat).toInt), vI ((xs (v3 + 3).toNat).toInt), vI ((xs (v3 + 4).toNat).toInt), vI ((xs (v3 + 5).toNat).toInt)]) (σ' := cm sx (cl38 σm sm)) (c_m_copy (emb_i (emb_m h1 h2 g) C.i) hm) (cm_m sx σm) (cm_ml sx σm sm) (cm_mo sx σm sm) mt_M_copy ml_Law_175 (Nat.le_of_ble_eq_true rfl) rfl rfl rfl (q := 1554) rfl rfl rfl ⟨Nat.le_of_ble_eq_true rfl, Nat.le_of_ble_eq_true rfl⟩ rfl (Nat.le_of_ble_eq_true rfl) dw_1551 rfl ?_
  refine r_st (cm_cl sx σm sm) ?_
  exact r_ic_eq C (t := 1629) (q := 1557) dw_1554 (by decide) rfl (fun _ => hk sx sm hRR) (fun c => absurd rfl c)
theorem lc_38 {X : CxT} {l : Launch} {h1 h2 : Nat → Nat} {g : va_G × ClassId × ClassId × ClassId} (C : Cx X l (lW h1 h2 g) 4 code R_law lw_tbl ret room_1) {b L : Nat} {xs : Nat → Int32} (hX : va_X b L xs X.s X.s.heap) (hbl : b < X.s.heap.size) (hbA : ¬ xA (lW h1 h2 g) X.s.heap.size b) (hL : L < 2147483648) {N : Nat} {RR : St → St → Prop} {σx σm : St} (hS : ∀ a0 : Int, i32 a0 → ∀ a1 : Int, i32 a1 → OKp RR (x_write N a0 a1 σx) (m_write N a0 a1 σm)) {v3 : Int} (hv : 0 ≤ v3) (hv2 : v3 + 8 ≤ L) (hk : ∀ sx sm, RR sx sm → Rj X (lW h1 h2 g) 4 (lw_Z X.below #[Value.ref b] X.s) 1629 [(0, .ref b), (1, .ref (h1 0)), (2, .ref (h2 0)), (3, vI v3)] [] (cm sx sm)) : Rj X (lW h1 h2 g) 4 (lw_Z X.below #[Value.ref b] X.s) 1559 [(0, .ref b), (1, .ref (h1 0)), (2, .ref (h2 0)), (3, vI v3)] [] (cm σx σm) := by
  refine r_aload_n C (q := 1560) 1 dw_1559 rfl rfl rfl ?_
  refine r_aload_n C (q := 1561) 0 dw_1560 rfl rfl rfl ?_
  refine r_iload_n C (q := 1562) 3 dw_1561 rfl rfl rfl ?_
  refine r_iconst C (q := 1563) dw_1562 rfl ?_
  refine r_iadd C (q := 1564) dw_1563 rfl ?_
  refine r_sld C (q := 1565) hX hbl hbA hL ⟨by omega, by omega⟩ dw_1564 rfl ?_
  refine r_aload_n C (q := 1566) 0 dw_1565 rfl rfl rfl ?_
  refine r_iload_n C (q := 1567) 3 dw_1566 rfl rfl rfl ?_
  refine r_iconst C (q := 1568) dw_1567 rfl ?_
  refine r_iadd C (q := 1569) dw_1568 rfl ?_
  refine r_sld C (q := 1570) hX hbl hbA hL ⟨by omega, by omega⟩ dw_1569 rfl ?_
  obtain ⟨r1, sx, sm, hx, hm, hRR⟩ := hS ((xs (v3 + 1).toNat).toInt) (sc_r _) ((xs (v3 + 2).toNat).toInt) (sc_r _)
  refine r_eI (emb_x h1 h2 g) C (k0 := 0) (As := [vI ((xs (v3 + 1).toNat).toInt), vI ((xs (v3 + 2).toNat).toInt)]) (σ' := cm sx σm) (c_x_write (emb_i (emb_x h1 h2 g) C.i) hx) (cm_x σx σm) (cm_x sx σm) (cm_xo σx sx σm) mt_O_write ml_Law_176 (Nat.le_of_ble_eq_true rfl) rfl rfl rfl (q := 1573) rfl rfl rfl ⟨Nat.le_of_ble_eq_true rfl, Nat.le_of_ble_eq_true rfl⟩ rfl (Nat.le_of_ble_eq_true rfl) dw_1570 rfl ?_
  refine r_aload_n C (q := 1574) 2 dw_1573 rfl rfl rfl ?_
  refine r_aload_n C (q := 1575) 0 dw_1574 rfl rfl rfl ?_
  refine r_iload_n C (q := 1576) 3 dw_1575 rfl rfl rfl ?_
  refine r_iconst C (q := 1577) dw_1576 rfl ?_
  refine r_iadd C (q := 1578) dw_1577 rfl ?_
  refine r_sld C (q := 1579) hX hbl hbA hL ⟨by omega, by omega⟩ dw_1578 rfl ?_
  refine r_aload_n C (q := 1580) 0 dw_1579 rfl rfl rfl ?_
  refine r_iload_n C (q := 1581) 3 dw_1580 rfl rfl rfl ?_
  refine r_iconst C (q := 1582) dw_1581 rfl ?_
  refine r_iadd C (q := 1583) dw_1582 rfl ?_
  refine r_sld C (q := 1584) hX hbl hbA hL ⟨by omega, by omega⟩ dw_1583 rfl ?_
  refine r_eI (emb_m h1 h2 g) C (k0 := 0) (As := [vI ((xs (v3 + 1).toNat).toInt), vI ((xs (v3 + 2).toNat).toInt)]) (σ' := cm sx (cl38 σm sm)) (c_m_write (emb_i (emb_m h1 h2 g) C.i) hm) (cm_m sx σm) (cm_ml sx σm sm) (cm_mo sx σm sm) mt_M_write ml_Law_179 (Nat.le_of_ble_eq_true rfl) rfl rfl rfl (q := 1587) rfl rfl rfl ⟨Nat.le_of_ble_eq_true rfl, Nat.le_of_ble_eq_true rfl⟩ rfl (Nat.le_of_ble_eq_true rfl) dw_1584 rfl ?_
  refine r_st (cm_cl sx σm sm) ?_
  exact r_ic_eq C (t := 1629) (q := 1590) dw_1587 (by decide) rfl (fun _ => hk sx sm hRR) (fun c => absurd rfl c)
theorem lc_39 {X : CxT} {l : Launch} {h1 h2 : Nat → Nat} {g : va_G × ClassId × ClassId × ClassId} (C : Cx X l (lW h1 h2 g) 4 code R_law lw_tbl ret room_1) {b L : Nat} {xs : Nat → Int32} (hX : va_X b L xs X.s X.s.heap) (hbl : b < X.s.heap.size) (hbA : ¬ xA (lW h1 h2 g) X.s.heap.size b) (hL : L < 2147483648) {N : Nat} {RR : St → St → Prop} {σx σm : St} (hS : ∀ a0 : Int, i32 a0 → OKp RR (x_count N a0 σx) (m_count N a0 σm)) {v3 : Int} (hv : 0 ≤ v3) (hv2 : v3 + 8 ≤ L) (hk : ∀ sx sm, RR sx sm → Rj X (lW h1 h2 g) 4 (lw_Z X.below #[Value.ref b] X.s) 1629 [(0, .ref b), (1, .ref (h1 0)), (2, .ref (h2 0)), (3, vI v3)] [] (cm sx sm)) : Rj X (lW h1 h2 g) 4 (lw_Z X.below #[Value.ref b] X.s) 1592 [(0, .ref b), (1, .ref (h1 0)), (2, .ref (h2 0)), (3, vI v3)] [] (cm σx σm) := by
  refine r_aload_n C (q := 1593) 1 dw_1592 rfl rfl rfl ?_
  refine r_aload_n C (q := 1594) 0 dw_1593 rfl rfl rfl ?_
  refine r_iload_n C (q := 1595) 3 dw_1594 rfl rfl rfl ?_
  refine r_iconst C (q := 1596) dw_1595 rfl ?_
  refine r_iadd C (q := 1597) dw_1596 rfl ?_
  refine r_sld C (q := 1598) hX hbl hbA hL ⟨by omega, by omega⟩ dw_1597 rfl ?_
  obtain ⟨r1, sx, sm, hx, hm, hRR⟩ := hS ((xs (v3 + 1).toNat).toInt) (sc_r _)
  refine r_eI (emb_x h1 h2 g) C (k0 := 0) (As := [vI ((xs (v3 + 1).toNat).toInt)]) (σ' := cm sx σm) (c_x_count (emb_i (emb_x h1 h2 g) C.i) hx) (cm_x σx σm) (cm_x sx σm) (cm_xo σx sx σm) mt_O_count ml_Law_180 (Nat.le_of_ble_eq_true rfl) rfl rfl rfl (q := 1601) rfl rfl rfl ⟨Nat.le_of_ble_eq_true rfl, Nat.le_of_ble_eq_true rfl⟩ rfl (Nat.le_of_ble_eq_true rfl) dw_1598 rfl ?_
  refine r_aload_n C (q := 1602) 2 dw_1601 rfl rfl rfl ?_
  refine r_aload_n C (q := 1603) 0 dw_1602 rfl rfl rfl ?_
  refine r_iload_n C (q := 1604) 3 dw_1603 rfl rfl rfl ?_
  refine r_iconst C (q := 1605) dw_1604 rfl ?_
  refine r_iadd C (q := 1606) dw_1605 rfl ?_
  refine r_sld C (q := 1607) hX hbl hbA hL ⟨by omega, by omega⟩ dw_1606 rfl ?_
  refine r_eI (emb_m h1 h2 g) C (k0 := 0) (As := [vI ((xs (v3 + 1).toNat).toInt)]) (σ' := cm sx (cl38 σm sm)) (c_m_count (emb_i (emb_m h1 h2 g) C.i) hm) (cm_m sx σm) (cm_ml sx σm sm) (cm_mo sx σm sm) mt_M_count ml_Law_183 (Nat.le_of_ble_eq_true rfl) rfl rfl rfl (q := 1610) rfl rfl rfl ⟨Nat.le_of_ble_eq_true rfl, Nat.le_of_ble_eq_true rfl⟩ rfl (Nat.le_of_ble_eq_true rfl) dw_1607 rfl ?_
  refine r_st (cm_cl sx σm sm) ?_
  exact r_ic_eq C (t := 1629) (q := 1613) dw_1610 (by decide) rfl (fun _ => hk sx sm hRR) (fun c => absurd rfl c)
theorem lc_40 {X : CxT} {l : Launch} {h1 h2 : Nat → Nat} {g : va_G × ClassId × ClassId × ClassId} (C : Cx X l (lW h1 h2 g) 4 code R_law lw_tbl ret room_1) {b L : Nat} {xs : Nat → Int32} (hX : va_X b L xs X.s X.s.heap) (hbl : b < X.s.heap.size) (hbA : ¬ xA (lW h1 h2 g) X.s.heap.size b) (hL : L < 2147483648) {N : Nat} {RR : St → St → Prop} {σx σm : St} (hS : OKp RR (x_digest N σx) (m_digest N σm)) {v3 : Int} (hv : 0 ≤ v3) (hv2 : v3 + 8 ≤ L) (hk : ∀ sx sm, RR sx sm → Rj X (lW h1 h2 g) 4 (lw_Z X.below #[Value.ref b] X.s) 1629 [(0, .ref b), (1, .ref (h1 0)), (2, .ref (h2 0)), (3, vI v3)] [] (cm sx sm)) : Rj X (lW h1 h2 g) 4 (lw_Z X.below #[Value.ref b] X.s) 1615 [(0, .ref b), (1, .ref (h1 0)), (2, .ref (h2 0)), (3, vI v3)] [] (cm σx σm) := by
  refine r_aload_n C (q := 1616) 1 dw_1615 rfl rfl rfl ?_
  obtain ⟨r1, sx, sm, hx, hm, hRR⟩ := hS 
  refine r_eL (emb_x h1 h2 g) C (k0 := 0) (As := []) (σ' := cm sx σm) (c_x_digest (emb_i (emb_x h1 h2 g) C.i) hx) (cm_x σx σm) (cm_x sx σm) (cm_xo σx sx σm) mt_O_digest ml_Law_184 (Nat.le_of_ble_eq_true rfl) rfl rfl rfl (q := 1619) rfl rfl rfl ⟨Nat.le_of_ble_eq_true rfl, Nat.le_of_ble_eq_true rfl⟩ rfl (Nat.le_of_ble_eq_true rfl) dw_1616 rfl ?_
  refine r_aload_n C (q := 1620) 2 dw_1619 rfl rfl rfl ?_
  refine r_eL (emb_m h1 h2 g) C (k0 := 0) (As := []) (σ' := cm sx (cl38 σm sm)) (c_m_digest (emb_i (emb_m h1 h2 g) C.i) hm) (cm_m sx σm) (cm_ml sx σm sm) (cm_mo sx σm sm) mt_M_digest ml_Law_188 (Nat.le_of_ble_eq_true rfl) rfl rfl rfl (q := 1623) rfl rfl rfl ⟨Nat.le_of_ble_eq_true rfl, Nat.le_of_ble_eq_true rfl⟩ rfl (Nat.le_of_ble_eq_true rfl) dw_1620 rfl ?_
  refine r_st (cm_cl sx σm sm) ?_
  exact r_lc_eq C (t := 1629) (q := 1624) (q2 := 1627) dw_1623 rfl dw_1624 (by decide) rfl (fun _ => hk sx sm hRR) (fun c => absurd rfl c)
