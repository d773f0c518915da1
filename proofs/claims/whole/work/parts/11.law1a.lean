theorem dw_212 : decode code 212 = .ok (.aload_n 1, 1) := by decide +kernel
theorem dw_213 : decode code 213 = .ok (.aload_n 0, 1) := by decide +kernel
theorem dw_214 : decode code 214 = .ok (.iload_n 3, 1) := by decide +kernel
theorem dw_215 : decode code 215 = .ok (.iconst 1, 1) := by decide +kernel
theorem dw_216 : decode code 216 = .ok (.iadd, 1) := by decide +kernel
theorem dw_217 : decode code 217 = .ok (.iaload, 1) := by decide +kernel
theorem dw_218 : decode code 218 = .ok (.invokevirtual 13, 3) := by decide +kernel
theorem ml_Law_13 : Cond.methodLink R_law 13 y_O_pass ∈ tb_g := (tb_at (i := 319) (by decide +kernel))
theorem mt_O_pass : mtV y_O_pass prog_1_method_2_code 2 (some .int) 1 := ⟨(tb_at (i := 322) (by decide +kernel)), (tb_at (i := 1) (by decide +kernel)), (tb_at (i := 320) (by decide +kernel)), (tb_at (i := 321) (by decide +kernel)), ⟨by decide +kernel, by decide +kernel, by decide +kernel⟩⟩
theorem dw_221 : decode code 221 = .ok (.aload_n 2, 1) := by decide +kernel
theorem dw_222 : decode code 222 = .ok (.aload_n 0, 1) := by decide +kernel
theorem dw_223 : decode code 223 = .ok (.iload_n 3, 1) := by decide +kernel
theorem dw_224 : decode code 224 = .ok (.iconst 1, 1) := by decide +kernel
theorem dw_225 : decode code 225 = .ok (.iadd, 1) := by decide +kernel
theorem dw_226 : decode code 226 = .ok (.iaload, 1) := by decide +kernel
theorem dw_227 : decode code 227 = .ok (.invokevirtual 17, 3) := by decide +kernel
theorem ml_Law_17 : Cond.methodLink R_law 17 y_M_pass ∈ tb_g := (tb_at (i := 1121) (by decide +kernel))
theorem mt_M_pass : mtV y_M_pass prog_14_method_7_code 2 (some .int) 1 := ⟨(tb_at (i := 1124) (by decide +kernel)), (tb_at (i := 14) (by decide +kernel)), (tb_at (i := 1122) (by decide +kernel)), (tb_at (i := 1123) (by decide +kernel)), ⟨by decide +kernel, by decide +kernel, by decide +kernel⟩⟩
theorem dw_230 : decode code 230 = .ok (.if_icmp .eq 1399, 3) := by decide +kernel
theorem dw_235 : decode code 235 = .ok (.aload_n 1, 1) := by decide +kernel
theorem dw_236 : decode code 236 = .ok (.aload_n 0, 1) := by decide +kernel
theorem dw_237 : decode code 237 = .ok (.iload_n 3, 1) := by decide +kernel
theorem dw_238 : decode code 238 = .ok (.iconst 1, 1) := by decide +kernel
theorem dw_239 : decode code 239 = .ok (.iadd, 1) := by decide +kernel
theorem dw_240 : decode code 240 = .ok (.iaload, 1) := by decide +kernel
theorem dw_241 : decode code 241 = .ok (.aload_n 0, 1) := by decide +kernel
theorem dw_242 : decode code 242 = .ok (.iload_n 3, 1) := by decide +kernel
theorem dw_243 : decode code 243 = .ok (.iconst 2, 1) := by decide +kernel
theorem dw_244 : decode code 244 = .ok (.iadd, 1) := by decide +kernel
theorem dw_245 : decode code 245 = .ok (.iaload, 1) := by decide +kernel
theorem dw_246 : decode code 246 = .ok (.aload_n 0, 1) := by decide +kernel
theorem dw_247 : decode code 247 = .ok (.iload_n 3, 1) := by decide +kernel
theorem dw_248 : decode code 248 = .ok (.iconst 3, 1) := by decide +kernel
theorem dw_249 : decode code 249 = .ok (.iadd, 1) := by decide +kernel
theorem dw_250 : decode code 250 = .ok (.iaload, 1) := by decide +kernel
theorem dw_251 : decode code 251 = .ok (.aload_n 0, 1) := by decide +kernel
theorem dw_252 : decode code 252 = .ok (.iload_n 3, 1) := by decide +kernel
theorem dw_253 : decode code 253 = .ok (.iconst 4, 1) := by decide +kernel
theorem dw_254 : decode code 254 = .ok (.iadd, 1) := by decide +kernel
theorem dw_255 : decode code 255 = .ok (.iaload, 1) := by decide +kernel
theorem dw_256 : decode code 256 = .ok (.aload_n 0, 1) := by decide +kernel
theorem dw_257 : decode code 257 = .ok (.iload_n 3, 1) := by decide +kernel
theorem dw_258 : decode code 258 = .ok (.iconst 5, 1) := by decide +kernel
theorem dw_259 : decode code 259 = .ok (.iadd, 1) := by decide +kernel
theorem dw_260 : decode code 260 = .ok (.iaload, 1) := by decide +kernel
theorem dw_261 : decode code 261 = .ok (.aload_n 0, 1) := by decide +kernel
theorem dw_262 : decode code 262 = .ok (.iload_n 3, 1) := by decide +kernel
theorem dw_263 : decode code 263 = .ok (.bipush 6, 2) := by decide +kernel
theorem dw_265 : decode code 265 = .ok (.iadd, 1) := by decide +kernel
theorem dw_266 : decode code 266 = .ok (.iaload, 1) := by decide +kernel
theorem dw_267 : decode code 267 = .ok (.aload_n 0, 1) := by decide +kernel
theorem dw_268 : decode code 268 = .ok (.iload_n 3, 1) := by decide +kernel
theorem dw_269 : decode code 269 = .ok (.bipush 7, 2) := by decide +kernel
theorem dw_271 : decode code 271 = .ok (.iadd, 1) := by decide +kernel
theorem dw_272 : decode code 272 = .ok (.iaload, 1) := by decide +kernel
theorem dw_273 : decode code 273 = .ok (.invokevirtual 18, 3) := by decide +kernel
theorem ml_Law_18 : Cond.methodLink R_law 18 y_O_row ∈ tb_g := (tb_at (i := 326) (by decide +kernel))
theorem mt_O_row : mtV y_O_row prog_1_method_3_code 10 (some .int) 7 := ⟨(tb_at (i := 329) (by decide +kernel)), (tb_at (i := 1) (by decide +kernel)), (tb_at (i := 327) (by decide +kernel)), (tb_at (i := 328) (by decide +kernel)), ⟨by decide +kernel, by decide +kernel, by decide +kernel⟩⟩
theorem dw_276 : decode code 276 = .ok (.aload_n 2, 1) := by decide +kernel
theorem dw_277 : decode code 277 = .ok (.aload_n 0, 1) := by decide +kernel
theorem dw_278 : decode code 278 = .ok (.iload_n 3, 1) := by decide +kernel
theorem dw_279 : decode code 279 = .ok (.iconst 1, 1) := by decide +kernel
theorem dw_280 : decode code 280 = .ok (.iadd, 1) := by decide +kernel
theorem dw_281 : decode code 281 = .ok (.iaload, 1) := by decide +kernel
theorem dw_282 : decode code 282 = .ok (.aload_n 0, 1) := by decide +kernel
theorem dw_283 : decode code 283 = .ok (.iload_n 3, 1) := by decide +kernel
theorem dw_284 : decode code 284 = .ok (.iconst 2, 1) := by decide +kernel
theorem dw_285 : decode code 285 = .ok (.iadd, 1) := by decide +kernel
theorem dw_286 : decode code 286 = .ok (.iaload, 1) := by decide +kernel
theorem dw_287 : decode code 287 = .ok (.aload_n 0, 1) := by decide +kernel
theorem dw_288 : decode code 288 = .ok (.iload_n 3, 1) := by decide +kernel
theorem dw_289 : decode code 289 = .ok (.iconst 3, 1) := by decide +kernel
theorem dw_290 : decode code 290 = .ok (.iadd, 1) := by decide +kernel
theorem dw_291 : decode code 291 = .ok (.iaload, 1) := by decide +kernel
theorem dw_292 : decode code 292 = .ok (.aload_n 0, 1) := by decide +kernel
theorem dw_293 : decode code 293 = .ok (.iload_n 3, 1) := by decide +kernel
theorem dw_294 : decode code 294 = .ok (.iconst 4, 1) := by decide +kernel
theorem dw_295 : decode code 295 = .ok (.iadd, 1) := by decide +kernel
theorem dw_296 : decode code 296 = .ok (.iaload, 1) := by decide +kernel
theorem dw_297 : decode code 297 = .ok (.aload_n 0, 1) := by decide +kernel
theorem dw_298 : decode code 298 = .ok (.iload_n 3, 1) := by decide +kernel
theorem dw_299 : decode code 299 = .ok (.iconst 5, 1) := by decide +kernel
theorem dw_300 : decode code 300 = .ok (.iadd, 1) := by decide +kernel
theorem dw_301 : decode code 301 = .ok (.iaload, 1) := by decide +kernel
theorem dw_302 : decode code 302 = .ok (.aload_n 0, 1) := by decide +kernel
theorem dw_303 : decode code 303 = .ok (.iload_n 3, 1) := by decide +kernel
theorem dw_304 : decode code 304 = .ok (.bipush 6, 2) := by decide +kernel
theorem dw_306 : decode code 306 = .ok (.iadd, 1) := by decide +kernel
theorem dw_307 : decode code 307 = .ok (.iaload, 1) := by decide +kernel
theorem dw_308 : decode code 308 = .ok (.aload_n 0, 1) := by decide +kernel
theorem dw_309 : decode code 309 = .ok (.iload_n 3, 1) := by decide +kernel
theorem dw_310 : decode code 310 = .ok (.bipush 7, 2) := by decide +kernel
theorem dw_312 : decode code 312 = .ok (.iadd, 1) := by decide +kernel
theorem dw_313 : decode code 313 = .ok (.iaload, 1) := by decide +kernel
theorem dw_314 : decode code 314 = .ok (.invokevirtual 22, 3) := by decide +kernel
theorem ml_Law_22 : Cond.methodLink R_law 22 y_M_row ∈ tb_g := (tb_at (i := 1128) (by decide +kernel))
theorem mt_M_row : mtV y_M_row prog_14_method_8_code 9 (some .int) 7 := ⟨(tb_at (i := 1131) (by decide +kernel)), (tb_at (i := 14) (by decide +kernel)), (tb_at (i := 1129) (by decide +kernel)), (tb_at (i := 1130) (by decide +kernel)), ⟨by decide +kernel, by decide +kernel, by decide +kernel⟩⟩
theorem dw_317 : decode code 317 = .ok (.if_icmp .eq 1312, 3) := by decide +kernel
theorem dw_322 : decode code 322 = .ok (.aload_n 1, 1) := by decide +kernel
theorem dw_323 : decode code 323 = .ok (.aload_n 0, 1) := by decide +kernel
theorem dw_324 : decode code 324 = .ok (.iload_n 3, 1) := by decide +kernel
theorem dw_325 : decode code 325 = .ok (.iconst 1, 1) := by decide +kernel
theorem dw_326 : decode code 326 = .ok (.iadd, 1) := by decide +kernel
theorem dw_327 : decode code 327 = .ok (.iaload, 1) := by decide +kernel
theorem dw_328 : decode code 328 = .ok (.invokevirtual 23, 3) := by decide +kernel
theorem ml_Law_23 : Cond.methodLink R_law 23 y_O_takeBack ∈ tb_g := (tb_at (i := 406) (by decide +kernel))
theorem mt_O_takeBack : mtV y_O_takeBack prog_1_method_4_code 2 (some .int) 1 := ⟨(tb_at (i := 409) (by decide +kernel)), (tb_at (i := 1) (by decide +kernel)), (tb_at (i := 407) (by decide +kernel)), (tb_at (i := 408) (by decide +kernel)), ⟨by decide +kernel, by decide +kernel, by decide +kernel⟩⟩
theorem dw_331 : decode code 331 = .ok (.aload_n 2, 1) := by decide +kernel
theorem dw_332 : decode code 332 = .ok (.aload_n 0, 1) := by decide +kernel
theorem dw_333 : decode code 333 = .ok (.iload_n 3, 1) := by decide +kernel
theorem dw_334 : decode code 334 = .ok (.iconst 1, 1) := by decide +kernel
theorem dw_335 : decode code 335 = .ok (.iadd, 1) := by decide +kernel
theorem dw_336 : decode code 336 = .ok (.iaload, 1) := by decide +kernel
theorem dw_337 : decode code 337 = .ok (.invokevirtual 26, 3) := by decide +kernel
theorem ml_Law_26 : Cond.methodLink R_law 26 y_M_takeBack ∈ tb_g := (tb_at (i := 1139) (by decide +kernel))
theorem mt_M_takeBack : mtV y_M_takeBack prog_14_method_9_code 2 (some .int) 1 := ⟨(tb_at (i := 1142) (by decide +kernel)), (tb_at (i := 14) (by decide +kernel)), (tb_at (i := 1140) (by decide +kernel)), (tb_at (i := 1141) (by decide +kernel)), ⟨by decide +kernel, by decide +kernel, by decide +kernel⟩⟩
theorem dw_340 : decode code 340 = .ok (.if_icmp .eq 1289, 3) := by decide +kernel
theorem dw_345 : decode code 345 = .ok (.aload_n 1, 1) := by decide +kernel
theorem dw_346 : decode code 346 = .ok (.aload_n 0, 1) := by decide +kernel
theorem dw_347 : decode code 347 = .ok (.iload_n 3, 1) := by decide +kernel
theorem dw_348 : decode code 348 = .ok (.iconst 1, 1) := by decide +kernel
theorem dw_349 : decode code 349 = .ok (.iadd, 1) := by decide +kernel
theorem dw_350 : decode code 350 = .ok (.iaload, 1) := by decide +kernel
theorem dw_351 : decode code 351 = .ok (.aload_n 0, 1) := by decide +kernel
theorem dw_352 : decode code 352 = .ok (.iload_n 3, 1) := by decide +kernel
theorem dw_353 : decode code 353 = .ok (.iconst 2, 1) := by decide +kernel
theorem dw_354 : decode code 354 = .ok (.iadd, 1) := by decide +kernel
theorem dw_355 : decode code 355 = .ok (.iaload, 1) := by decide +kernel
theorem dw_356 : decode code 356 = .ok (.invokevirtual 27, 3) := by decide +kernel
theorem ml_Law_27 : Cond.methodLink R_law 27 y_O_about ∈ tb_g := (tb_at (i := 420) (by decide +kernel))
theorem dw_359 : decode code 359 = .ok (.aload_n 2, 1) := by decide +kernel
theorem dw_360 : decode code 360 = .ok (.aload_n 0, 1) := by decide +kernel
theorem dw_361 : decode code 361 = .ok (.iload_n 3, 1) := by decide +kernel
theorem dw_362 : decode code 362 = .ok (.iconst 1, 1) := by decide +kernel
theorem dw_363 : decode code 363 = .ok (.iadd, 1) := by decide +kernel
theorem dw_364 : decode code 364 = .ok (.iaload, 1) := by decide +kernel
theorem dw_365 : decode code 365 = .ok (.aload_n 0, 1) := by decide +kernel
theorem dw_366 : decode code 366 = .ok (.iload_n 3, 1) := by decide +kernel
theorem dw_367 : decode code 367 = .ok (.iconst 2, 1) := by decide +kernel
theorem dw_368 : decode code 368 = .ok (.iadd, 1) := by decide +kernel
theorem dw_369 : decode code 369 = .ok (.iaload, 1) := by decide +kernel
theorem dw_370 : decode code 370 = .ok (.invokevirtual 31, 3) := by decide +kernel
theorem ml_Law_31 : Cond.methodLink R_law 31 y_M_about ∈ tb_g := (tb_at (i := 1147) (by decide +kernel))
theorem mt_M_about : mtV y_M_about prog_14_method_11_code 3 (some .int) 2 := ⟨(tb_at (i := 1150) (by decide +kernel)), (tb_at (i := 14) (by decide +kernel)), (tb_at (i := 1148) (by decide +kernel)), (tb_at (i := 1149) (by decide +kernel)), ⟨by decide +kernel, by decide +kernel, by decide +kernel⟩⟩
theorem dw_373 : decode code 373 = .ok (.if_icmp .eq 1256, 3) := by decide +kernel
theorem dw_378 : decode code 378 = .ok (.aload_n 1, 1) := by decide +kernel
theorem dw_379 : decode code 379 = .ok (.aload_n 0, 1) := by decide +kernel
theorem dw_380 : decode code 380 = .ok (.iload_n 3, 1) := by decide +kernel
theorem dw_381 : decode code 381 = .ok (.iconst 1, 1) := by decide +kernel
theorem dw_382 : decode code 382 = .ok (.iadd, 1) := by decide +kernel
theorem dw_383 : decode code 383 = .ok (.iaload, 1) := by decide +kernel
theorem dw_384 : decode code 384 = .ok (.aload_n 0, 1) := by decide +kernel
theorem dw_385 : decode code 385 = .ok (.iload_n 3, 1) := by decide +kernel
theorem dw_386 : decode code 386 = .ok (.iconst 2, 1) := by decide +kernel
theorem dw_387 : decode code 387 = .ok (.iadd, 1) := by decide +kernel
theorem dw_388 : decode code 388 = .ok (.iaload, 1) := by decide +kernel
theorem dw_389 : decode code 389 = .ok (.invokevirtual 32, 3) := by decide +kernel
theorem ml_Law_32 : Cond.methodLink R_law 32 y_O_letter ∈ tb_g := (tb_at (i := 431) (by decide +kernel))
theorem mt_O_letter : mtV y_O_letter prog_1_method_6_code 3 (some .int) 2 := ⟨(tb_at (i := 434) (by decide +kernel)), (tb_at (i := 1) (by decide +kernel)), (tb_at (i := 432) (by decide +kernel)), (tb_at (i := 433) (by decide +kernel)), ⟨by decide +kernel, by decide +kernel, by decide +kernel⟩⟩
theorem dw_392 : decode code 392 = .ok (.aload_n 2, 1) := by decide +kernel
theorem dw_393 : decode code 393 = .ok (.aload_n 0, 1) := by decide +kernel
theorem dw_394 : decode code 394 = .ok (.iload_n 3, 1) := by decide +kernel
theorem dw_395 : decode code 395 = .ok (.iconst 1, 1) := by decide +kernel
theorem dw_396 : decode code 396 = .ok (.iadd, 1) := by decide +kernel
theorem dw_397 : decode code 397 = .ok (.iaload, 1) := by decide +kernel
theorem dw_398 : decode code 398 = .ok (.aload_n 0, 1) := by decide +kernel
theorem dw_399 : decode code 399 = .ok (.iload_n 3, 1) := by decide +kernel
theorem dw_400 : decode code 400 = .ok (.iconst 2, 1) := by decide +kernel
theorem dw_401 : decode code 401 = .ok (.iadd, 1) := by decide +kernel
theorem dw_402 : decode code 402 = .ok (.iaload, 1) := by decide +kernel
theorem dw_403 : decode code 403 = .ok (.invokevirtual 35, 3) := by decide +kernel
theorem ml_Law_35 : Cond.methodLink R_law 35 y_M_letter ∈ tb_g := (tb_at (i := 1159) (by decide +kernel))
theorem mt_M_letter : mtV y_M_letter prog_14_method_12_code 3 (some .int) 2 := ⟨(tb_at (i := 1162) (by decide +kernel)), (tb_at (i := 14) (by decide +kernel)), (tb_at (i := 1160) (by decide +kernel)), (tb_at (i := 1161) (by decide +kernel)), ⟨by decide +kernel, by decide +kernel, by decide +kernel⟩⟩
theorem dw_406 : decode code 406 = .ok (.if_icmp .eq 1223, 3) := by decide +kernel
theorem dw_411 : decode code 411 = .ok (.aload_n 1, 1) := by decide +kernel
theorem dw_412 : decode code 412 = .ok (.aload_n 0, 1) := by decide +kernel
theorem dw_413 : decode code 413 = .ok (.iload_n 3, 1) := by decide +kernel
theorem dw_414 : decode code 414 = .ok (.iconst 1, 1) := by decide +kernel
theorem dw_415 : decode code 415 = .ok (.iadd, 1) := by decide +kernel
theorem dw_416 : decode code 416 = .ok (.iaload, 1) := by decide +kernel
theorem dw_417 : decode code 417 = .ok (.invokevirtual 36, 3) := by decide +kernel
theorem ml_Law_36 : Cond.methodLink R_law 36 y_O_asOf ∈ tb_g := (tb_at (i := 436) (by decide +kernel))
theorem mt_O_asOf : mtV y_O_asOf prog_1_method_7_code 3 (some .int) 1 := ⟨(tb_at (i := 439) (by decide +kernel)), (tb_at (i := 1) (by decide +kernel)), (tb_at (i := 437) (by decide +kernel)), (tb_at (i := 438) (by decide +kernel)), ⟨by decide +kernel, by decide +kernel, by decide +kernel⟩⟩
theorem dw_420 : decode code 420 = .ok (.aload_n 2, 1) := by decide +kernel
theorem dw_421 : decode code 421 = .ok (.aload_n 0, 1) := by decide +kernel
theorem dw_422 : decode code 422 = .ok (.iload_n 3, 1) := by decide +kernel
theorem dw_423 : decode code 423 = .ok (.iconst 1, 1) := by decide +kernel
theorem dw_424 : decode code 424 = .ok (.iadd, 1) := by decide +kernel
theorem dw_425 : decode code 425 = .ok (.iaload, 1) := by decide +kernel
theorem dw_426 : decode code 426 = .ok (.invokevirtual 39, 3) := by decide +kernel
theorem ml_Law_39 : Cond.methodLink R_law 39 y_M_asOf ∈ tb_g := (tb_at (i := 1163) (by decide +kernel))
theorem mt_M_asOf : mtV y_M_asOf prog_14_method_13_code 3 (some .int) 1 := ⟨(tb_at (i := 1166) (by decide +kernel)), (tb_at (i := 14) (by decide +kernel)), (tb_at (i := 1164) (by decide +kernel)), (tb_at (i := 1165) (by decide +kernel)), ⟨by decide +kernel, by decide +kernel, by decide +kernel⟩⟩
theorem dw_429 : decode code 429 = .ok (.if_icmp .eq 1200, 3) := by decide +kernel
theorem dw_434 : decode code 434 = .ok (.aload_n 1, 1) := by decide +kernel
theorem dw_435 : decode code 435 = .ok (.aload_n 0, 1) := by decide +kernel
theorem dw_436 : decode code 436 = .ok (.iload_n 3, 1) := by decide +kernel
theorem dw_437 : decode code 437 = .ok (.iconst 1, 1) := by decide +kernel
theorem dw_438 : decode code 438 = .ok (.iadd, 1) := by decide +kernel
theorem dw_439 : decode code 439 = .ok (.iaload, 1) := by decide +kernel
theorem dw_440 : decode code 440 = .ok (.aload_n 0, 1) := by decide +kernel
theorem dw_441 : decode code 441 = .ok (.iload_n 3, 1) := by decide +kernel
theorem dw_442 : decode code 442 = .ok (.iconst 2, 1) := by decide +kernel
theorem dw_443 : decode code 443 = .ok (.iadd, 1) := by decide +kernel
theorem dw_444 : decode code 444 = .ok (.iaload, 1) := by decide +kernel
theorem dw_445 : decode code 445 = .ok (.aload_n 0, 1) := by decide +kernel
theorem dw_446 : decode code 446 = .ok (.iload_n 3, 1) := by decide +kernel
theorem dw_447 : decode code 447 = .ok (.iconst 3, 1) := by decide +kernel
theorem dw_448 : decode code 448 = .ok (.iadd, 1) := by decide +kernel
theorem dw_449 : decode code 449 = .ok (.iaload, 1) := by decide +kernel
theorem dw_450 : decode code 450 = .ok (.invokevirtual 40, 3) := by decide +kernel
theorem ml_Law_40 : Cond.methodLink R_law 40 y_O_way ∈ tb_g := (tb_at (i := 440) (by decide +kernel))
theorem mt_O_way : mtV y_O_way prog_1_method_8_code 4 (some .int) 3 := ⟨(tb_at (i := 443) (by decide +kernel)), (tb_at (i := 1) (by decide +kernel)), (tb_at (i := 441) (by decide +kernel)), (tb_at (i := 442) (by decide +kernel)), ⟨by decide +kernel, by decide +kernel, by decide +kernel⟩⟩
theorem dw_453 : decode code 453 = .ok (.aload_n 2, 1) := by decide +kernel
theorem dw_454 : decode code 454 = .ok (.aload_n 0, 1) := by decide +kernel
theorem dw_455 : decode code 455 = .ok (.iload_n 3, 1) := by decide +kernel
theorem dw_456 : decode code 456 = .ok (.iconst 1, 1) := by decide +kernel
theorem dw_457 : decode code 457 = .ok (.iadd, 1) := by decide +kernel
theorem dw_458 : decode code 458 = .ok (.iaload, 1) := by decide +kernel
theorem dw_459 : decode code 459 = .ok (.aload_n 0, 1) := by decide +kernel
theorem dw_460 : decode code 460 = .ok (.iload_n 3, 1) := by decide +kernel
theorem dw_461 : decode code 461 = .ok (.iconst 2, 1) := by decide +kernel
theorem dw_462 : decode code 462 = .ok (.iadd, 1) := by decide +kernel
theorem dw_463 : decode code 463 = .ok (.iaload, 1) := by decide +kernel
theorem dw_464 : decode code 464 = .ok (.aload_n 0, 1) := by decide +kernel
theorem dw_465 : decode code 465 = .ok (.iload_n 3, 1) := by decide +kernel
theorem dw_466 : decode code 466 = .ok (.iconst 3, 1) := by decide +kernel
theorem dw_467 : decode code 467 = .ok (.iadd, 1) := by decide +kernel
theorem dw_468 : decode code 468 = .ok (.iaload, 1) := by decide +kernel
theorem dw_469 : decode code 469 = .ok (.invokevirtual 44, 3) := by decide +kernel
theorem ml_Law_44 : Cond.methodLink R_law 44 y_M_way ∈ tb_g := (tb_at (i := 1167) (by decide +kernel))
theorem mt_M_way : mtV y_M_way prog_14_method_14_code 5 (some .int) 3 := ⟨(tb_at (i := 1170) (by decide +kernel)), (tb_at (i := 14) (by decide +kernel)), (tb_at (i := 1168) (by decide +kernel)), (tb_at (i := 1169) (by decide +kernel)), ⟨by decide +kernel, by decide +kernel, by decide +kernel⟩⟩
theorem dw_472 : decode code 472 = .ok (.if_icmp .eq 1157, 3) := by decide +kernel
theorem dw_477 : decode code 477 = .ok (.aload_n 1, 1) := by decide +kernel
theorem dw_478 : decode code 478 = .ok (.aload_n 0, 1) := by decide +kernel
theorem dw_479 : decode code 479 = .ok (.iload_n 3, 1) := by decide +kernel
theorem dw_480 : decode code 480 = .ok (.iconst 1, 1) := by decide +kernel
theorem dw_481 : decode code 481 = .ok (.iadd, 1) := by decide +kernel
theorem dw_482 : decode code 482 = .ok (.iaload, 1) := by decide +kernel
theorem dw_483 : decode code 483 = .ok (.invokevirtual 45, 3) := by decide +kernel
theorem ml_Law_45 : Cond.methodLink R_law 45 y_O_type ∈ tb_g := (tb_at (i := 448) (by decide +kernel))
theorem mt_O_type : mtV y_O_type prog_1_method_9_code 2 (some .int) 1 := ⟨(tb_at (i := 451) (by decide +kernel)), (tb_at (i := 1) (by decide +kernel)), (tb_at (i := 449) (by decide +kernel)), (tb_at (i := 450) (by decide +kernel)), ⟨by decide +kernel, by decide +kernel, by decide +kernel⟩⟩
theorem dw_486 : decode code 486 = .ok (.aload_n 2, 1) := by decide +kernel
theorem dw_487 : decode code 487 = .ok (.aload_n 0, 1) := by decide +kernel
theorem dw_488 : decode code 488 = .ok (.iload_n 3, 1) := by decide +kernel
theorem dw_489 : decode code 489 = .ok (.iconst 1, 1) := by decide +kernel
theorem dw_490 : decode code 490 = .ok (.iadd, 1) := by decide +kernel
theorem dw_491 : decode code 491 = .ok (.iaload, 1) := by decide +kernel
theorem dw_492 : decode code 492 = .ok (.invokevirtual 48, 3) := by decide +kernel
theorem ml_Law_48 : Cond.methodLink R_law 48 y_M_type ∈ tb_g := (tb_at (i := 1171) (by decide +kernel))
theorem mt_M_type : mtV y_M_type prog_14_method_15_code 2 (some .int) 1 := ⟨(tb_at (i := 1174) (by decide +kernel)), (tb_at (i := 14) (by decide +kernel)), (tb_at (i := 1172) (by decide +kernel)), (tb_at (i := 1173) (by decide +kernel)), ⟨by decide +kernel, by decide +kernel, by decide +kernel⟩⟩
theorem dw_495 : decode code 495 = .ok (.if_icmp .eq 1134, 3) := by decide +kernel
theorem dw_500 : decode code 500 = .ok (.aload_n 1, 1) := by decide +kernel
theorem dw_501 : decode code 501 = .ok (.invokevirtual 49, 3) := by decide +kernel
theorem ml_Law_49 : Cond.methodLink R_law 49 y_O_wipe ∈ tb_g := (tb_at (i := 476) (by decide +kernel))
theorem mt_O_wipe : mtV y_O_wipe prog_1_method_10_code 2 (some .int) 0 := ⟨(tb_at (i := 479) (by decide +kernel)), (tb_at (i := 1) (by decide +kernel)), (tb_at (i := 477) (by decide +kernel)), (tb_at (i := 478) (by decide +kernel)), ⟨by decide +kernel, by decide +kernel, by decide +kernel⟩⟩
theorem dw_504 : decode code 504 = .ok (.aload_n 2, 1) := by decide +kernel
theorem dw_505 : decode code 505 = .ok (.invokevirtual 53, 3) := by decide +kernel
theorem ml_Law_53 : Cond.methodLink R_law 53 y_M_wipe ∈ tb_g := (tb_at (i := 1175) (by decide +kernel))
theorem mt_M_wipe : mtV y_M_wipe prog_14_method_16_code 2 (some .int) 0 := ⟨(tb_at (i := 1178) (by decide +kernel)), (tb_at (i := 14) (by decide +kernel)), (tb_at (i := 1176) (by decide +kernel)), (tb_at (i := 1177) (by decide +kernel)), ⟨by decide +kernel, by decide +kernel, by decide +kernel⟩⟩
theorem dw_508 : decode code 508 = .ok (.if_icmp .eq 1121, 3) := by decide +kernel
theorem dw_513 : decode code 513 = .ok (.aload_n 1, 1) := by decide +kernel
theorem dw_514 : decode code 514 = .ok (.invokevirtual 54, 3) := by decide +kernel
theorem ml_Law_54 : Cond.methodLink R_law 54 y_O_fault ∈ tb_g := (tb_at (i := 484) (by decide +kernel))
theorem dw_517 : decode code 517 = .ok (.aload_n 2, 1) := by decide +kernel
theorem dw_518 : decode code 518 = .ok (.invokevirtual 57, 3) := by decide +kernel
theorem ml_Law_57 : Cond.methodLink R_law 57 y_M_fault ∈ tb_g := (tb_at (i := 1179) (by decide +kernel))
theorem mt_M_fault : mtV y_M_fault prog_14_method_20_code 1 (some .int) 0 := ⟨(tb_at (i := 1182) (by decide +kernel)), (tb_at (i := 14) (by decide +kernel)), (tb_at (i := 1180) (by decide +kernel)), (tb_at (i := 1181) (by decide +kernel)), ⟨by decide +kernel, by decide +kernel, by decide +kernel⟩⟩
theorem dw_521 : decode code 521 = .ok (.if_icmp .eq 1108, 3) := by decide +kernel
theorem dw_526 : decode code 526 = .ok (.aload_n 1, 1) := by decide +kernel
theorem dw_527 : decode code 527 = .ok (.aload_n 0, 1) := by decide +kernel
theorem dw_528 : decode code 528 = .ok (.iload_n 3, 1) := by decide +kernel
theorem dw_529 : decode code 529 = .ok (.iconst 1, 1) := by decide +kernel
theorem dw_530 : decode code 530 = .ok (.iadd, 1) := by decide +kernel
theorem dw_531 : decode code 531 = .ok (.iaload, 1) := by decide +kernel
theorem dw_532 : decode code 532 = .ok (.aload_n 0, 1) := by decide +kernel
theorem dw_533 : decode code 533 = .ok (.iload_n 3, 1) := by decide +kernel
theorem dw_534 : decode code 534 = .ok (.iconst 2, 1) := by decide +kernel
theorem dw_535 : decode code 535 = .ok (.iadd, 1) := by decide +kernel
theorem dw_536 : decode code 536 = .ok (.iaload, 1) := by decide +kernel
theorem dw_537 : decode code 537 = .ok (.invokevirtual 58, 3) := by decide +kernel
theorem ml_Law_58 : Cond.methodLink R_law 58 y_O_sound ∈ tb_g := (tb_at (i := 488) (by decide +kernel))
theorem mt_O_sound : mtV y_O_sound prog_1_method_12_code 3 (some .int) 2 := ⟨(tb_at (i := 491) (by decide +kernel)), (tb_at (i := 1) (by decide +kernel)), (tb_at (i := 489) (by decide +kernel)), (tb_at (i := 490) (by decide +kernel)), ⟨by decide +kernel, by decide +kernel, by decide +kernel⟩⟩
theorem dw_540 : decode code 540 = .ok (.aload_n 2, 1) := by decide +kernel
theorem dw_541 : decode code 541 = .ok (.aload_n 0, 1) := by decide +kernel
theorem dw_542 : decode code 542 = .ok (.iload_n 3, 1) := by decide +kernel
theorem dw_543 : decode code 543 = .ok (.iconst 1, 1) := by decide +kernel
theorem dw_544 : decode code 544 = .ok (.iadd, 1) := by decide +kernel
theorem dw_545 : decode code 545 = .ok (.iaload, 1) := by decide +kernel
theorem dw_546 : decode code 546 = .ok (.aload_n 0, 1) := by decide +kernel
theorem dw_547 : decode code 547 = .ok (.iload_n 3, 1) := by decide +kernel
theorem dw_548 : decode code 548 = .ok (.iconst 2, 1) := by decide +kernel
theorem dw_549 : decode code 549 = .ok (.iadd, 1) := by decide +kernel
theorem dw_550 : decode code 550 = .ok (.iaload, 1) := by decide +kernel
theorem dw_551 : decode code 551 = .ok (.invokevirtual 61, 3) := by decide +kernel
theorem ml_Law_61 : Cond.methodLink R_law 61 y_M_sound ∈ tb_g := (tb_at (i := 1195) (by decide +kernel))
theorem mt_M_sound : mtV y_M_sound prog_14_method_22_code 3 (some .int) 2 := ⟨(tb_at (i := 1198) (by decide +kernel)), (tb_at (i := 14) (by decide +kernel)), (tb_at (i := 1196) (by decide +kernel)), (tb_at (i := 1197) (by decide +kernel)), ⟨by decide +kernel, by decide +kernel, by decide +kernel⟩⟩
theorem dw_554 : decode code 554 = .ok (.if_icmp .eq 1075, 3) := by decide +kernel
theorem dw_559 : decode code 559 = .ok (.aload_n 1, 1) := by decide +kernel
theorem dw_560 : decode code 560 = .ok (.aload_n 0, 1) := by decide +kernel
theorem dw_561 : decode code 561 = .ok (.iload_n 3, 1) := by decide +kernel
theorem dw_562 : decode code 562 = .ok (.iconst 1, 1) := by decide +kernel
theorem dw_563 : decode code 563 = .ok (.iadd, 1) := by decide +kernel
theorem dw_564 : decode code 564 = .ok (.iaload, 1) := by decide +kernel
theorem dw_565 : decode code 565 = .ok (.aload_n 0, 1) := by decide +kernel
theorem dw_566 : decode code 566 = .ok (.iload_n 3, 1) := by decide +kernel
theorem dw_567 : decode code 567 = .ok (.iconst 2, 1) := by decide +kernel
theorem dw_568 : decode code 568 = .ok (.iadd, 1) := by decide +kernel
theorem dw_569 : decode code 569 = .ok (.iaload, 1) := by decide +kernel
theorem dw_570 : decode code 570 = .ok (.invokevirtual 62, 3) := by decide +kernel
theorem ml_Law_62 : Cond.methodLink R_law 62 y_O_slips ∈ tb_g := (tb_at (i := 500) (by decide +kernel))
theorem mt_O_slips : mtV y_O_slips prog_1_method_13_code 3 (some .int) 2 := ⟨(tb_at (i := 503) (by decide +kernel)), (tb_at (i := 1) (by decide +kernel)), (tb_at (i := 501) (by decide +kernel)), (tb_at (i := 502) (by decide +kernel)), ⟨by decide +kernel, by decide +kernel, by decide +kernel⟩⟩
theorem dw_573 : decode code 573 = .ok (.aload_n 2, 1) := by decide +kernel
theorem dw_574 : decode code 574 = .ok (.aload_n 0, 1) := by decide +kernel
theorem dw_575 : decode code 575 = .ok (.iload_n 3, 1) := by decide +kernel
theorem dw_576 : decode code 576 = .ok (.iconst 1, 1) := by decide +kernel
theorem dw_577 : decode code 577 = .ok (.iadd, 1) := by decide +kernel
theorem dw_578 : decode code 578 = .ok (.iaload, 1) := by decide +kernel
theorem dw_579 : decode code 579 = .ok (.aload_n 0, 1) := by decide +kernel
theorem dw_580 : decode code 580 = .ok (.iload_n 3, 1) := by decide +kernel
theorem dw_581 : decode code 581 = .ok (.iconst 2, 1) := by decide +kernel
theorem dw_582 : decode code 582 = .ok (.iadd, 1) := by decide +kernel
theorem dw_583 : decode code 583 = .ok (.iaload, 1) := by decide +kernel
theorem dw_584 : decode code 584 = .ok (.invokevirtual 65, 3) := by decide +kernel
theorem ml_Law_65 : Cond.methodLink R_law 65 y_M_slips ∈ tb_g := (tb_at (i := 1203) (by decide +kernel))
theorem mt_M_slips : mtV y_M_slips prog_14_method_25_code 3 (some .int) 2 := ⟨(tb_at (i := 1206) (by decide +kernel)), (tb_at (i := 14) (by decide +kernel)), (tb_at (i := 1204) (by decide +kernel)), (tb_at (i := 1205) (by decide +kernel)), ⟨by decide +kernel, by decide +kernel, by decide +kernel⟩⟩
theorem dw_587 : decode code 587 = .ok (.if_icmp .eq 1042, 3) := by decide +kernel
theorem dw_592 : decode code 592 = .ok (.aload_n 1, 1) := by decide +kernel
theorem dw_593 : decode code 593 = .ok (.aload_n 0, 1) := by decide +kernel
theorem dw_594 : decode code 594 = .ok (.iload_n 3, 1) := by decide +kernel
theorem dw_595 : decode code 595 = .ok (.iconst 1, 1) := by decide +kernel
theorem dw_596 : decode code 596 = .ok (.iadd, 1) := by decide +kernel
theorem dw_597 : decode code 597 = .ok (.iaload, 1) := by decide +kernel
theorem dw_598 : decode code 598 = .ok (.aload_n 0, 1) := by decide +kernel
theorem dw_599 : decode code 599 = .ok (.iload_n 3, 1) := by decide +kernel
theorem dw_600 : decode code 600 = .ok (.iconst 2, 1) := by decide +kernel
theorem dw_601 : decode code 601 = .ok (.iadd, 1) := by decide +kernel
theorem dw_602 : decode code 602 = .ok (.iaload, 1) := by decide +kernel
theorem dw_603 : decode code 603 = .ok (.aload_n 0, 1) := by decide +kernel
theorem dw_604 : decode code 604 = .ok (.iload_n 3, 1) := by decide +kernel
theorem dw_605 : decode code 605 = .ok (.iconst 3, 1) := by decide +kernel
theorem dw_606 : decode code 606 = .ok (.iadd, 1) := by decide +kernel
theorem dw_607 : decode code 607 = .ok (.iaload, 1) := by decide +kernel
theorem dw_608 : decode code 608 = .ok (.invokevirtual 66, 3) := by decide +kernel
theorem ml_Law_66 : Cond.methodLink R_law 66 y_O_level ∈ tb_g := (tb_at (i := 508) (by decide +kernel))
theorem mt_O_level : mtV y_O_level prog_1_method_14_code 4 (some .int) 3 := ⟨(tb_at (i := 511) (by decide +kernel)), (tb_at (i := 1) (by decide +kernel)), (tb_at (i := 509) (by decide +kernel)), (tb_at (i := 510) (by decide +kernel)), ⟨by decide +kernel, by decide +kernel, by decide +kernel⟩⟩
theorem dw_611 : decode code 611 = .ok (.aload_n 2, 1) := by decide +kernel
theorem dw_612 : decode code 612 = .ok (.aload_n 0, 1) := by decide +kernel
theorem dw_613 : decode code 613 = .ok (.iload_n 3, 1) := by decide +kernel
theorem dw_614 : decode code 614 = .ok (.iconst 1, 1) := by decide +kernel
theorem dw_615 : decode code 615 = .ok (.iadd, 1) := by decide +kernel
theorem dw_616 : decode code 616 = .ok (.iaload, 1) := by decide +kernel
theorem dw_617 : decode code 617 = .ok (.aload_n 0, 1) := by decide +kernel
theorem dw_618 : decode code 618 = .ok (.iload_n 3, 1) := by decide +kernel
theorem dw_619 : decode code 619 = .ok (.iconst 2, 1) := by decide +kernel
theorem dw_620 : decode code 620 = .ok (.iadd, 1) := by decide +kernel
theorem dw_621 : decode code 621 = .ok (.iaload, 1) := by decide +kernel
theorem dw_622 : decode code 622 = .ok (.aload_n 0, 1) := by decide +kernel
theorem dw_623 : decode code 623 = .ok (.iload_n 3, 1) := by decide +kernel
theorem dw_624 : decode code 624 = .ok (.iconst 3, 1) := by decide +kernel
theorem dw_625 : decode code 625 = .ok (.iadd, 1) := by decide +kernel
theorem dw_626 : decode code 626 = .ok (.iaload, 1) := by decide +kernel
theorem dw_627 : decode code 627 = .ok (.invokevirtual 69, 3) := by decide +kernel
theorem ml_Law_69 : Cond.methodLink R_law 69 y_M_level ∈ tb_g := (tb_at (i := 1211) (by decide +kernel))
theorem mt_M_level : mtV y_M_level prog_14_method_29_code 4 (some .int) 3 := ⟨(tb_at (i := 1214) (by decide +kernel)), (tb_at (i := 14) (by decide +kernel)), (tb_at (i := 1212) (by decide +kernel)), (tb_at (i := 1213) (by decide +kernel)), ⟨by decide +kernel, by decide +kernel, by decide +kernel⟩⟩
theorem dw_630 : decode code 630 = .ok (.if_icmp .eq 999, 3) := by decide +kernel
theorem dw_635 : decode code 635 = .ok (.aload_n 1, 1) := by decide +kernel
theorem dw_636 : decode code 636 = .ok (.aload_n 0, 1) := by decide +kernel
theorem dw_637 : decode code 637 = .ok (.iload_n 3, 1) := by decide +kernel
theorem dw_638 : decode code 638 = .ok (.iconst 1, 1) := by decide +kernel
theorem dw_639 : decode code 639 = .ok (.iadd, 1) := by decide +kernel
theorem dw_640 : decode code 640 = .ok (.iaload, 1) := by decide +kernel
theorem dw_641 : decode code 641 = .ok (.aload_n 0, 1) := by decide +kernel
theorem dw_642 : decode code 642 = .ok (.iload_n 3, 1) := by decide +kernel
theorem dw_643 : decode code 643 = .ok (.iconst 2, 1) := by decide +kernel
theorem dw_644 : decode code 644 = .ok (.iadd, 1) := by decide +kernel
theorem dw_645 : decode code 645 = .ok (.iaload, 1) := by decide +kernel
theorem dw_646 : decode code 646 = .ok (.aload_n 0, 1) := by decide +kernel
theorem dw_647 : decode code 647 = .ok (.iload_n 3, 1) := by decide +kernel
theorem dw_648 : decode code 648 = .ok (.iconst 3, 1) := by decide +kernel
theorem dw_649 : decode code 649 = .ok (.iadd, 1) := by decide +kernel
theorem dw_650 : decode code 650 = .ok (.iaload, 1) := by decide +kernel
theorem dw_651 : decode code 651 = .ok (.invokevirtual 70, 3) := by decide +kernel
theorem ml_Law_70 : Cond.methodLink R_law 70 y_O_points ∈ tb_g := (tb_at (i := 534) (by decide +kernel))
theorem mt_O_points : mtV y_O_points prog_1_method_15_code 4 (some .int) 3 := ⟨(tb_at (i := 537) (by decide +kernel)), (tb_at (i := 1) (by decide +kernel)), (tb_at (i := 535) (by decide +kernel)), (tb_at (i := 536) (by decide +kernel)), ⟨by decide +kernel, by decide +kernel, by decide +kernel⟩⟩
theorem dw_654 : decode code 654 = .ok (.aload_n 2, 1) := by decide +kernel
theorem dw_655 : decode code 655 = .ok (.aload_n 0, 1) := by decide +kernel
theorem dw_656 : decode code 656 = .ok (.iload_n 3, 1) := by decide +kernel
theorem dw_657 : decode code 657 = .ok (.iconst 1, 1) := by decide +kernel
theorem dw_658 : decode code 658 = .ok (.iadd, 1) := by decide +kernel
theorem dw_659 : decode code 659 = .ok (.iaload, 1) := by decide +kernel
theorem dw_660 : decode code 660 = .ok (.aload_n 0, 1) := by decide +kernel
theorem dw_661 : decode code 661 = .ok (.iload_n 3, 1) := by decide +kernel
theorem dw_662 : decode code 662 = .ok (.iconst 2, 1) := by decide +kernel
theorem dw_663 : decode code 663 = .ok (.iadd, 1) := by decide +kernel
theorem dw_664 : decode code 664 = .ok (.iaload, 1) := by decide +kernel
theorem dw_665 : decode code 665 = .ok (.aload_n 0, 1) := by decide +kernel
theorem dw_666 : decode code 666 = .ok (.iload_n 3, 1) := by decide +kernel
theorem dw_667 : decode code 667 = .ok (.iconst 3, 1) := by decide +kernel
theorem dw_668 : decode code 668 = .ok (.iadd, 1) := by decide +kernel
theorem dw_669 : decode code 669 = .ok (.iaload, 1) := by decide +kernel
theorem dw_670 : decode code 670 = .ok (.invokevirtual 73, 3) := by decide +kernel
theorem ml_Law_73 : Cond.methodLink R_law 73 y_M_points ∈ tb_g := (tb_at (i := 1234) (by decide +kernel))
theorem mt_M_points : mtV y_M_points prog_14_method_30_code 5 (some .int) 3 := ⟨(tb_at (i := 1237) (by decide +kernel)), (tb_at (i := 14) (by decide +kernel)), (tb_at (i := 1235) (by decide +kernel)), (tb_at (i := 1236) (by decide +kernel)), ⟨by decide +kernel, by decide +kernel, by decide +kernel⟩⟩
theorem dw_673 : decode code 673 = .ok (.if_icmp .eq 956, 3) := by decide +kernel
theorem dw_678 : decode code 678 = .ok (.aload_n 1, 1) := by decide +kernel
theorem dw_679 : decode code 679 = .ok (.aload_n 0, 1) := by decide +kernel
theorem dw_680 : decode code 680 = .ok (.iload_n 3, 1) := by decide +kernel
theorem dw_681 : decode code 681 = .ok (.iconst 1, 1) := by decide +kernel
theorem dw_682 : decode code 682 = .ok (.iadd, 1) := by decide +kernel
theorem dw_683 : decode code 683 = .ok (.iaload, 1) := by decide +kernel
theorem dw_684 : decode code 684 = .ok (.aload_n 0, 1) := by decide +kernel
theorem dw_685 : decode code 685 = .ok (.iload_n 3, 1) := by decide +kernel
theorem dw_686 : decode code 686 = .ok (.iconst 2, 1) := by decide +kernel
theorem dw_687 : decode code 687 = .ok (.iadd, 1) := by decide +kernel
theorem dw_688 : decode code 688 = .ok (.iaload, 1) := by decide +kernel
theorem dw_689 : decode code 689 = .ok (.invokevirtual 74, 3) := by decide +kernel
theorem ml_Law_74 : Cond.methodLink R_law 74 y_O_score ∈ tb_g := (tb_at (i := 546) (by decide +kernel))
theorem mt_O_score : mtV y_O_score prog_1_method_16_code 3 (some .int) 2 := ⟨(tb_at (i := 549) (by decide +kernel)), (tb_at (i := 1) (by decide +kernel)), (tb_at (i := 547) (by decide +kernel)), (tb_at (i := 548) (by decide +kernel)), ⟨by decide +kernel, by decide +kernel, by decide +kernel⟩⟩
theorem dw_692 : decode code 692 = .ok (.aload_n 2, 1) := by decide +kernel
theorem dw_693 : decode code 693 = .ok (.aload_n 0, 1) := by decide +kernel
theorem dw_694 : decode code 694 = .ok (.iload_n 3, 1) := by decide +kernel
theorem dw_695 : decode code 695 = .ok (.iconst 1, 1) := by decide +kernel
theorem dw_696 : decode code 696 = .ok (.iadd, 1) := by decide +kernel
theorem dw_697 : decode code 697 = .ok (.iaload, 1) := by decide +kernel
theorem dw_698 : decode code 698 = .ok (.aload_n 0, 1) := by decide +kernel
theorem dw_699 : decode code 699 = .ok (.iload_n 3, 1) := by decide +kernel
theorem dw_700 : decode code 700 = .ok (.iconst 2, 1) := by decide +kernel
theorem dw_701 : decode code 701 = .ok (.iadd, 1) := by decide +kernel
theorem dw_702 : decode code 702 = .ok (.iaload, 1) := by decide +kernel
theorem dw_703 : decode code 703 = .ok (.invokevirtual 77, 3) := by decide +kernel
theorem ml_Law_77 : Cond.methodLink R_law 77 y_M_score ∈ tb_g := (tb_at (i := 1238) (by decide +kernel))
theorem mt_M_score : mtV y_M_score prog_14_method_32_code 3 (some .int) 2 := ⟨(tb_at (i := 1241) (by decide +kernel)), (tb_at (i := 14) (by decide +kernel)), (tb_at (i := 1239) (by decide +kernel)), (tb_at (i := 1240) (by decide +kernel)), ⟨by decide +kernel, by decide +kernel, by decide +kernel⟩⟩
theorem dw_706 : decode code 706 = .ok (.if_icmp .eq 923, 3) := by decide +kernel
theorem dw_711 : decode code 711 = .ok (.aload_n 1, 1) := by decide +kernel
theorem dw_712 : decode code 712 = .ok (.aload_n 0, 1) := by decide +kernel
theorem dw_713 : decode code 713 = .ok (.iload_n 3, 1) := by decide +kernel
theorem dw_714 : decode code 714 = .ok (.iconst 1, 1) := by decide +kernel
theorem dw_715 : decode code 715 = .ok (.iadd, 1) := by decide +kernel
theorem dw_716 : decode code 716 = .ok (.iaload, 1) := by decide +kernel
theorem dw_717 : decode code 717 = .ok (.ifCond .eq 7, 3) := by decide +kernel
theorem dw_724 : decode code 724 = .ok (.iconst 0, 1) := by decide +kernel
theorem dw_725 : decode code 725 = .ok (.aload_n 0, 1) := by decide +kernel
theorem dw_726 : decode code 726 = .ok (.iload_n 3, 1) := by decide +kernel
theorem dw_727 : decode code 727 = .ok (.iconst 2, 1) := by decide +kernel
theorem dw_728 : decode code 728 = .ok (.iadd, 1) := by decide +kernel
theorem dw_729 : decode code 729 = .ok (.iaload, 1) := by decide +kernel
theorem dw_730 : decode code 730 = .ok (.aload_n 0, 1) := by decide +kernel
theorem dw_731 : decode code 731 = .ok (.iload_n 3, 1) := by decide +kernel
theorem dw_732 : decode code 732 = .ok (.iconst 3, 1) := by decide +kernel
theorem dw_733 : decode code 733 = .ok (.iadd, 1) := by decide +kernel
theorem dw_734 : decode code 734 = .ok (.iaload, 1) := by decide +kernel
theorem dw_735 : decode code 735 = .ok (.aload_n 0, 1) := by decide +kernel
theorem dw_736 : decode code 736 = .ok (.iload_n 3, 1) := by decide +kernel
theorem dw_737 : decode code 737 = .ok (.iconst 4, 1) := by decide +kernel
theorem dw_738 : decode code 738 = .ok (.iadd, 1) := by decide +kernel
theorem dw_739 : decode code 739 = .ok (.iaload, 1) := by decide +kernel
theorem dw_740 : decode code 740 = .ok (.invokevirtual 78, 3) := by decide +kernel
theorem ml_Law_78 : Cond.methodLink R_law 78 y_O_chance ∈ tb_g := (tb_at (i := 556) (by decide +kernel))
theorem mt_O_chance : mtV y_O_chance prog_1_method_17_code 5 (some .int) 4 := ⟨(tb_at (i := 559) (by decide +kernel)), (tb_at (i := 1) (by decide +kernel)), (tb_at (i := 557) (by decide +kernel)), (tb_at (i := 558) (by decide +kernel)), ⟨by decide +kernel, by decide +kernel, by decide +kernel⟩⟩
theorem dw_743 : decode code 743 = .ok (.aload_n 2, 1) := by decide +kernel
theorem dw_744 : decode code 744 = .ok (.aload_n 0, 1) := by decide +kernel
theorem dw_745 : decode code 745 = .ok (.iload_n 3, 1) := by decide +kernel
theorem dw_746 : decode code 746 = .ok (.iconst 1, 1) := by decide +kernel
theorem dw_747 : decode code 747 = .ok (.iadd, 1) := by decide +kernel
theorem dw_748 : decode code 748 = .ok (.iaload, 1) := by decide +kernel
theorem dw_749 : decode code 749 = .ok (.ifCond .eq 7, 3) := by decide +kernel
theorem dw_756 : decode code 756 = .ok (.iconst 0, 1) := by decide +kernel
theorem dw_757 : decode code 757 = .ok (.aload_n 0, 1) := by decide +kernel
theorem dw_758 : decode code 758 = .ok (.iload_n 3, 1) := by decide +kernel
theorem dw_759 : decode code 759 = .ok (.iconst 2, 1) := by decide +kernel
theorem dw_760 : decode code 760 = .ok (.iadd, 1) := by decide +kernel
theorem dw_761 : decode code 761 = .ok (.iaload, 1) := by decide +kernel
theorem dw_762 : decode code 762 = .ok (.aload_n 0, 1) := by decide +kernel
theorem dw_763 : decode code 763 = .ok (.iload_n 3, 1) := by decide +kernel
theorem dw_764 : decode code 764 = .ok (.iconst 3, 1) := by decide +kernel
theorem dw_765 : decode code 765 = .ok (.iadd, 1) := by decide +kernel
theorem dw_766 : decode code 766 = .ok (.iaload, 1) := by decide +kernel
theorem dw_767 : decode code 767 = .ok (.aload_n 0, 1) := by decide +kernel
theorem dw_768 : decode code 768 = .ok (.iload_n 3, 1) := by decide +kernel
theorem dw_769 : decode code 769 = .ok (.iconst 4, 1) := by decide +kernel
theorem dw_770 : decode code 770 = .ok (.iadd, 1) := by decide +kernel
theorem dw_771 : decode code 771 = .ok (.iaload, 1) := by decide +kernel
theorem dw_772 : decode code 772 = .ok (.invokevirtual 82, 3) := by decide +kernel
theorem ml_Law_82 : Cond.methodLink R_law 82 y_M_chance ∈ tb_g := (tb_at (i := 1246) (by decide +kernel))
theorem mt_M_chance : mtV y_M_chance prog_14_method_33_code 7 (some .int) 4 := ⟨(tb_at (i := 1249) (by decide +kernel)), (tb_at (i := 14) (by decide +kernel)), (tb_at (i := 1247) (by decide +kernel)), (tb_at (i := 1248) (by decide +kernel)), ⟨by decide +kernel, by decide +kernel, by decide +kernel⟩⟩
theorem dw_775 : decode code 775 = .ok (.if_icmp .eq 854, 3) := by decide +kernel
theorem dw_720 : decode code 720 = .ok (.iconst 1, 1) := by decide +kernel
theorem dw_721 : decode code 721 = .ok (.goto 4, 3) := by decide +kernel
theorem dw_752 : decode code 752 = .ok (.iconst 1, 1) := by decide +kernel
theorem dw_753 : decode code 753 = .ok (.goto 4, 3) := by decide +kernel
theorem dw_780 : decode code 780 = .ok (.aload_n 1, 1) := by decide +kernel
theorem dw_781 : decode code 781 = .ok (.aload_n 0, 1) := by decide +kernel
theorem dw_782 : decode code 782 = .ok (.iload_n 3, 1) := by decide +kernel
theorem dw_783 : decode code 783 = .ok (.iconst 1, 1) := by decide +kernel
theorem dw_784 : decode code 784 = .ok (.iadd, 1) := by decide +kernel
theorem dw_785 : decode code 785 = .ok (.iaload, 1) := by decide +kernel
theorem dw_786 : decode code 786 = .ok (.aload_n 0, 1) := by decide +kernel
theorem dw_787 : decode code 787 = .ok (.iload_n 3, 1) := by decide +kernel
theorem dw_788 : decode code 788 = .ok (.iconst 2, 1) := by decide +kernel
theorem dw_789 : decode code 789 = .ok (.iadd, 1) := by decide +kernel
theorem dw_790 : decode code 790 = .ok (.iaload, 1) := by decide +kernel
theorem dw_791 : decode code 791 = .ok (.aload_n 0, 1) := by decide +kernel
theorem dw_792 : decode code 792 = .ok (.iload_n 3, 1) := by decide +kernel
theorem dw_793 : decode code 793 = .ok (.iconst 3, 1) := by decide +kernel
theorem dw_794 : decode code 794 = .ok (.iadd, 1) := by decide +kernel
theorem dw_795 : decode code 795 = .ok (.iaload, 1) := by decide +kernel
theorem dw_796 : decode code 796 = .ok (.invokevirtual 83, 3) := by decide +kernel
theorem ml_Law_83 : Cond.methodLink R_law 83 y_O_odds ∈ tb_g := (tb_at (i := 568) (by decide +kernel))
theorem mt_O_odds : mtV y_O_odds prog_1_method_18_code 10 (some .long) 3 := ⟨(tb_at (i := 571) (by decide +kernel)), (tb_at (i := 1) (by decide +kernel)), (tb_at (i := 569) (by decide +kernel)), (tb_at (i := 570) (by decide +kernel)), ⟨by decide +kernel, by decide +kernel, by decide +kernel⟩⟩
theorem dw_799 : decode code 799 = .ok (.aload_n 2, 1) := by decide +kernel
theorem dw_800 : decode code 800 = .ok (.aload_n 0, 1) := by decide +kernel
theorem dw_801 : decode code 801 = .ok (.iload_n 3, 1) := by decide +kernel
theorem dw_802 : decode code 802 = .ok (.iconst 1, 1) := by decide +kernel
theorem dw_803 : decode code 803 = .ok (.iadd, 1) := by decide +kernel
theorem dw_804 : decode code 804 = .ok (.iaload, 1) := by decide +kernel
theorem dw_805 : decode code 805 = .ok (.aload_n 0, 1) := by decide +kernel
theorem dw_806 : decode code 806 = .ok (.iload_n 3, 1) := by decide +kernel
theorem dw_807 : decode code 807 = .ok (.iconst 2, 1) := by decide +kernel
theorem dw_808 : decode code 808 = .ok (.iadd, 1) := by decide +kernel
theorem dw_809 : decode code 809 = .ok (.iaload, 1) := by decide +kernel
theorem dw_810 : decode code 810 = .ok (.aload_n 0, 1) := by decide +kernel
theorem dw_811 : decode code 811 = .ok (.iload_n 3, 1) := by decide +kernel
theorem dw_812 : decode code 812 = .ok (.iconst 3, 1) := by decide +kernel
theorem dw_813 : decode code 813 = .ok (.iadd, 1) := by decide +kernel
theorem dw_814 : decode code 814 = .ok (.iaload, 1) := by decide +kernel
theorem dw_815 : decode code 815 = .ok (.invokevirtual 87, 3) := by decide +kernel
theorem ml_Law_87 : Cond.methodLink R_law 87 y_M_odds ∈ tb_g := (tb_at (i := 1250) (by decide +kernel))
theorem mt_M_odds : mtV y_M_odds prog_14_method_36_code 4 (some .long) 3 := ⟨(tb_at (i := 1253) (by decide +kernel)), (tb_at (i := 14) (by decide +kernel)), (tb_at (i := 1251) (by decide +kernel)), (tb_at (i := 1252) (by decide +kernel)), ⟨by decide +kernel, by decide +kernel, by decide +kernel⟩⟩
theorem dw_818 : decode code 818 = .ok (.lcmp, 1) := by decide +kernel
theorem dw_819 : decode code 819 = .ok (.ifCond .eq 810, 3) := by decide +kernel
theorem dw_824 : decode code 824 = .ok (.aload_n 1, 1) := by decide +kernel
theorem dw_825 : decode code 825 = .ok (.aload_n 0, 1) := by decide +kernel
theorem dw_826 : decode code 826 = .ok (.iload_n 3, 1) := by decide +kernel
theorem dw_827 : decode code 827 = .ok (.iconst 1, 1) := by decide +kernel
theorem dw_828 : decode code 828 = .ok (.iadd, 1) := by decide +kernel
theorem dw_829 : decode code 829 = .ok (.iaload, 1) := by decide +kernel
theorem dw_830 : decode code 830 = .ok (.aload_n 0, 1) := by decide +kernel
theorem dw_831 : decode code 831 = .ok (.iload_n 3, 1) := by decide +kernel
theorem dw_832 : decode code 832 = .ok (.iconst 2, 1) := by decide +kernel
theorem dw_833 : decode code 833 = .ok (.iadd, 1) := by decide +kernel
theorem dw_834 : decode code 834 = .ok (.iaload, 1) := by decide +kernel
theorem dw_835 : decode code 835 = .ok (.aload_n 0, 1) := by decide +kernel
theorem dw_836 : decode code 836 = .ok (.iload_n 3, 1) := by decide +kernel
theorem dw_837 : decode code 837 = .ok (.iconst 3, 1) := by decide +kernel
theorem dw_838 : decode code 838 = .ok (.iadd, 1) := by decide +kernel
theorem dw_839 : decode code 839 = .ok (.iaload, 1) := by decide +kernel
theorem dw_840 : decode code 840 = .ok (.aload_n 0, 1) := by decide +kernel
theorem dw_841 : decode code 841 = .ok (.iload_n 3, 1) := by decide +kernel
theorem dw_842 : decode code 842 = .ok (.iconst 4, 1) := by decide +kernel
theorem dw_843 : decode code 843 = .ok (.iadd, 1) := by decide +kernel
theorem dw_844 : decode code 844 = .ok (.iaload, 1) := by decide +kernel
theorem dw_845 : decode code 845 = .ok (.invokevirtual 88, 3) := by decide +kernel
theorem ml_Law_88 : Cond.methodLink R_law 88 y_O_belief ∈ tb_g := (tb_at (i := 584) (by decide +kernel))
theorem mt_O_belief : mtV y_O_belief prog_1_method_19_code 9 (some .int) 4 := ⟨(tb_at (i := 587) (by decide +kernel)), (tb_at (i := 1) (by decide +kernel)), (tb_at (i := 585) (by decide +kernel)), (tb_at (i := 586) (by decide +kernel)), ⟨by decide +kernel, by decide +kernel, by decide +kernel⟩⟩
theorem dw_848 : decode code 848 = .ok (.aload_n 2, 1) := by decide +kernel
theorem dw_849 : decode code 849 = .ok (.aload_n 0, 1) := by decide +kernel
theorem dw_850 : decode code 850 = .ok (.iload_n 3, 1) := by decide +kernel
theorem dw_851 : decode code 851 = .ok (.iconst 1, 1) := by decide +kernel
theorem dw_852 : decode code 852 = .ok (.iadd, 1) := by decide +kernel
theorem dw_853 : decode code 853 = .ok (.iaload, 1) := by decide +kernel
theorem dw_854 : decode code 854 = .ok (.aload_n 0, 1) := by decide +kernel
theorem dw_855 : decode code 855 = .ok (.iload_n 3, 1) := by decide +kernel
theorem dw_856 : decode code 856 = .ok (.iconst 2, 1) := by decide +kernel
theorem dw_857 : decode code 857 = .ok (.iadd, 1) := by decide +kernel
theorem dw_858 : decode code 858 = .ok (.iaload, 1) := by decide +kernel
theorem dw_859 : decode code 859 = .ok (.aload_n 0, 1) := by decide +kernel
theorem dw_860 : decode code 860 = .ok (.iload_n 3, 1) := by decide +kernel
theorem dw_861 : decode code 861 = .ok (.iconst 3, 1) := by decide +kernel
theorem dw_862 : decode code 862 = .ok (.iadd, 1) := by decide +kernel
theorem dw_863 : decode code 863 = .ok (.iaload, 1) := by decide +kernel
theorem dw_864 : decode code 864 = .ok (.aload_n 0, 1) := by decide +kernel
theorem dw_865 : decode code 865 = .ok (.iload_n 3, 1) := by decide +kernel
theorem dw_866 : decode code 866 = .ok (.iconst 4, 1) := by decide +kernel
theorem dw_867 : decode code 867 = .ok (.iadd, 1) := by decide +kernel
theorem dw_868 : decode code 868 = .ok (.iaload, 1) := by decide +kernel
theorem dw_869 : decode code 869 = .ok (.invokevirtual 92, 3) := by decide +kernel
theorem ml_Law_92 : Cond.methodLink R_law 92 y_M_belief ∈ tb_g := (tb_at (i := 1262) (by decide +kernel))
theorem mt_M_belief : mtV y_M_belief prog_14_method_37_code 11 (some .int) 4 := ⟨(tb_at (i := 1265) (by decide +kernel)), (tb_at (i := 14) (by decide +kernel)), (tb_at (i := 1263) (by decide +kernel)), (tb_at (i := 1264) (by decide +kernel)), ⟨by decide +kernel, by decide +kernel, by decide +kernel⟩⟩
theorem dw_872 : decode code 872 = .ok (.if_icmp .eq 757, 3) := by decide +kernel
theorem dw_877 : decode code 877 = .ok (.aload_n 1, 1) := by decide +kernel
theorem dw_878 : decode code 878 = .ok (.aload_n 0, 1) := by decide +kernel
theorem dw_879 : decode code 879 = .ok (.iload_n 3, 1) := by decide +kernel
theorem dw_880 : decode code 880 = .ok (.iconst 1, 1) := by decide +kernel
theorem dw_881 : decode code 881 = .ok (.iadd, 1) := by decide +kernel
theorem dw_882 : decode code 882 = .ok (.iaload, 1) := by decide +kernel
theorem dw_883 : decode code 883 = .ok (.invokevirtual 93, 3) := by decide +kernel
theorem ml_Law_93 : Cond.methodLink R_law 93 y_O_line ∈ tb_g := (tb_at (i := 593) (by decide +kernel))
theorem mt_O_line : mtV y_O_line prog_1_method_20_code 3 (some .int) 1 := ⟨(tb_at (i := 596) (by decide +kernel)), (tb_at (i := 1) (by decide +kernel)), (tb_at (i := 594) (by decide +kernel)), (tb_at (i := 595) (by decide +kernel)), ⟨by decide +kernel, by decide +kernel, by decide +kernel⟩⟩
theorem dw_886 : decode code 886 = .ok (.aload_n 2, 1) := by decide +kernel
theorem dw_887 : decode code 887 = .ok (.aload_n 0, 1) := by decide +kernel
theorem dw_888 : decode code 888 = .ok (.iload_n 3, 1) := by decide +kernel
theorem dw_889 : decode code 889 = .ok (.iconst 1, 1) := by decide +kernel
theorem dw_890 : decode code 890 = .ok (.iadd, 1) := by decide +kernel
theorem dw_891 : decode code 891 = .ok (.iaload, 1) := by decide +kernel
theorem dw_892 : decode code 892 = .ok (.invokevirtual 96, 3) := by decide +kernel
theorem ml_Law_96 : Cond.methodLink R_law 96 y_M_line ∈ tb_g := (tb_at (i := 1268) (by decide +kernel))
theorem mt_M_line : mtV y_M_line prog_14_method_38_code 3 (some .int) 1 := ⟨(tb_at (i := 1271) (by decide +kernel)), (tb_at (i := 14) (by decide +kernel)), (tb_at (i := 1269) (by decide +kernel)), (tb_at (i := 1270) (by decide +kernel)), ⟨by decide +kernel, by decide +kernel, by decide +kernel⟩⟩
theorem dw_895 : decode code 895 = .ok (.if_icmp .eq 734, 3) := by decide +kernel
theorem dw_900 : decode code 900 = .ok (.aload_n 1, 1) := by decide +kernel
theorem dw_901 : decode code 901 = .ok (.invokevirtual 97, 3) := by decide +kernel
theorem ml_Law_97 : Cond.methodLink R_law 97 y_O_links ∈ tb_g := (tb_at (i := 597) (by decide +kernel))
theorem dw_904 : decode code 904 = .ok (.aload_n 2, 1) := by decide +kernel
theorem dw_905 : decode code 905 = .ok (.invokevirtual 100, 3) := by decide +kernel
theorem ml_Law_100 : Cond.methodLink R_law 100 y_M_links ∈ tb_g := (tb_at (i := 1272) (by decide +kernel))
theorem mt_M_links : mtV y_M_links prog_14_method_40_code 1 (some .int) 0 := ⟨(tb_at (i := 1275) (by decide +kernel)), (tb_at (i := 14) (by decide +kernel)), (tb_at (i := 1273) (by decide +kernel)), (tb_at (i := 1274) (by decide +kernel)), ⟨by decide +kernel, by decide +kernel, by decide +kernel⟩⟩
theorem dw_908 : decode code 908 = .ok (.if_icmp .eq 721, 3) := by decide +kernel
theorem dw_913 : decode code 913 = .ok (.aload_n 1, 1) := by decide +kernel
theorem dw_914 : decode code 914 = .ok (.aload_n 0, 1) := by decide +kernel
theorem dw_915 : decode code 915 = .ok (.iload_n 3, 1) := by decide +kernel
theorem dw_916 : decode code 916 = .ok (.iconst 1, 1) := by decide +kernel
theorem dw_917 : decode code 917 = .ok (.iadd, 1) := by decide +kernel
theorem dw_918 : decode code 918 = .ok (.iaload, 1) := by decide +kernel
theorem dw_919 : decode code 919 = .ok (.aload_n 0, 1) := by decide +kernel
theorem dw_920 : decode code 920 = .ok (.iload_n 3, 1) := by decide +kernel
theorem dw_921 : decode code 921 = .ok (.iconst 2, 1) := by decide +kernel
theorem dw_922 : decode code 922 = .ok (.iadd, 1) := by decide +kernel
theorem dw_923 : decode code 923 = .ok (.iaload, 1) := by decide +kernel
theorem dw_924 : decode code 924 = .ok (.aload_n 0, 1) := by decide +kernel
theorem dw_925 : decode code 925 = .ok (.iload_n 3, 1) := by decide +kernel
theorem dw_926 : decode code 926 = .ok (.iconst 3, 1) := by decide +kernel
theorem dw_927 : decode code 927 = .ok (.iadd, 1) := by decide +kernel
theorem dw_928 : decode code 928 = .ok (.iaload, 1) := by decide +kernel
theorem dw_929 : decode code 929 = .ok (.invokevirtual 101, 3) := by decide +kernel
theorem ml_Law_101 : Cond.methodLink R_law 101 y_O_laid ∈ tb_g := (tb_at (i := 615) (by decide +kernel))
theorem dw_932 : decode code 932 = .ok (.aload_n 2, 1) := by decide +kernel
theorem dw_933 : decode code 933 = .ok (.aload_n 0, 1) := by decide +kernel
theorem dw_934 : decode code 934 = .ok (.iload_n 3, 1) := by decide +kernel
theorem dw_935 : decode code 935 = .ok (.iconst 1, 1) := by decide +kernel
theorem dw_936 : decode code 936 = .ok (.iadd, 1) := by decide +kernel
theorem dw_937 : decode code 937 = .ok (.iaload, 1) := by decide +kernel
theorem dw_938 : decode code 938 = .ok (.aload_n 0, 1) := by decide +kernel
theorem dw_939 : decode code 939 = .ok (.iload_n 3, 1) := by decide +kernel
theorem dw_940 : decode code 940 = .ok (.iconst 2, 1) := by decide +kernel
theorem dw_941 : decode code 941 = .ok (.iadd, 1) := by decide +kernel
theorem dw_942 : decode code 942 = .ok (.iaload, 1) := by decide +kernel
theorem dw_943 : decode code 943 = .ok (.aload_n 0, 1) := by decide +kernel
theorem dw_944 : decode code 944 = .ok (.iload_n 3, 1) := by decide +kernel
theorem dw_945 : decode code 945 = .ok (.iconst 3, 1) := by decide +kernel
theorem dw_946 : decode code 946 = .ok (.iadd, 1) := by decide +kernel
theorem dw_947 : decode code 947 = .ok (.iaload, 1) := by decide +kernel
theorem dw_948 : decode code 948 = .ok (.invokevirtual 104, 3) := by decide +kernel
theorem ml_Law_104 : Cond.methodLink R_law 104 y_M_laid ∈ tb_g := (tb_at (i := 1280) (by decide +kernel))
theorem mt_M_laid : mtV y_M_laid prog_14_method_45_code 4 (some .int) 3 := ⟨(tb_at (i := 1283) (by decide +kernel)), (tb_at (i := 14) (by decide +kernel)), (tb_at (i := 1281) (by decide +kernel)), (tb_at (i := 1282) (by decide +kernel)), ⟨by decide +kernel, by decide +kernel, by decide +kernel⟩⟩
theorem dw_951 : decode code 951 = .ok (.if_icmp .eq 678, 3) := by decide +kernel
theorem dw_956 : decode code 956 = .ok (.aload_n 1, 1) := by decide +kernel
theorem dw_957 : decode code 957 = .ok (.aload_n 0, 1) := by decide +kernel
theorem dw_958 : decode code 958 = .ok (.iload_n 3, 1) := by decide +kernel
theorem dw_959 : decode code 959 = .ok (.iconst 1, 1) := by decide +kernel
theorem dw_960 : decode code 960 = .ok (.iadd, 1) := by decide +kernel
theorem dw_961 : decode code 961 = .ok (.iaload, 1) := by decide +kernel
theorem dw_962 : decode code 962 = .ok (.aload_n 0, 1) := by decide +kernel
theorem dw_963 : decode code 963 = .ok (.iload_n 3, 1) := by decide +kernel
theorem dw_964 : decode code 964 = .ok (.iconst 2, 1) := by decide +kernel
theorem dw_965 : decode code 965 = .ok (.iadd, 1) := by decide +kernel
theorem dw_966 : decode code 966 = .ok (.iaload, 1) := by decide +kernel
theorem dw_967 : decode code 967 = .ok (.invokevirtual 105, 3) := by decide +kernel
theorem ml_Law_105 : Cond.methodLink R_law 105 y_O_mate ∈ tb_g := (tb_at (i := 656) (by decide +kernel))
theorem mt_O_mate : mtV y_O_mate prog_1_method_23_code 3 (some .int) 2 := ⟨(tb_at (i := 659) (by decide +kernel)), (tb_at (i := 1) (by decide +kernel)), (tb_at (i := 657) (by decide +kernel)), (tb_at (i := 658) (by decide +kernel)), ⟨by decide +kernel, by decide +kernel, by decide +kernel⟩⟩
theorem dw_970 : decode code 970 = .ok (.aload_n 2, 1) := by decide +kernel
theorem dw_971 : decode code 971 = .ok (.aload_n 0, 1) := by decide +kernel
theorem dw_972 : decode code 972 = .ok (.iload_n 3, 1) := by decide +kernel
theorem dw_973 : decode code 973 = .ok (.iconst 1, 1) := by decide +kernel
theorem dw_974 : decode code 974 = .ok (.iadd, 1) := by decide +kernel
theorem dw_975 : decode code 975 = .ok (.iaload, 1) := by decide +kernel
theorem dw_976 : decode code 976 = .ok (.aload_n 0, 1) := by decide +kernel
theorem dw_977 : decode code 977 = .ok (.iload_n 3, 1) := by decide +kernel
theorem dw_978 : decode code 978 = .ok (.iconst 2, 1) := by decide +kernel
theorem dw_979 : decode code 979 = .ok (.iadd, 1) := by decide +kernel
theorem dw_980 : decode code 980 = .ok (.iaload, 1) := by decide +kernel
theorem dw_981 : decode code 981 = .ok (.invokevirtual 108, 3) := by decide +kernel
theorem ml_Law_108 : Cond.methodLink R_law 108 y_M_mate ∈ tb_g := (tb_at (i := 1299) (by decide +kernel))
theorem mt_M_mate : mtV y_M_mate prog_14_method_46_code 4 (some .int) 2 := ⟨(tb_at (i := 1302) (by decide +kernel)), (tb_at (i := 14) (by decide +kernel)), (tb_at (i := 1300) (by decide +kernel)), (tb_at (i := 1301) (by decide +kernel)), ⟨by decide +kernel, by decide +kernel, by decide +kernel⟩⟩
theorem dw_984 : decode code 984 = .ok (.if_icmp .eq 645, 3) := by decide +kernel
theorem dw_989 : decode code 989 = .ok (.aload_n 1, 1) := by decide +kernel
theorem dw_990 : decode code 990 = .ok (.aload_n 0, 1) := by decide +kernel
theorem dw_991 : decode code 991 = .ok (.iload_n 3, 1) := by decide +kernel
theorem dw_992 : decode code 992 = .ok (.iconst 1, 1) := by decide +kernel
theorem dw_993 : decode code 993 = .ok (.iadd, 1) := by decide +kernel
theorem dw_994 : decode code 994 = .ok (.iaload, 1) := by decide +kernel
theorem dw_995 : decode code 995 = .ok (.invokevirtual 109, 3) := by decide +kernel
theorem ml_Law_109 : Cond.methodLink R_law 109 y_O_bundle ∈ tb_g := (tb_at (i := 664) (by decide +kernel))
theorem mt_O_bundle : mtV y_O_bundle prog_1_method_24_code 2 (some .int) 1 := ⟨(tb_at (i := 667) (by decide +kernel)), (tb_at (i := 1) (by decide +kernel)), (tb_at (i := 665) (by decide +kernel)), (tb_at (i := 666) (by decide +kernel)), ⟨by decide +kernel, by decide +kernel, by decide +kernel⟩⟩
theorem dw_998 : decode code 998 = .ok (.aload_n 2, 1) := by decide +kernel
theorem dw_999 : decode code 999 = .ok (.aload_n 0, 1) := by decide +kernel
theorem dw_1000 : decode code 1000 = .ok (.iload_n 3, 1) := by decide +kernel
theorem dw_1001 : decode code 1001 = .ok (.iconst 1, 1) := by decide +kernel
theorem dw_1002 : decode code 1002 = .ok (.iadd, 1) := by decide +kernel
theorem dw_1003 : decode code 1003 = .ok (.iaload, 1) := by decide +kernel
theorem dw_1004 : decode code 1004 = .ok (.invokevirtual 112, 3) := by decide +kernel
theorem ml_Law_112 : Cond.methodLink R_law 112 y_M_bundle ∈ tb_g := (tb_at (i := 1303) (by decide +kernel))
theorem mt_M_bundle : mtV y_M_bundle prog_14_method_48_code 2 (some .int) 1 := ⟨(tb_at (i := 1306) (by decide +kernel)), (tb_at (i := 14) (by decide +kernel)), (tb_at (i := 1304) (by decide +kernel)), (tb_at (i := 1305) (by decide +kernel)), ⟨by decide +kernel, by decide +kernel, by decide +kernel⟩⟩
theorem dw_1007 : decode code 1007 = .ok (.if_icmp .eq 622, 3) := by decide +kernel
theorem dw_1012 : decode code 1012 = .ok (.aload_n 1, 1) := by decide +kernel
theorem dw_1013 : decode code 1013 = .ok (.aload_n 0, 1) := by decide +kernel
theorem dw_1014 : decode code 1014 = .ok (.iload_n 3, 1) := by decide +kernel
theorem dw_1015 : decode code 1015 = .ok (.iconst 1, 1) := by decide +kernel
theorem dw_1016 : decode code 1016 = .ok (.iadd, 1) := by decide +kernel
theorem dw_1017 : decode code 1017 = .ok (.iaload, 1) := by decide +kernel
theorem dw_1018 : decode code 1018 = .ok (.invokevirtual 113, 3) := by decide +kernel
theorem ml_Law_113 : Cond.methodLink R_law 113 y_O_bundles ∈ tb_g := (tb_at (i := 686) (by decide +kernel))
theorem dw_1021 : decode code 1021 = .ok (.aload_n 2, 1) := by decide +kernel
theorem dw_1022 : decode code 1022 = .ok (.aload_n 0, 1) := by decide +kernel
theorem dw_1023 : decode code 1023 = .ok (.iload_n 3, 1) := by decide +kernel
theorem dw_1024 : decode code 1024 = .ok (.iconst 1, 1) := by decide +kernel
theorem dw_1025 : decode code 1025 = .ok (.iadd, 1) := by decide +kernel
theorem dw_1026 : decode code 1026 = .ok (.iaload, 1) := by decide +kernel
theorem dw_1027 : decode code 1027 = .ok (.invokevirtual 116, 3) := by decide +kernel
theorem ml_Law_116 : Cond.methodLink R_law 116 y_M_bundles ∈ tb_g := (tb_at (i := 1311) (by decide +kernel))
theorem mt_M_bundles : mtV y_M_bundles prog_14_method_52_code 2 (some .int) 1 := ⟨(tb_at (i := 1314) (by decide +kernel)), (tb_at (i := 14) (by decide +kernel)), (tb_at (i := 1312) (by decide +kernel)), (tb_at (i := 1313) (by decide +kernel)), ⟨by decide +kernel, by decide +kernel, by decide +kernel⟩⟩
theorem dw_1030 : decode code 1030 = .ok (.if_icmp .eq 599, 3) := by decide +kernel
theorem dw_1035 : decode code 1035 = .ok (.aload_n 1, 1) := by decide +kernel
theorem dw_1036 : decode code 1036 = .ok (.aload_n 0, 1) := by decide +kernel
theorem dw_1037 : decode code 1037 = .ok (.iload_n 3, 1) := by decide +kernel
theorem dw_1038 : decode code 1038 = .ok (.iconst 1, 1) := by decide +kernel
theorem dw_1039 : decode code 1039 = .ok (.iadd, 1) := by decide +kernel
theorem dw_1040 : decode code 1040 = .ok (.iaload, 1) := by decide +kernel
theorem dw_1041 : decode code 1041 = .ok (.invokevirtual 117, 3) := by decide +kernel
theorem ml_Law_117 : Cond.methodLink R_law 117 y_O_torn ∈ tb_g := (tb_at (i := 707) (by decide +kernel))
theorem mt_O_torn : mtV y_O_torn prog_1_method_26_code 2 (some .int) 1 := ⟨(tb_at (i := 710) (by decide +kernel)), (tb_at (i := 1) (by decide +kernel)), (tb_at (i := 708) (by decide +kernel)), (tb_at (i := 709) (by decide +kernel)), ⟨by decide +kernel, by decide +kernel, by decide +kernel⟩⟩
theorem dw_1044 : decode code 1044 = .ok (.aload_n 2, 1) := by decide +kernel
theorem dw_1045 : decode code 1045 = .ok (.aload_n 0, 1) := by decide +kernel
theorem dw_1046 : decode code 1046 = .ok (.iload_n 3, 1) := by decide +kernel
theorem dw_1047 : decode code 1047 = .ok (.iconst 1, 1) := by decide +kernel
theorem dw_1048 : decode code 1048 = .ok (.iadd, 1) := by decide +kernel
theorem dw_1049 : decode code 1049 = .ok (.iaload, 1) := by decide +kernel
theorem dw_1050 : decode code 1050 = .ok (.invokevirtual 120, 3) := by decide +kernel
theorem ml_Law_120 : Cond.methodLink R_law 120 y_M_torn ∈ tb_g := (tb_at (i := 1327) (by decide +kernel))
theorem mt_M_torn : mtV y_M_torn prog_14_method_53_code 2 (some .int) 1 := ⟨(tb_at (i := 1330) (by decide +kernel)), (tb_at (i := 14) (by decide +kernel)), (tb_at (i := 1328) (by decide +kernel)), (tb_at (i := 1329) (by decide +kernel)), ⟨by decide +kernel, by decide +kernel, by decide +kernel⟩⟩
theorem dw_1053 : decode code 1053 = .ok (.if_icmp .eq 576, 3) := by decide +kernel
theorem dw_1058 : decode code 1058 = .ok (.aload_n 1, 1) := by decide +kernel
theorem dw_1059 : decode code 1059 = .ok (.aload_n 0, 1) := by decide +kernel
theorem dw_1060 : decode code 1060 = .ok (.iload_n 3, 1) := by decide +kernel
theorem dw_1061 : decode code 1061 = .ok (.iconst 1, 1) := by decide +kernel
theorem dw_1062 : decode code 1062 = .ok (.iadd, 1) := by decide +kernel
theorem dw_1063 : decode code 1063 = .ok (.iaload, 1) := by decide +kernel
theorem dw_1064 : decode code 1064 = .ok (.aload_n 0, 1) := by decide +kernel
theorem dw_1065 : decode code 1065 = .ok (.iload_n 3, 1) := by decide +kernel
theorem dw_1066 : decode code 1066 = .ok (.iconst 2, 1) := by decide +kernel
theorem dw_1067 : decode code 1067 = .ok (.iadd, 1) := by decide +kernel
theorem dw_1068 : decode code 1068 = .ok (.iaload, 1) := by decide +kernel
theorem dw_1069 : decode code 1069 = .ok (.invokevirtual 121, 3) := by decide +kernel
theorem ml_Law_121 : Cond.methodLink R_law 121 y_O_cut ∈ tb_g := (tb_at (i := 712) (by decide +kernel))
theorem mt_O_cut : mtV y_O_cut prog_1_method_27_code 4 (some .int) 2 := ⟨(tb_at (i := 715) (by decide +kernel)), (tb_at (i := 1) (by decide +kernel)), (tb_at (i := 713) (by decide +kernel)), (tb_at (i := 714) (by decide +kernel)), ⟨by decide +kernel, by decide +kernel, by decide +kernel⟩⟩
theorem dw_1072 : decode code 1072 = .ok (.aload_n 2, 1) := by decide +kernel
theorem dw_1073 : decode code 1073 = .ok (.aload_n 0, 1) := by decide +kernel
theorem dw_1074 : decode code 1074 = .ok (.iload_n 3, 1) := by decide +kernel
theorem dw_1075 : decode code 1075 = .ok (.iconst 1, 1) := by decide +kernel
theorem dw_1076 : decode code 1076 = .ok (.iadd, 1) := by decide +kernel
theorem dw_1077 : decode code 1077 = .ok (.iaload, 1) := by decide +kernel
theorem dw_1078 : decode code 1078 = .ok (.aload_n 0, 1) := by decide +kernel
theorem dw_1079 : decode code 1079 = .ok (.iload_n 3, 1) := by decide +kernel
theorem dw_1080 : decode code 1080 = .ok (.iconst 2, 1) := by decide +kernel
theorem dw_1081 : decode code 1081 = .ok (.iadd, 1) := by decide +kernel
theorem dw_1082 : decode code 1082 = .ok (.iaload, 1) := by decide +kernel
theorem dw_1083 : decode code 1083 = .ok (.invokevirtual 124, 3) := by decide +kernel
theorem ml_Law_124 : Cond.methodLink R_law 124 y_M_cut ∈ tb_g := (tb_at (i := 1331) (by decide +kernel))
theorem mt_M_cut : mtV y_M_cut prog_14_method_54_code 9 (some .int) 2 := ⟨(tb_at (i := 1334) (by decide +kernel)), (tb_at (i := 14) (by decide +kernel)), (tb_at (i := 1332) (by decide +kernel)), (tb_at (i := 1333) (by decide +kernel)), ⟨by decide +kernel, by decide +kernel, by decide +kernel⟩⟩
theorem dw_1086 : decode code 1086 = .ok (.if_icmp .eq 543, 3) := by decide +kernel
theorem dw_1091 : decode code 1091 = .ok (.aload_n 1, 1) := by decide +kernel
theorem dw_1092 : decode code 1092 = .ok (.aload_n 0, 1) := by decide +kernel
theorem dw_1093 : decode code 1093 = .ok (.iload_n 3, 1) := by decide +kernel
theorem dw_1094 : decode code 1094 = .ok (.iconst 1, 1) := by decide +kernel
theorem dw_1095 : decode code 1095 = .ok (.iadd, 1) := by decide +kernel
theorem dw_1096 : decode code 1096 = .ok (.iaload, 1) := by decide +kernel
theorem dw_1097 : decode code 1097 = .ok (.aload_n 0, 1) := by decide +kernel
theorem dw_1098 : decode code 1098 = .ok (.iload_n 3, 1) := by decide +kernel
theorem dw_1099 : decode code 1099 = .ok (.iconst 2, 1) := by decide +kernel
theorem dw_1100 : decode code 1100 = .ok (.iadd, 1) := by decide +kernel
theorem dw_1101 : decode code 1101 = .ok (.iaload, 1) := by decide +kernel
theorem dw_1102 : decode code 1102 = .ok (.aload_n 0, 1) := by decide +kernel
theorem dw_1103 : decode code 1103 = .ok (.iload_n 3, 1) := by decide +kernel
theorem dw_1104 : decode code 1104 = .ok (.iconst 3, 1) := by decide +kernel
theorem dw_1105 : decode code 1105 = .ok (.iadd, 1) := by decide +kernel
theorem dw_1106 : decode code 1106 = .ok (.iaload, 1) := by decide +kernel
theorem dw_1107 : decode code 1107 = .ok (.ifCond .eq 7, 3) := by decide +kernel
theorem dw_1114 : decode code 1114 = .ok (.iconst 0, 1) := by decide +kernel
theorem dw_1115 : decode code 1115 = .ok (.invokevirtual 125, 3) := by decide +kernel
theorem ml_Law_125 : Cond.methodLink R_law 125 y_O_check ∈ tb_g := (tb_at (i := 741) (by decide +kernel))
theorem mt_O_check : mtV y_O_check prog_1_method_28_code 4 (some .int) 3 := ⟨(tb_at (i := 744) (by decide +kernel)), (tb_at (i := 1) (by decide +kernel)), (tb_at (i := 742) (by decide +kernel)), (tb_at (i := 743) (by decide +kernel)), ⟨by decide +kernel, by decide +kernel, by decide +kernel⟩⟩
theorem dw_1118 : decode code 1118 = .ok (.aload_n 2, 1) := by decide +kernel
theorem dw_1119 : decode code 1119 = .ok (.aload_n 0, 1) := by decide +kernel
theorem dw_1120 : decode code 1120 = .ok (.iload_n 3, 1) := by decide +kernel
theorem dw_1121 : decode code 1121 = .ok (.iconst 1, 1) := by decide +kernel
theorem dw_1122 : decode code 1122 = .ok (.iadd, 1) := by decide +kernel
theorem dw_1123 : decode code 1123 = .ok (.iaload, 1) := by decide +kernel
theorem dw_1124 : decode code 1124 = .ok (.aload_n 0, 1) := by decide +kernel
theorem dw_1125 : decode code 1125 = .ok (.iload_n 3, 1) := by decide +kernel
theorem dw_1126 : decode code 1126 = .ok (.iconst 2, 1) := by decide +kernel
theorem dw_1127 : decode code 1127 = .ok (.iadd, 1) := by decide +kernel
theorem dw_1128 : decode code 1128 = .ok (.iaload, 1) := by decide +kernel
theorem dw_1129 : decode code 1129 = .ok (.aload_n 0, 1) := by decide +kernel
theorem dw_1130 : decode code 1130 = .ok (.iload_n 3, 1) := by decide +kernel
theorem dw_1131 : decode code 1131 = .ok (.iconst 3, 1) := by decide +kernel
theorem dw_1132 : decode code 1132 = .ok (.iadd, 1) := by decide +kernel
theorem dw_1133 : decode code 1133 = .ok (.iaload, 1) := by decide +kernel
theorem dw_1134 : decode code 1134 = .ok (.ifCond .eq 7, 3) := by decide +kernel
theorem dw_1141 : decode code 1141 = .ok (.iconst 0, 1) := by decide +kernel
theorem dw_1142 : decode code 1142 = .ok (.invokevirtual 129, 3) := by decide +kernel
theorem ml_Law_129 : Cond.methodLink R_law 129 y_M_check ∈ tb_g := (tb_at (i := 1339) (by decide +kernel))
theorem mt_M_check : mtV y_M_check prog_14_method_56_code 5 (some .int) 3 := ⟨(tb_at (i := 1342) (by decide +kernel)), (tb_at (i := 14) (by decide +kernel)), (tb_at (i := 1340) (by decide +kernel)), (tb_at (i := 1341) (by decide +kernel)), ⟨by decide +kernel, by decide +kernel, by decide +kernel⟩⟩
theorem dw_1145 : decode code 1145 = .ok (.if_icmp .eq 484, 3) := by decide +kernel
theorem dw_1110 : decode code 1110 = .ok (.iconst 1, 1) := by decide +kernel
theorem dw_1111 : decode code 1111 = .ok (.goto 4, 3) := by decide +kernel
theorem dw_1137 : decode code 1137 = .ok (.iconst 1, 1) := by decide +kernel
theorem dw_1138 : decode code 1138 = .ok (.goto 4, 3) := by decide +kernel
theorem dw_1150 : decode code 1150 = .ok (.aload_n 1, 1) := by decide +kernel
theorem dw_1151 : decode code 1151 = .ok (.aload_n 0, 1) := by decide +kernel
theorem dw_1152 : decode code 1152 = .ok (.iload_n 3, 1) := by decide +kernel
theorem dw_1153 : decode code 1153 = .ok (.iconst 1, 1) := by decide +kernel
theorem dw_1154 : decode code 1154 = .ok (.iadd, 1) := by decide +kernel
theorem dw_1155 : decode code 1155 = .ok (.iaload, 1) := by decide +kernel
theorem dw_1156 : decode code 1156 = .ok (.invokevirtual 130, 3) := by decide +kernel
theorem ml_Law_130 : Cond.methodLink R_law 130 y_O_checked ∈ tb_g := (tb_at (i := 759) (by decide +kernel))
theorem dw_1159 : decode code 1159 = .ok (.aload_n 2, 1) := by decide +kernel
theorem dw_1160 : decode code 1160 = .ok (.aload_n 0, 1) := by decide +kernel
theorem dw_1161 : decode code 1161 = .ok (.iload_n 3, 1) := by decide +kernel
theorem dw_1162 : decode code 1162 = .ok (.iconst 1, 1) := by decide +kernel
theorem dw_1163 : decode code 1163 = .ok (.iadd, 1) := by decide +kernel
theorem dw_1164 : decode code 1164 = .ok (.iaload, 1) := by decide +kernel
theorem dw_1165 : decode code 1165 = .ok (.invokevirtual 133, 3) := by decide +kernel
theorem ml_Law_133 : Cond.methodLink R_law 133 y_M_checked ∈ tb_g := (tb_at (i := 1343) (by decide +kernel))
theorem mt_M_checked : mtV y_M_checked prog_14_method_59_code 2 (some .int) 1 := ⟨(tb_at (i := 1346) (by decide +kernel)), (tb_at (i := 14) (by decide +kernel)), (tb_at (i := 1344) (by decide +kernel)), (tb_at (i := 1345) (by decide +kernel)), ⟨by decide +kernel, by decide +kernel, by decide +kernel⟩⟩
theorem dw_1168 : decode code 1168 = .ok (.if_icmp .eq 461, 3) := by decide +kernel
theorem dw_1173 : decode code 1173 = .ok (.aload_n 1, 1) := by decide +kernel
theorem dw_1174 : decode code 1174 = .ok (.aload_n 0, 1) := by decide +kernel
theorem dw_1175 : decode code 1175 = .ok (.iload_n 3, 1) := by decide +kernel
theorem dw_1176 : decode code 1176 = .ok (.iconst 1, 1) := by decide +kernel
theorem dw_1177 : decode code 1177 = .ok (.iadd, 1) := by decide +kernel
theorem dw_1178 : decode code 1178 = .ok (.iaload, 1) := by decide +kernel
theorem dw_1179 : decode code 1179 = .ok (.invokevirtual 134, 3) := by decide +kernel
theorem ml_Law_134 : Cond.methodLink R_law 134 y_O_bound ∈ tb_g := (tb_at (i := 772) (by decide +kernel))
theorem mt_O_bound : mtV y_O_bound prog_1_method_30_code 5 (some .int) 1 := ⟨(tb_at (i := 775) (by decide +kernel)), (tb_at (i := 1) (by decide +kernel)), (tb_at (i := 773) (by decide +kernel)), (tb_at (i := 774) (by decide +kernel)), ⟨by decide +kernel, by decide +kernel, by decide +kernel⟩⟩
theorem dw_1182 : decode code 1182 = .ok (.aload_n 2, 1) := by decide +kernel
theorem dw_1183 : decode code 1183 = .ok (.aload_n 0, 1) := by decide +kernel
theorem dw_1184 : decode code 1184 = .ok (.iload_n 3, 1) := by decide +kernel
theorem dw_1185 : decode code 1185 = .ok (.iconst 1, 1) := by decide +kernel
theorem dw_1186 : decode code 1186 = .ok (.iadd, 1) := by decide +kernel
theorem dw_1187 : decode code 1187 = .ok (.iaload, 1) := by decide +kernel
theorem dw_1188 : decode code 1188 = .ok (.invokevirtual 137, 3) := by decide +kernel
theorem ml_Law_137 : Cond.methodLink R_law 137 y_M_bound ∈ tb_g := (tb_at (i := 1355) (by decide +kernel))
theorem mt_M_bound : mtV y_M_bound prog_14_method_61_code 6 (some .int) 1 := ⟨(tb_at (i := 1358) (by decide +kernel)), (tb_at (i := 14) (by decide +kernel)), (tb_at (i := 1356) (by decide +kernel)), (tb_at (i := 1357) (by decide +kernel)), ⟨by decide +kernel, by decide +kernel, by decide +kernel⟩⟩
theorem dw_1191 : decode code 1191 = .ok (.if_icmp .eq 438, 3) := by decide +kernel
theorem dw_1196 : decode code 1196 = .ok (.aload_n 1, 1) := by decide +kernel
theorem dw_1197 : decode code 1197 = .ok (.aload_n 0, 1) := by decide +kernel
theorem dw_1198 : decode code 1198 = .ok (.iload_n 3, 1) := by decide +kernel
theorem dw_1199 : decode code 1199 = .ok (.iconst 1, 1) := by decide +kernel
theorem dw_1200 : decode code 1200 = .ok (.iadd, 1) := by decide +kernel
theorem dw_1201 : decode code 1201 = .ok (.iaload, 1) := by decide +kernel
theorem dw_1202 : decode code 1202 = .ok (.ifCond .eq 7, 3) := by decide +kernel
theorem dw_1209 : decode code 1209 = .ok (.iconst 0, 1) := by decide +kernel
theorem dw_1210 : decode code 1210 = .ok (.aload_n 0, 1) := by decide +kernel
theorem dw_1211 : decode code 1211 = .ok (.iload_n 3, 1) := by decide +kernel
theorem dw_1212 : decode code 1212 = .ok (.iconst 2, 1) := by decide +kernel
theorem dw_1213 : decode code 1213 = .ok (.iadd, 1) := by decide +kernel
theorem dw_1214 : decode code 1214 = .ok (.iaload, 1) := by decide +kernel
theorem dw_1215 : decode code 1215 = .ok (.aload_n 0, 1) := by decide +kernel
theorem dw_1216 : decode code 1216 = .ok (.iload_n 3, 1) := by decide +kernel
theorem dw_1217 : decode code 1217 = .ok (.iconst 3, 1) := by decide +kernel
theorem dw_1218 : decode code 1218 = .ok (.iadd, 1) := by decide +kernel
theorem dw_1219 : decode code 1219 = .ok (.iaload, 1) := by decide +kernel
theorem dw_1220 : decode code 1220 = .ok (.invokevirtual 138, 3) := by decide +kernel
theorem ml_Law_138 : Cond.methodLink R_law 138 y_O_learnt ∈ tb_g := (tb_at (i := 789) (by decide +kernel))
theorem mt_O_learnt : mtV y_O_learnt prog_1_method_31_code 6 (some .int) 3 := ⟨(tb_at (i := 792) (by decide +kernel)), (tb_at (i := 1) (by decide +kernel)), (tb_at (i := 790) (by decide +kernel)), (tb_at (i := 791) (by decide +kernel)), ⟨by decide +kernel, by decide +kernel, by decide +kernel⟩⟩
theorem dw_1223 : decode code 1223 = .ok (.aload_n 2, 1) := by decide +kernel
theorem dw_1224 : decode code 1224 = .ok (.aload_n 0, 1) := by decide +kernel
theorem dw_1225 : decode code 1225 = .ok (.iload_n 3, 1) := by decide +kernel
theorem dw_1226 : decode code 1226 = .ok (.iconst 1, 1) := by decide +kernel
theorem dw_1227 : decode code 1227 = .ok (.iadd, 1) := by decide +kernel
theorem dw_1228 : decode code 1228 = .ok (.iaload, 1) := by decide +kernel
theorem dw_1229 : decode code 1229 = .ok (.ifCond .eq 7, 3) := by decide +kernel
theorem dw_1236 : decode code 1236 = .ok (.iconst 0, 1) := by decide +kernel
theorem dw_1237 : decode code 1237 = .ok (.aload_n 0, 1) := by decide +kernel
theorem dw_1238 : decode code 1238 = .ok (.iload_n 3, 1) := by decide +kernel
theorem dw_1239 : decode code 1239 = .ok (.iconst 2, 1) := by decide +kernel
theorem dw_1240 : decode code 1240 = .ok (.iadd, 1) := by decide +kernel
theorem dw_1241 : decode code 1241 = .ok (.iaload, 1) := by decide +kernel
theorem dw_1242 : decode code 1242 = .ok (.aload_n 0, 1) := by decide +kernel
theorem dw_1243 : decode code 1243 = .ok (.iload_n 3, 1) := by decide +kernel
theorem dw_1244 : decode code 1244 = .ok (.iconst 3, 1) := by decide +kernel
theorem dw_1245 : decode code 1245 = .ok (.iadd, 1) := by decide +kernel
theorem dw_1246 : decode code 1246 = .ok (.iaload, 1) := by decide +kernel
theorem dw_1247 : decode code 1247 = .ok (.invokevirtual 142, 3) := by decide +kernel
theorem ml_Law_142 : Cond.methodLink R_law 142 y_M_learnt ∈ tb_g := (tb_at (i := 1367) (by decide +kernel))
theorem mt_M_learnt : mtV y_M_learnt prog_14_method_63_code 8 (some .int) 3 := ⟨(tb_at (i := 1370) (by decide +kernel)), (tb_at (i := 14) (by decide +kernel)), (tb_at (i := 1368) (by decide +kernel)), (tb_at (i := 1369) (by decide +kernel)), ⟨by decide +kernel, by decide +kernel, by decide +kernel⟩⟩
theorem dw_1250 : decode code 1250 = .ok (.if_icmp .eq 379, 3) := by decide +kernel
theorem dw_1205 : decode code 1205 = .ok (.iconst 1, 1) := by decide +kernel
theorem dw_1206 : decode code 1206 = .ok (.goto 4, 3) := by decide +kernel
theorem dw_1232 : decode code 1232 = .ok (.iconst 1, 1) := by decide +kernel
theorem dw_1233 : decode code 1233 = .ok (.goto 4, 3) := by decide +kernel
theorem dw_1255 : decode code 1255 = .ok (.aload_n 1, 1) := by decide +kernel
theorem dw_1256 : decode code 1256 = .ok (.aload_n 0, 1) := by decide +kernel
theorem dw_1257 : decode code 1257 = .ok (.iload_n 3, 1) := by decide +kernel
theorem dw_1258 : decode code 1258 = .ok (.iconst 1, 1) := by decide +kernel
theorem dw_1259 : decode code 1259 = .ok (.iadd, 1) := by decide +kernel
theorem dw_1260 : decode code 1260 = .ok (.iaload, 1) := by decide +kernel
theorem dw_1261 : decode code 1261 = .ok (.aload_n 0, 1) := by decide +kernel
theorem dw_1262 : decode code 1262 = .ok (.iload_n 3, 1) := by decide +kernel
theorem dw_1263 : decode code 1263 = .ok (.iconst 2, 1) := by decide +kernel
theorem dw_1264 : decode code 1264 = .ok (.iadd, 1) := by decide +kernel
theorem dw_1265 : decode code 1265 = .ok (.iaload, 1) := by decide +kernel
theorem dw_1266 : decode code 1266 = .ok (.aload_n 0, 1) := by decide +kernel
theorem dw_1267 : decode code 1267 = .ok (.iload_n 3, 1) := by decide +kernel
theorem dw_1268 : decode code 1268 = .ok (.iconst 3, 1) := by decide +kernel
theorem dw_1269 : decode code 1269 = .ok (.iadd, 1) := by decide +kernel
theorem dw_1270 : decode code 1270 = .ok (.iaload, 1) := by decide +kernel
theorem dw_1271 : decode code 1271 = .ok (.invokevirtual 143, 3) := by decide +kernel
theorem ml_Law_143 : Cond.methodLink R_law 143 y_O_meet ∈ tb_g := (tb_at (i := 802) (by decide +kernel))
theorem mt_O_meet : mtV y_O_meet prog_1_method_32_code 4 (some .int) 3 := ⟨(tb_at (i := 805) (by decide +kernel)), (tb_at (i := 1) (by decide +kernel)), (tb_at (i := 803) (by decide +kernel)), (tb_at (i := 804) (by decide +kernel)), ⟨by decide +kernel, by decide +kernel, by decide +kernel⟩⟩
theorem dw_1274 : decode code 1274 = .ok (.aload_n 2, 1) := by decide +kernel
theorem dw_1275 : decode code 1275 = .ok (.aload_n 0, 1) := by decide +kernel
theorem dw_1276 : decode code 1276 = .ok (.iload_n 3, 1) := by decide +kernel
theorem dw_1277 : decode code 1277 = .ok (.iconst 1, 1) := by decide +kernel
theorem dw_1278 : decode code 1278 = .ok (.iadd, 1) := by decide +kernel
theorem dw_1279 : decode code 1279 = .ok (.iaload, 1) := by decide +kernel
theorem dw_1280 : decode code 1280 = .ok (.aload_n 0, 1) := by decide +kernel
theorem dw_1281 : decode code 1281 = .ok (.iload_n 3, 1) := by decide +kernel
theorem dw_1282 : decode code 1282 = .ok (.iconst 2, 1) := by decide +kernel
theorem dw_1283 : decode code 1283 = .ok (.iadd, 1) := by decide +kernel
theorem dw_1284 : decode code 1284 = .ok (.iaload, 1) := by decide +kernel
theorem dw_1285 : decode code 1285 = .ok (.aload_n 0, 1) := by decide +kernel
theorem dw_1286 : decode code 1286 = .ok (.iload_n 3, 1) := by decide +kernel
theorem dw_1287 : decode code 1287 = .ok (.iconst 3, 1) := by decide +kernel
theorem dw_1288 : decode code 1288 = .ok (.iadd, 1) := by decide +kernel
theorem dw_1289 : decode code 1289 = .ok (.iaload, 1) := by decide +kernel
theorem dw_1290 : decode code 1290 = .ok (.invokevirtual 146, 3) := by decide +kernel
theorem ml_Law_146 : Cond.methodLink R_law 146 y_M_meet ∈ tb_g := (tb_at (i := 1371) (by decide +kernel))
theorem mt_M_meet : mtV y_M_meet prog_14_method_66_code 4 (some .int) 3 := ⟨(tb_at (i := 1374) (by decide +kernel)), (tb_at (i := 14) (by decide +kernel)), (tb_at (i := 1372) (by decide +kernel)), (tb_at (i := 1373) (by decide +kernel)), ⟨by decide +kernel, by decide +kernel, by decide +kernel⟩⟩
theorem dw_1293 : decode code 1293 = .ok (.if_icmp .eq 336, 3) := by decide +kernel
theorem dw_1298 : decode code 1298 = .ok (.aload_n 1, 1) := by decide +kernel
theorem dw_1299 : decode code 1299 = .ok (.aload_n 0, 1) := by decide +kernel
theorem dw_1300 : decode code 1300 = .ok (.iload_n 3, 1) := by decide +kernel
theorem dw_1301 : decode code 1301 = .ok (.iconst 1, 1) := by decide +kernel
theorem dw_1302 : decode code 1302 = .ok (.iadd, 1) := by decide +kernel
theorem dw_1303 : decode code 1303 = .ok (.iaload, 1) := by decide +kernel
theorem dw_1304 : decode code 1304 = .ok (.invokevirtual 147, 3) := by decide +kernel
theorem ml_Law_147 : Cond.methodLink R_law 147 y_O_pairs ∈ tb_g := (tb_at (i := 828) (by decide +kernel))
theorem dw_1307 : decode code 1307 = .ok (.aload_n 2, 1) := by decide +kernel
theorem dw_1308 : decode code 1308 = .ok (.aload_n 0, 1) := by decide +kernel
theorem dw_1309 : decode code 1309 = .ok (.iload_n 3, 1) := by decide +kernel
theorem dw_1310 : decode code 1310 = .ok (.iconst 1, 1) := by decide +kernel
theorem dw_1311 : decode code 1311 = .ok (.iadd, 1) := by decide +kernel
theorem dw_1312 : decode code 1312 = .ok (.iaload, 1) := by decide +kernel
theorem dw_1313 : decode code 1313 = .ok (.invokevirtual 150, 3) := by decide +kernel
theorem ml_Law_150 : Cond.methodLink R_law 150 y_M_pairs ∈ tb_g := (tb_at (i := 1383) (by decide +kernel))
theorem mt_M_pairs : mtV y_M_pairs prog_14_method_69_code 2 (some .int) 1 := ⟨(tb_at (i := 1386) (by decide +kernel)), (tb_at (i := 14) (by decide +kernel)), (tb_at (i := 1384) (by decide +kernel)), (tb_at (i := 1385) (by decide +kernel)), ⟨by decide +kernel, by decide +kernel, by decide +kernel⟩⟩
theorem dw_1316 : decode code 1316 = .ok (.if_icmp .eq 313, 3) := by decide +kernel
theorem dw_1321 : decode code 1321 = .ok (.aload_n 1, 1) := by decide +kernel
theorem dw_1322 : decode code 1322 = .ok (.invokevirtual 151, 3) := by decide +kernel
theorem ml_Law_151 : Cond.methodLink R_law 151 y_O_keys ∈ tb_g := (tb_at (i := 844) (by decide +kernel))
theorem mt_O_keys : mtV y_O_keys prog_1_method_34_code 1 (some .int) 0 := ⟨(tb_at (i := 847) (by decide +kernel)), (tb_at (i := 1) (by decide +kernel)), (tb_at (i := 845) (by decide +kernel)), (tb_at (i := 846) (by decide +kernel)), ⟨by decide +kernel, by decide +kernel, by decide +kernel⟩⟩
theorem dw_1325 : decode code 1325 = .ok (.aload_n 2, 1) := by decide +kernel
theorem dw_1326 : decode code 1326 = .ok (.invokevirtual 154, 3) := by decide +kernel
theorem ml_Law_154 : Cond.methodLink R_law 154 y_M_keys ∈ tb_g := (tb_at (i := 1395) (by decide +kernel))
theorem mt_M_keys : mtV y_M_keys prog_14_method_72_code 4 (some .int) 0 := ⟨(tb_at (i := 1398) (by decide +kernel)), (tb_at (i := 14) (by decide +kernel)), (tb_at (i := 1396) (by decide +kernel)), (tb_at (i := 1397) (by decide +kernel)), ⟨by decide +kernel, by decide +kernel, by decide +kernel⟩⟩
theorem dw_1329 : decode code 1329 = .ok (.if_icmp .eq 300, 3) := by decide +kernel
theorem dw_1334 : decode code 1334 = .ok (.aload_n 1, 1) := by decide +kernel
theorem dw_1335 : decode code 1335 = .ok (.aload_n 0, 1) := by decide +kernel
theorem dw_1336 : decode code 1336 = .ok (.iload_n 3, 1) := by decide +kernel
theorem dw_1337 : decode code 1337 = .ok (.iconst 1, 1) := by decide +kernel
theorem dw_1338 : decode code 1338 = .ok (.iadd, 1) := by decide +kernel
theorem dw_1339 : decode code 1339 = .ok (.iaload, 1) := by decide +kernel
theorem dw_1340 : decode code 1340 = .ok (.aload_n 0, 1) := by decide +kernel
theorem dw_1341 : decode code 1341 = .ok (.iload_n 3, 1) := by decide +kernel
theorem dw_1342 : decode code 1342 = .ok (.iconst 2, 1) := by decide +kernel
theorem dw_1343 : decode code 1343 = .ok (.iadd, 1) := by decide +kernel
theorem dw_1344 : decode code 1344 = .ok (.iaload, 1) := by decide +kernel
theorem dw_1345 : decode code 1345 = .ok (.aload_n 0, 1) := by decide +kernel
theorem dw_1346 : decode code 1346 = .ok (.iload_n 3, 1) := by decide +kernel
theorem dw_1347 : decode code 1347 = .ok (.iconst 3, 1) := by decide +kernel
theorem dw_1348 : decode code 1348 = .ok (.iadd, 1) := by decide +kernel
theorem dw_1349 : decode code 1349 = .ok (.iaload, 1) := by decide +kernel
theorem dw_1350 : decode code 1350 = .ok (.invokevirtual 155, 3) := by decide +kernel
theorem ml_Law_155 : Cond.methodLink R_law 155 y_O_sheet ∈ tb_g := (tb_at (i := 871) (by decide +kernel))
theorem mt_O_sheet : mtV y_O_sheet prog_1_method_35_code 4 (some .int) 3 := ⟨(tb_at (i := 874) (by decide +kernel)), (tb_at (i := 1) (by decide +kernel)), (tb_at (i := 872) (by decide +kernel)), (tb_at (i := 873) (by decide +kernel)), ⟨by decide +kernel, by decide +kernel, by decide +kernel⟩⟩
theorem dw_1353 : decode code 1353 = .ok (.aload_n 2, 1) := by decide +kernel
theorem dw_1354 : decode code 1354 = .ok (.aload_n 0, 1) := by decide +kernel
theorem dw_1355 : decode code 1355 = .ok (.iload_n 3, 1) := by decide +kernel
theorem dw_1356 : decode code 1356 = .ok (.iconst 1, 1) := by decide +kernel
theorem dw_1357 : decode code 1357 = .ok (.iadd, 1) := by decide +kernel
theorem dw_1358 : decode code 1358 = .ok (.iaload, 1) := by decide +kernel
theorem dw_1359 : decode code 1359 = .ok (.aload_n 0, 1) := by decide +kernel
theorem dw_1360 : decode code 1360 = .ok (.iload_n 3, 1) := by decide +kernel
theorem dw_1361 : decode code 1361 = .ok (.iconst 2, 1) := by decide +kernel
theorem dw_1362 : decode code 1362 = .ok (.iadd, 1) := by decide +kernel
theorem dw_1363 : decode code 1363 = .ok (.iaload, 1) := by decide +kernel
theorem dw_1364 : decode code 1364 = .ok (.aload_n 0, 1) := by decide +kernel
theorem dw_1365 : decode code 1365 = .ok (.iload_n 3, 1) := by decide +kernel
theorem dw_1366 : decode code 1366 = .ok (.iconst 3, 1) := by decide +kernel
theorem dw_1367 : decode code 1367 = .ok (.iadd, 1) := by decide +kernel
theorem dw_1368 : decode code 1368 = .ok (.iaload, 1) := by decide +kernel
theorem dw_1369 : decode code 1369 = .ok (.invokevirtual 158, 3) := by decide +kernel
theorem ml_Law_158 : Cond.methodLink R_law 158 y_M_sheet ∈ tb_g := (tb_at (i := 1406) (by decide +kernel))
theorem mt_M_sheet : mtV y_M_sheet prog_14_method_75_code 5 (some .int) 3 := ⟨(tb_at (i := 1409) (by decide +kernel)), (tb_at (i := 14) (by decide +kernel)), (tb_at (i := 1407) (by decide +kernel)), (tb_at (i := 1408) (by decide +kernel)), ⟨by decide +kernel, by decide +kernel, by decide +kernel⟩⟩
theorem dw_1372 : decode code 1372 = .ok (.if_icmp .eq 257, 3) := by decide +kernel
theorem dw_1377 : decode code 1377 = .ok (.aload_n 1, 1) := by decide +kernel
theorem dw_1378 : decode code 1378 = .ok (.aload_n 0, 1) := by decide +kernel
theorem dw_1379 : decode code 1379 = .ok (.iload_n 3, 1) := by decide +kernel
theorem dw_1380 : decode code 1380 = .ok (.iconst 1, 1) := by decide +kernel
theorem dw_1381 : decode code 1381 = .ok (.iadd, 1) := by decide +kernel
theorem dw_1382 : decode code 1382 = .ok (.iaload, 1) := by decide +kernel
theorem dw_1383 : decode code 1383 = .ok (.invokevirtual 159, 3) := by decide +kernel
theorem ml_Law_159 : Cond.methodLink R_law 159 y_O_lose ∈ tb_g := (tb_at (i := 882) (by decide +kernel))
theorem mt_O_lose : mtV y_O_lose prog_1_method_36_code 2 (some .int) 1 := ⟨(tb_at (i := 885) (by decide +kernel)), (tb_at (i := 1) (by decide +kernel)), (tb_at (i := 883) (by decide +kernel)), (tb_at (i := 884) (by decide +kernel)), ⟨by decide +kernel, by decide +kernel, by decide +kernel⟩⟩
theorem dw_1386 : decode code 1386 = .ok (.aload_n 2, 1) := by decide +kernel
theorem dw_1387 : decode code 1387 = .ok (.aload_n 0, 1) := by decide +kernel
theorem dw_1388 : decode code 1388 = .ok (.iload_n 3, 1) := by decide +kernel
theorem dw_1389 : decode code 1389 = .ok (.iconst 1, 1) := by decide +kernel
theorem dw_1390 : decode code 1390 = .ok (.iadd, 1) := by decide +kernel
theorem dw_1391 : decode code 1391 = .ok (.iaload, 1) := by decide +kernel
theorem dw_1392 : decode code 1392 = .ok (.invokevirtual 162, 3) := by decide +kernel
theorem ml_Law_162 : Cond.methodLink R_law 162 y_M_lose ∈ tb_g := (tb_at (i := 1410) (by decide +kernel))
theorem mt_M_lose : mtV y_M_lose prog_14_method_76_code 2 (some .int) 1 := ⟨(tb_at (i := 1413) (by decide +kernel)), (tb_at (i := 14) (by decide +kernel)), (tb_at (i := 1411) (by decide +kernel)), (tb_at (i := 1412) (by decide +kernel)), ⟨by decide +kernel, by decide +kernel, by decide +kernel⟩⟩
theorem dw_1395 : decode code 1395 = .ok (.if_icmp .eq 234, 3) := by decide +kernel
theorem dw_1400 : decode code 1400 = .ok (.aload_n 1, 1) := by decide +kernel
theorem dw_1401 : decode code 1401 = .ok (.aload_n 0, 1) := by decide +kernel
theorem dw_1402 : decode code 1402 = .ok (.iload_n 3, 1) := by decide +kernel
theorem dw_1403 : decode code 1403 = .ok (.iconst 1, 1) := by decide +kernel
theorem dw_1404 : decode code 1404 = .ok (.iadd, 1) := by decide +kernel
theorem dw_1405 : decode code 1405 = .ok (.iaload, 1) := by decide +kernel
theorem dw_1406 : decode code 1406 = .ok (.aload_n 0, 1) := by decide +kernel
theorem dw_1407 : decode code 1407 = .ok (.iload_n 3, 1) := by decide +kernel
theorem dw_1408 : decode code 1408 = .ok (.iconst 2, 1) := by decide +kernel
theorem dw_1409 : decode code 1409 = .ok (.iadd, 1) := by decide +kernel
theorem dw_1410 : decode code 1410 = .ok (.iaload, 1) := by decide +kernel
theorem dw_1411 : decode code 1411 = .ok (.aload_n 0, 1) := by decide +kernel
theorem dw_1412 : decode code 1412 = .ok (.iload_n 3, 1) := by decide +kernel
theorem dw_1413 : decode code 1413 = .ok (.iconst 3, 1) := by decide +kernel
theorem dw_1414 : decode code 1414 = .ok (.iadd, 1) := by decide +kernel
theorem dw_1415 : decode code 1415 = .ok (.iaload, 1) := by decide +kernel
theorem dw_1416 : decode code 1416 = .ok (.aload_n 0, 1) := by decide +kernel
theorem dw_1417 : decode code 1417 = .ok (.iload_n 3, 1) := by decide +kernel
theorem dw_1418 : decode code 1418 = .ok (.iconst 4, 1) := by decide +kernel
theorem dw_1419 : decode code 1419 = .ok (.iadd, 1) := by decide +kernel
theorem dw_1420 : decode code 1420 = .ok (.iaload, 1) := by decide +kernel
theorem dw_1421 : decode code 1421 = .ok (.invokevirtual 163, 3) := by decide +kernel
theorem ml_Law_163 : Cond.methodLink R_law 163 y_O_put ∈ tb_g := (tb_at (i := 890) (by decide +kernel))
theorem mt_O_put : mtV y_O_put prog_1_method_37_code 6 (some .int) 4 := ⟨(tb_at (i := 893) (by decide +kernel)), (tb_at (i := 1) (by decide +kernel)), (tb_at (i := 891) (by decide +kernel)), (tb_at (i := 892) (by decide +kernel)), ⟨by decide +kernel, by decide +kernel, by decide +kernel⟩⟩
theorem dw_1424 : decode code 1424 = .ok (.aload_n 2, 1) := by decide +kernel
theorem dw_1425 : decode code 1425 = .ok (.aload_n 0, 1) := by decide +kernel
theorem dw_1426 : decode code 1426 = .ok (.iload_n 3, 1) := by decide +kernel
theorem dw_1427 : decode code 1427 = .ok (.iconst 1, 1) := by decide +kernel
theorem dw_1428 : decode code 1428 = .ok (.iadd, 1) := by decide +kernel
theorem dw_1429 : decode code 1429 = .ok (.iaload, 1) := by decide +kernel
theorem dw_1430 : decode code 1430 = .ok (.aload_n 0, 1) := by decide +kernel
theorem dw_1431 : decode code 1431 = .ok (.iload_n 3, 1) := by decide +kernel
theorem dw_1432 : decode code 1432 = .ok (.iconst 2, 1) := by decide +kernel
theorem dw_1433 : decode code 1433 = .ok (.iadd, 1) := by decide +kernel
theorem dw_1434 : decode code 1434 = .ok (.iaload, 1) := by decide +kernel
theorem dw_1435 : decode code 1435 = .ok (.aload_n 0, 1) := by decide +kernel
theorem dw_1436 : decode code 1436 = .ok (.iload_n 3, 1) := by decide +kernel
theorem dw_1437 : decode code 1437 = .ok (.iconst 3, 1) := by decide +kernel
theorem dw_1438 : decode code 1438 = .ok (.iadd, 1) := by decide +kernel
theorem dw_1439 : decode code 1439 = .ok (.iaload, 1) := by decide +kernel
theorem dw_1440 : decode code 1440 = .ok (.aload_n 0, 1) := by decide +kernel
theorem dw_1441 : decode code 1441 = .ok (.iload_n 3, 1) := by decide +kernel
theorem dw_1442 : decode code 1442 = .ok (.iconst 4, 1) := by decide +kernel
theorem dw_1443 : decode code 1443 = .ok (.iadd, 1) := by decide +kernel
theorem dw_1444 : decode code 1444 = .ok (.iaload, 1) := by decide +kernel
theorem dw_1445 : decode code 1445 = .ok (.invokevirtual 166, 3) := by decide +kernel
theorem ml_Law_166 : Cond.methodLink R_law 166 y_M_put ∈ tb_g := (tb_at (i := 1414) (by decide +kernel))
theorem mt_M_put : mtV y_M_put prog_14_method_79_code 6 (some .int) 4 := ⟨(tb_at (i := 1417) (by decide +kernel)), (tb_at (i := 14) (by decide +kernel)), (tb_at (i := 1415) (by decide +kernel)), (tb_at (i := 1416) (by decide +kernel)), ⟨by decide +kernel, by decide +kernel, by decide +kernel⟩⟩
theorem dw_1448 : decode code 1448 = .ok (.if_icmp .eq 181, 3) := by decide +kernel
theorem dw_1453 : decode code 1453 = .ok (.aload_n 1, 1) := by decide +kernel
theorem dw_1454 : decode code 1454 = .ok (.aload_n 0, 1) := by decide +kernel
theorem dw_1455 : decode code 1455 = .ok (.iload_n 3, 1) := by decide +kernel
theorem dw_1456 : decode code 1456 = .ok (.iconst 1, 1) := by decide +kernel
theorem dw_1457 : decode code 1457 = .ok (.iadd, 1) := by decide +kernel
theorem dw_1458 : decode code 1458 = .ok (.iaload, 1) := by decide +kernel
theorem dw_1459 : decode code 1459 = .ok (.aload_n 0, 1) := by decide +kernel
theorem dw_1460 : decode code 1460 = .ok (.iload_n 3, 1) := by decide +kernel
theorem dw_1461 : decode code 1461 = .ok (.iconst 2, 1) := by decide +kernel
theorem dw_1462 : decode code 1462 = .ok (.iadd, 1) := by decide +kernel
theorem dw_1463 : decode code 1463 = .ok (.iaload, 1) := by decide +kernel
theorem dw_1464 : decode code 1464 = .ok (.aload_n 0, 1) := by decide +kernel
theorem dw_1465 : decode code 1465 = .ok (.iload_n 3, 1) := by decide +kernel
theorem dw_1466 : decode code 1466 = .ok (.iconst 3, 1) := by decide +kernel
theorem dw_1467 : decode code 1467 = .ok (.iadd, 1) := by decide +kernel
theorem dw_1468 : decode code 1468 = .ok (.iaload, 1) := by decide +kernel
theorem dw_1469 : decode code 1469 = .ok (.invokevirtual 167, 3) := by decide +kernel
theorem ml_Law_167 : Cond.methodLink R_law 167 y_O_get ∈ tb_g := (tb_at (i := 903) (by decide +kernel))
theorem mt_O_get : mtV y_O_get prog_1_method_38_code 5 (some .int) 3 := ⟨(tb_at (i := 906) (by decide +kernel)), (tb_at (i := 1) (by decide +kernel)), (tb_at (i := 904) (by decide +kernel)), (tb_at (i := 905) (by decide +kernel)), ⟨by decide +kernel, by decide +kernel, by decide +kernel⟩⟩
theorem dw_1472 : decode code 1472 = .ok (.aload_n 2, 1) := by decide +kernel
theorem dw_1473 : decode code 1473 = .ok (.aload_n 0, 1) := by decide +kernel
theorem dw_1474 : decode code 1474 = .ok (.iload_n 3, 1) := by decide +kernel
theorem dw_1475 : decode code 1475 = .ok (.iconst 1, 1) := by decide +kernel
theorem dw_1476 : decode code 1476 = .ok (.iadd, 1) := by decide +kernel
theorem dw_1477 : decode code 1477 = .ok (.iaload, 1) := by decide +kernel
theorem dw_1478 : decode code 1478 = .ok (.aload_n 0, 1) := by decide +kernel
theorem dw_1479 : decode code 1479 = .ok (.iload_n 3, 1) := by decide +kernel
theorem dw_1480 : decode code 1480 = .ok (.iconst 2, 1) := by decide +kernel
theorem dw_1481 : decode code 1481 = .ok (.iadd, 1) := by decide +kernel
theorem dw_1482 : decode code 1482 = .ok (.iaload, 1) := by decide +kernel
theorem dw_1483 : decode code 1483 = .ok (.aload_n 0, 1) := by decide +kernel
theorem dw_1484 : decode code 1484 = .ok (.iload_n 3, 1) := by decide +kernel
theorem dw_1485 : decode code 1485 = .ok (.iconst 3, 1) := by decide +kernel
theorem dw_1486 : decode code 1486 = .ok (.iadd, 1) := by decide +kernel
theorem dw_1487 : decode code 1487 = .ok (.iaload, 1) := by decide +kernel
theorem dw_1488 : decode code 1488 = .ok (.invokevirtual 170, 3) := by decide +kernel
theorem ml_Law_170 : Cond.methodLink R_law 170 y_M_get ∈ tb_g := (tb_at (i := 1426) (by decide +kernel))
theorem mt_M_get : mtV y_M_get prog_14_method_80_code 5 (some .int) 3 := ⟨(tb_at (i := 1429) (by decide +kernel)), (tb_at (i := 14) (by decide +kernel)), (tb_at (i := 1427) (by decide +kernel)), (tb_at (i := 1428) (by decide +kernel)), ⟨by decide +kernel, by decide +kernel, by decide +kernel⟩⟩
theorem dw_1491 : decode code 1491 = .ok (.if_icmp .eq 138, 3) := by decide +kernel
theorem dw_1496 : decode code 1496 = .ok (.aload_n 1, 1) := by decide +kernel
theorem dw_1497 : decode code 1497 = .ok (.aload_n 0, 1) := by decide +kernel
theorem dw_1498 : decode code 1498 = .ok (.iload_n 3, 1) := by decide +kernel
theorem dw_1499 : decode code 1499 = .ok (.iconst 1, 1) := by decide +kernel
theorem dw_1500 : decode code 1500 = .ok (.iadd, 1) := by decide +kernel
theorem dw_1501 : decode code 1501 = .ok (.iaload, 1) := by decide +kernel
theorem dw_1502 : decode code 1502 = .ok (.aload_n 0, 1) := by decide +kernel
theorem dw_1503 : decode code 1503 = .ok (.iload_n 3, 1) := by decide +kernel
theorem dw_1504 : decode code 1504 = .ok (.iconst 2, 1) := by decide +kernel
theorem dw_1505 : decode code 1505 = .ok (.iadd, 1) := by decide +kernel
theorem dw_1506 : decode code 1506 = .ok (.iaload, 1) := by decide +kernel
theorem dw_1507 : decode code 1507 = .ok (.aload_n 0, 1) := by decide +kernel
theorem dw_1508 : decode code 1508 = .ok (.iload_n 3, 1) := by decide +kernel
theorem dw_1509 : decode code 1509 = .ok (.iconst 3, 1) := by decide +kernel
theorem dw_1510 : decode code 1510 = .ok (.iadd, 1) := by decide +kernel
theorem dw_1511 : decode code 1511 = .ok (.iaload, 1) := by decide +kernel
theorem dw_1512 : decode code 1512 = .ok (.aload_n 0, 1) := by decide +kernel
theorem dw_1513 : decode code 1513 = .ok (.iload_n 3, 1) := by decide +kernel
theorem dw_1514 : decode code 1514 = .ok (.iconst 4, 1) := by decide +kernel
theorem dw_1515 : decode code 1515 = .ok (.iadd, 1) := by decide +kernel
theorem dw_1516 : decode code 1516 = .ok (.iaload, 1) := by decide +kernel
theorem dw_1517 : decode code 1517 = .ok (.aload_n 0, 1) := by decide +kernel
theorem dw_1518 : decode code 1518 = .ok (.iload_n 3, 1) := by decide +kernel
theorem dw_1519 : decode code 1519 = .ok (.iconst 5, 1) := by decide +kernel
theorem dw_1520 : decode code 1520 = .ok (.iadd, 1) := by decide +kernel
theorem dw_1521 : decode code 1521 = .ok (.iaload, 1) := by decide +kernel
theorem dw_1522 : decode code 1522 = .ok (.invokevirtual 171, 3) := by decide +kernel
theorem ml_Law_171 : Cond.methodLink R_law 171 y_O_copy ∈ tb_g := (tb_at (i := 908) (by decide +kernel))
theorem mt_O_copy : mtV y_O_copy prog_1_method_39_code 6 (some .int) 5 := ⟨(tb_at (i := 911) (by decide +kernel)), (tb_at (i := 1) (by decide +kernel)), (tb_at (i := 909) (by decide +kernel)), (tb_at (i := 910) (by decide +kernel)), ⟨by decide +kernel, by decide +kernel, by decide +kernel⟩⟩
theorem dw_1525 : decode code 1525 = .ok (.aload_n 2, 1) := by decide +kernel
theorem dw_1526 : decode code 1526 = .ok (.aload_n 0, 1) := by decide +kernel
theorem dw_1527 : decode code 1527 = .ok (.iload_n 3, 1) := by decide +kernel
theorem dw_1528 : decode code 1528 = .ok (.iconst 1, 1) := by decide +kernel
theorem dw_1529 : decode code 1529 = .ok (.iadd, 1) := by decide +kernel
theorem dw_1530 : decode code 1530 = .ok (.iaload, 1) := by decide +kernel
theorem dw_1531 : decode code 1531 = .ok (.aload_n 0, 1) := by decide +kernel
theorem dw_1532 : decode code 1532 = .ok (.iload_n 3, 1) := by decide +kernel
theorem dw_1533 : decode code 1533 = .ok (.iconst 2, 1) := by decide +kernel
theorem dw_1534 : decode code 1534 = .ok (.iadd, 1) := by decide +kernel
theorem dw_1535 : decode code 1535 = .ok (.iaload, 1) := by decide +kernel
theorem dw_1536 : decode code 1536 = .ok (.aload_n 0, 1) := by decide +kernel
theorem dw_1537 : decode code 1537 = .ok (.iload_n 3, 1) := by decide +kernel
theorem dw_1538 : decode code 1538 = .ok (.iconst 3, 1) := by decide +kernel
theorem dw_1539 : decode code 1539 = .ok (.iadd, 1) := by decide +kernel
theorem dw_1540 : decode code 1540 = .ok (.iaload, 1) := by decide +kernel
theorem dw_1541 : decode code 1541 = .ok (.aload_n 0, 1) := by decide +kernel
theorem dw_1542 : decode code 1542 = .ok (.iload_n 3, 1) := by decide +kernel
theorem dw_1543 : decode code 1543 = .ok (.iconst 4, 1) := by decide +kernel
theorem dw_1544 : decode code 1544 = .ok (.iadd, 1) := by decide +kernel
theorem dw_1545 : decode code 1545 = .ok (.iaload, 1) := by decide +kernel
theorem dw_1546 : decode code 1546 = .ok (.aload_n 0, 1) := by decide +kernel
theorem dw_1547 : decode code 1547 = .ok (.iload_n 3, 1) := by decide +kernel
theorem dw_1548 : decode code 1548 = .ok (.iconst 5, 1) := by decide +kernel
theorem dw_1549 : decode code 1549 = .ok (.iadd, 1) := by decide +kernel
theorem dw_1550 : decode code 1550 = .ok (.iaload, 1) := by decide +kernel
theorem dw_1551 : decode code 1551 = .ok (.invokevirtual 175, 3) := by decide +kernel
theorem ml_Law_175 : Cond.methodLink R_law 175 y_M_copy ∈ tb_g := (tb_at (i := 1431) (by decide +kernel))
theorem mt_M_copy : mtV y_M_copy prog_14_method_81_code 7 (some .int) 5 := ⟨(tb_at (i := 1434) (by decide +kernel)), (tb_at (i := 14) (by decide +kernel)), (tb_at (i := 1432) (by decide +kernel)), (tb_at (i := 1433) (by decide +kernel)), ⟨by decide +kernel, by decide +kernel, by decide +kernel⟩⟩
theorem dw_1554 : decode code 1554 = .ok (.if_icmp .eq 75, 3) := by decide +kernel
theorem dw_1559 : decode code 1559 = .ok (.aload_n 1, 1) := by decide +kernel
theorem dw_1560 : decode code 1560 = .ok (.aload_n 0, 1) := by decide +kernel
theorem dw_1561 : decode code 1561 = .ok (.iload_n 3, 1) := by decide +kernel
theorem dw_1562 : decode code 1562 = .ok (.iconst 1, 1) := by decide +kernel
theorem dw_1563 : decode code 1563 = .ok (.iadd, 1) := by decide +kernel
theorem dw_1564 : decode code 1564 = .ok (.iaload, 1) := by decide +kernel
theorem dw_1565 : decode code 1565 = .ok (.aload_n 0, 1) := by decide +kernel
theorem dw_1566 : decode code 1566 = .ok (.iload_n 3, 1) := by decide +kernel
theorem dw_1567 : decode code 1567 = .ok (.iconst 2, 1) := by decide +kernel
theorem dw_1568 : decode code 1568 = .ok (.iadd, 1) := by decide +kernel
theorem dw_1569 : decode code 1569 = .ok (.iaload, 1) := by decide +kernel
theorem dw_1570 : decode code 1570 = .ok (.invokevirtual 176, 3) := by decide +kernel
theorem ml_Law_176 : Cond.methodLink R_law 176 y_O_write ∈ tb_g := (tb_at (i := 923) (by decide +kernel))
theorem mt_O_write : mtV y_O_write prog_1_method_40_code 5 (some .int) 2 := ⟨(tb_at (i := 926) (by decide +kernel)), (tb_at (i := 1) (by decide +kernel)), (tb_at (i := 924) (by decide +kernel)), (tb_at (i := 925) (by decide +kernel)), ⟨by decide +kernel, by decide +kernel, by decide +kernel⟩⟩
theorem dw_1573 : decode code 1573 = .ok (.aload_n 2, 1) := by decide +kernel
theorem dw_1574 : decode code 1574 = .ok (.aload_n 0, 1) := by decide +kernel
theorem dw_1575 : decode code 1575 = .ok (.iload_n 3, 1) := by decide +kernel
theorem dw_1576 : decode code 1576 = .ok (.iconst 1, 1) := by decide +kernel
theorem dw_1577 : decode code 1577 = .ok (.iadd, 1) := by decide +kernel
theorem dw_1578 : decode code 1578 = .ok (.iaload, 1) := by decide +kernel
theorem dw_1579 : decode code 1579 = .ok (.aload_n 0, 1) := by decide +kernel
theorem dw_1580 : decode code 1580 = .ok (.iload_n 3, 1) := by decide +kernel
theorem dw_1581 : decode code 1581 = .ok (.iconst 2, 1) := by decide +kernel
theorem dw_1582 : decode code 1582 = .ok (.iadd, 1) := by decide +kernel
theorem dw_1583 : decode code 1583 = .ok (.iaload, 1) := by decide +kernel
theorem dw_1584 : decode code 1584 = .ok (.invokevirtual 179, 3) := by decide +kernel
theorem ml_Law_179 : Cond.methodLink R_law 179 y_M_write ∈ tb_g := (tb_at (i := 1435) (by decide +kernel))
theorem mt_M_write : mtV y_M_write prog_14_method_82_code 4 (some .int) 2 := ⟨(tb_at (i := 1438) (by decide +kernel)), (tb_at (i := 14) (by decide +kernel)), (tb_at (i := 1436) (by decide +kernel)), (tb_at (i := 1437) (by decide +kernel)), ⟨by decide +kernel, by decide +kernel, by decide +kernel⟩⟩
theorem dw_1587 : decode code 1587 = .ok (.if_icmp .eq 42, 3) := by decide +kernel
theorem dw_1592 : decode code 1592 = .ok (.aload_n 1, 1) := by decide +kernel
theorem dw_1593 : decode code 1593 = .ok (.aload_n 0, 1) := by decide +kernel
theorem dw_1594 : decode code 1594 = .ok (.iload_n 3, 1) := by decide +kernel
theorem dw_1595 : decode code 1595 = .ok (.iconst 1, 1) := by decide +kernel
theorem dw_1596 : decode code 1596 = .ok (.iadd, 1) := by decide +kernel
theorem dw_1597 : decode code 1597 = .ok (.iaload, 1) := by decide +kernel
theorem dw_1598 : decode code 1598 = .ok (.invokevirtual 180, 3) := by decide +kernel
theorem ml_Law_180 : Cond.methodLink R_law 180 y_O_count ∈ tb_g := (tb_at (i := 932) (by decide +kernel))
theorem dw_1601 : decode code 1601 = .ok (.aload_n 2, 1) := by decide +kernel
theorem dw_1602 : decode code 1602 = .ok (.aload_n 0, 1) := by decide +kernel
theorem dw_1603 : decode code 1603 = .ok (.iload_n 3, 1) := by decide +kernel
theorem dw_1604 : decode code 1604 = .ok (.iconst 1, 1) := by decide +kernel
theorem dw_1605 : decode code 1605 = .ok (.iadd, 1) := by decide +kernel
theorem dw_1606 : decode code 1606 = .ok (.iaload, 1) := by decide +kernel
theorem dw_1607 : decode code 1607 = .ok (.invokevirtual 183, 3) := by decide +kernel
theorem ml_Law_183 : Cond.methodLink R_law 183 y_M_count ∈ tb_g := (tb_at (i := 1439) (by decide +kernel))
theorem dw_1610 : decode code 1610 = .ok (.if_icmp .eq 19, 3) := by decide +kernel
theorem dw_1615 : decode code 1615 = .ok (.aload_n 1, 1) := by decide +kernel
theorem dw_1616 : decode code 1616 = .ok (.invokevirtual 184, 3) := by decide +kernel
theorem ml_Law_184 : Cond.methodLink R_law 184 y_O_digest ∈ tb_g := (tb_at (i := 944) (by decide +kernel))
theorem mt_O_digest : mtV y_O_digest prog_1_method_42_code 5 (some .long) 0 := ⟨(tb_at (i := 947) (by decide +kernel)), (tb_at (i := 1) (by decide +kernel)), (tb_at (i := 945) (by decide +kernel)), (tb_at (i := 946) (by decide +kernel)), ⟨by decide +kernel, by decide +kernel, by decide +kernel⟩⟩
theorem dw_1619 : decode code 1619 = .ok (.aload_n 2, 1) := by decide +kernel
theorem dw_1620 : decode code 1620 = .ok (.invokevirtual 188, 3) := by decide +kernel
theorem ml_Law_188 : Cond.methodLink R_law 188 y_M_digest ∈ tb_g := (tb_at (i := 1443) (by decide +kernel))
theorem mt_M_digest : mtV y_M_digest prog_14_method_84_code 5 (some .long) 0 := ⟨(tb_at (i := 1446) (by decide +kernel)), (tb_at (i := 14) (by decide +kernel)), (tb_at (i := 1444) (by decide +kernel)), (tb_at (i := 1445) (by decide +kernel)), ⟨by decide +kernel, by decide +kernel, by decide +kernel⟩⟩
theorem dw_1623 : decode code 1623 = .ok (.lcmp, 1) := by decide +kernel
theorem dw_1624 : decode code 1624 = .ok (.ifCond .eq 5, 3) := by decide +kernel
theorem dw_18 : decode code 18 = .ok (.iload_n 3, 1) := by decide +kernel
theorem dw_19 : decode code 19 = .ok (.aload_n 0, 1) := by decide +kernel
theorem dw_20 : decode code 20 = .ok (.arraylength, 1) := by decide +kernel
theorem dw_21 : decode code 21 = .ok (.bipush 8, 2) := by decide +kernel
theorem dw_23 : decode code 23 = .ok (.isub, 1) := by decide +kernel
theorem dw_24 : decode code 24 = .ok (.if_icmp .gt 1611, 3) := by decide +kernel
theorem dw_27 : decode code 27 = .ok (.aload_n 0, 1) := by decide +kernel
theorem dw_28 : decode code 28 = .ok (.iload_n 3, 1) := by decide +kernel
theorem dw_29 : decode code 29 = .ok (.iaload, 1) := by decide +kernel
theorem dw_30 : decode code 30 = .ok (.bipush 63, 2) := by decide +kernel
theorem dw_32 : decode code 32 = .ok (.iand, 1) := by decide +kernel
theorem dw_1629 : decode code 1629 = .ok (.iinc 3 8, 3) := by decide +kernel
theorem dw_1632 : decode code 1632 = .ok (.goto (-1614), 3) := by decide +kernel
theorem dw_33 : decode code 33 = .ok (.tableswitch 1596 0 40 #[179, 202, 289, 312, 345, 378, 401, 444, 467, 480, 493, 526, 559, 602, 645, 678, 747, 791, 844, 867, 880, 923, 956, 979, 1002, 1025, 1058, 1117, 1140, 1163, 1222, 1265, 1288, 1301, 1344, 1367, 1420, 1463, 1526, 1559, 1582], 179) := by decide +kernel
theorem ml_Law_9 : Cond.methodLink R_law 9 y_O_init ∈ tb_g := (tb_at (i := 20) (by decide +kernel))
theorem mk_O_init : Cond.code y_O_init prog_1_method_1_code 1 none ∈ tb_g ∧ Cond.initialized y_O_init.cls ∈ tb_g ∧ Cond.instanceMethod y_O_init ∈ tb_g ∧ y_O_init.name = "<init>" ∧ (y_O_init.cls ≠ "java/lang/invoke/MethodHandle" ∧ y_O_init.cls ≠ "java/lang/invoke/VarHandle" ∧ (parseMethodDescriptor y_O_init.desc).map (fun d => d.parameters.length) = some 0) := ⟨(tb_at (i := 22) (by decide +kernel)), (tb_at (i := 1) (by decide +kernel)), (tb_at (i := 21) (by decide +kernel)), rfl, by decide +kernel, by decide +kernel, by decide +kernel⟩
theorem ml_Law_12 : Cond.methodLink R_law 12 y_M_init ∈ tb_g := (tb_at (i := 960) (by decide +kernel))
theorem mk_M_init : Cond.code y_M_init prog_14_method_1_code 3 none ∈ tb_g ∧ Cond.initialized y_M_init.cls ∈ tb_g ∧ Cond.instanceMethod y_M_init ∈ tb_g ∧ y_M_init.name = "<init>" ∧ (y_M_init.cls ≠ "java/lang/invoke/MethodHandle" ∧ y_M_init.cls ≠ "java/lang/invoke/VarHandle" ∧ (parseMethodDescriptor y_M_init.desc).map (fun d => d.parameters.length) = some 0) := ⟨(tb_at (i := 962) (by decide +kernel)), (tb_at (i := 14) (by decide +kernel)), (tb_at (i := 961) (by decide +kernel)), rfl, by decide +kernel, by decide +kernel, by decide +kernel⟩
theorem dw_0 : decode code 0 = .ok (.new 7, 3) := by decide +kernel
theorem dw_3 : decode code 3 = .ok (.dup, 1) := by decide +kernel
theorem dw_4 : decode code 4 = .ok (.invokespecial 9, 3) := by decide +kernel
theorem dw_7 : decode code 7 = .ok (.astore_n 1, 1) := by decide +kernel
theorem dw_8 : decode code 8 = .ok (.new 10, 3) := by decide +kernel
theorem dw_11 : decode code 11 = .ok (.dup, 1) := by decide +kernel
theorem dw_12 : decode code 12 = .ok (.invokespecial 12, 3) := by decide +kernel
theorem dw_15 : decode code 15 = .ok (.astore_n 2, 1) := by decide +kernel
theorem dw_16 : decode code 16 = .ok (.iconst 0, 1) := by decide +kernel
theorem dw_17 : decode code 17 = .ok (.istore_n 3, 1) := by decide +kernel
theorem dw_1635 : decode code 1635 = .ok (.iconst 1, 1) := by decide +kernel
theorem dw_1636 : decode code 1636 = .ok (.ireturn, 1) := by decide +kernel
