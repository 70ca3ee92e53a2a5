/-! PART e1 (by gen_law.py): the law's cases -/
abbrev lwL (i : Nat) : aw_L := [some (.ref 1005), some (.ref 0), some (.ref 69), some (.ref 115), some (.int (nI i)), none, none]
def xa (X : aw_X) (i k : Nat) : Int32 := aw_xs X (nI i + nI k).toNatClampNeg
theorem law_vp {X : aw_X} {i : Nat} (k : Nat) (hk : k < 6) (hi : i + 6 ≤ aw_xl X) (hL : aw_xl X ≤ 3072) : vp_in (nI i + nI k) (aw_xl X) := by
  rw [nI_add]; exact aw_in_nI (by omega) (by omega)
theorem s_Law_law_3 : aw_VS y_Law_law 3 [o_dup] 4 := .cons (v_dup d_Law_law_3) .nil
theorem s_Law_law_7 : aw_VS y_Law_law 7 [o_ast 1] 8 := .cons (v_astore_n d_Law_law_7) .nil
theorem s_Law_law_11 : aw_VS y_Law_law 11 [o_dup] 12 := .cons (v_dup d_Law_law_11) .nil
theorem s_Law_law_15 : aw_VS y_Law_law 15 [o_ast 2, o_c (.int (1 : Int32))] 17 := .cons (v_astore_n d_Law_law_15) (.cons (v_iconst (v := (1 : Int32)) d_Law_law_16 (by decide +kernel)) .nil)
theorem s_Law_law_19 : aw_VS y_Law_law 19 [o_ast 3, o_c (.int (0 : Int32)), o_ist 4] 23 := .cons (v_astore_n d_Law_law_19) (.cons (v_iconst (v := (0 : Int32)) d_Law_law_20 (by decide +kernel)) (.cons (v_istore d_Law_law_21) .nil))
theorem s_Law_law_23 : aw_VS y_Law_law 23 [o_ild 4, o_ald 0] 26 := .cons (v_iload (i := 4) d_Law_law_23) (.cons (v_aload_n (i := 0) d_Law_law_25 rfl) .nil)
theorem s_Law_law_27 : aw_VS y_Law_law 27 [o_c (.int (6 : Int32)), o_i2 (fun x z => x - z)] 30 := .cons (v_bipush (v := (6 : Int32)) d_Law_law_27 (by decide +kernel)) (.cons (v_isub d_Law_law_29) .nil)
theorem s_Law_law_33 : aw_VS y_Law_law 33 [o_ald 0, o_ild 4] 36 := .cons (v_aload_n (i := 0) d_Law_law_33 rfl) (.cons (v_iload (i := 4) d_Law_law_34) .nil)
theorem s_Law_law_37 : aw_VS y_Law_law 37 [o_c (.int (63 : Int32)), o_i2 (fun x z => x &&& z)] 40 := .cons (v_bipush (v := (63 : Int32)) d_Law_law_37 (by decide +kernel)) (.cons (v_iand d_Law_law_39) .nil)
theorem s_Law_law_188 : aw_VS y_Law_law 188 [o_ald 1, o_ald 0, o_ild 4, o_c (.int (1 : Int32)), o_i2 (fun x z => x + z)] 194 := .cons (v_aload_n (i := 1) d_Law_law_188 rfl) (.cons (v_aload_n (i := 0) d_Law_law_189 rfl) (.cons (v_iload (i := 4) d_Law_law_190) (.cons (v_iconst (v := (1 : Int32)) d_Law_law_192 (by decide +kernel)) (.cons (v_iadd d_Law_law_193) .nil))))
theorem s_Law_law_195 : aw_VS y_Law_law 195 [o_ald 0, o_ild 4, o_c (.int (2 : Int32)), o_i2 (fun x z => x + z)] 200 := .cons (v_aload_n (i := 0) d_Law_law_195 rfl) (.cons (v_iload (i := 4) d_Law_law_196) (.cons (v_iconst (v := (2 : Int32)) d_Law_law_198 (by decide +kernel)) (.cons (v_iadd d_Law_law_199) .nil)))
theorem s_Law_law_201 : aw_VS y_Law_law 201 [o_ald 0, o_ild 4, o_c (.int (3 : Int32)), o_i2 (fun x z => x + z)] 206 := .cons (v_aload_n (i := 0) d_Law_law_201 rfl) (.cons (v_iload (i := 4) d_Law_law_202) (.cons (v_iconst (v := (3 : Int32)) d_Law_law_204 (by decide +kernel)) (.cons (v_iadd d_Law_law_205) .nil)))
theorem s_Law_law_207 : aw_VS y_Law_law 207 [o_ald 0, o_ild 4, o_c (.int (4 : Int32)), o_i2 (fun x z => x + z)] 212 := .cons (v_aload_n (i := 0) d_Law_law_207 rfl) (.cons (v_iload (i := 4) d_Law_law_208) (.cons (v_iconst (v := (4 : Int32)) d_Law_law_210 (by decide +kernel)) (.cons (v_iadd d_Law_law_211) .nil)))
theorem s_Law_law_213 : aw_VS y_Law_law 213 [o_ald 0, o_ild 4, o_c (.int (5 : Int32)), o_i2 (fun x z => x + z)] 218 := .cons (v_aload_n (i := 0) d_Law_law_213 rfl) (.cons (v_iload (i := 4) d_Law_law_214) (.cons (v_iconst (v := (5 : Int32)) d_Law_law_216 (by decide +kernel)) (.cons (v_iadd d_Law_law_217) .nil)))
theorem s_Law_law_222 : aw_VS y_Law_law 222 [o_ald 2, o_ald 0, o_ild 4, o_c (.int (1 : Int32)), o_i2 (fun x z => x + z)] 228 := .cons (v_aload_n (i := 2) d_Law_law_222 rfl) (.cons (v_aload_n (i := 0) d_Law_law_223 rfl) (.cons (v_iload (i := 4) d_Law_law_224) (.cons (v_iconst (v := (1 : Int32)) d_Law_law_226 (by decide +kernel)) (.cons (v_iadd d_Law_law_227) .nil))))
theorem s_Law_law_229 : aw_VS y_Law_law 229 [o_ald 0, o_ild 4, o_c (.int (2 : Int32)), o_i2 (fun x z => x + z)] 234 := .cons (v_aload_n (i := 0) d_Law_law_229 rfl) (.cons (v_iload (i := 4) d_Law_law_230) (.cons (v_iconst (v := (2 : Int32)) d_Law_law_232 (by decide +kernel)) (.cons (v_iadd d_Law_law_233) .nil)))
theorem s_Law_law_235 : aw_VS y_Law_law 235 [o_ald 0, o_ild 4, o_c (.int (3 : Int32)), o_i2 (fun x z => x + z)] 240 := .cons (v_aload_n (i := 0) d_Law_law_235 rfl) (.cons (v_iload (i := 4) d_Law_law_236) (.cons (v_iconst (v := (3 : Int32)) d_Law_law_238 (by decide +kernel)) (.cons (v_iadd d_Law_law_239) .nil)))
theorem s_Law_law_241 : aw_VS y_Law_law 241 [o_ald 0, o_ild 4, o_c (.int (4 : Int32)), o_i2 (fun x z => x + z)] 246 := .cons (v_aload_n (i := 0) d_Law_law_241 rfl) (.cons (v_iload (i := 4) d_Law_law_242) (.cons (v_iconst (v := (4 : Int32)) d_Law_law_244 (by decide +kernel)) (.cons (v_iadd d_Law_law_245) .nil)))
theorem s_Law_law_247 : aw_VS y_Law_law 247 [o_ald 0, o_ild 4, o_c (.int (5 : Int32)), o_i2 (fun x z => x + z)] 252 := .cons (v_aload_n (i := 0) d_Law_law_247 rfl) (.cons (v_iload (i := 4) d_Law_law_248) (.cons (v_iconst (v := (5 : Int32)) d_Law_law_250 (by decide +kernel)) (.cons (v_iadd d_Law_law_251) .nil)))
theorem s_Law_law_259 : aw_VS y_Law_law 259 [o_c (.int (0 : Int32))] 260 := .cons (v_iconst (v := (0 : Int32)) d_Law_law_259 (by decide +kernel)) .nil
theorem s_Law_law_261 : aw_VS y_Law_law 261 [o_ald 1, o_ald 0, o_ild 4, o_c (.int (1 : Int32)), o_i2 (fun x z => x + z)] 267 := .cons (v_aload_n (i := 1) d_Law_law_261 rfl) (.cons (v_aload_n (i := 0) d_Law_law_262 rfl) (.cons (v_iload (i := 4) d_Law_law_263) (.cons (v_iconst (v := (1 : Int32)) d_Law_law_265 (by decide +kernel)) (.cons (v_iadd d_Law_law_266) .nil))))
theorem s_Law_law_271 : aw_VS y_Law_law 271 [o_ald 2, o_ald 0, o_ild 4, o_c (.int (1 : Int32)), o_i2 (fun x z => x + z)] 277 := .cons (v_aload_n (i := 2) d_Law_law_271 rfl) (.cons (v_aload_n (i := 0) d_Law_law_272 rfl) (.cons (v_iload (i := 4) d_Law_law_273) (.cons (v_iconst (v := (1 : Int32)) d_Law_law_275 (by decide +kernel)) (.cons (v_iadd d_Law_law_276) .nil))))
theorem s_Law_law_284 : aw_VS y_Law_law 284 [o_c (.int (0 : Int32))] 285 := .cons (v_iconst (v := (0 : Int32)) d_Law_law_284 (by decide +kernel)) .nil
theorem s_Law_law_286 : aw_VS y_Law_law 286 [o_ald 1, o_ald 0, o_ild 4, o_c (.int (1 : Int32)), o_i2 (fun x z => x + z)] 292 := .cons (v_aload_n (i := 1) d_Law_law_286 rfl) (.cons (v_aload_n (i := 0) d_Law_law_287 rfl) (.cons (v_iload (i := 4) d_Law_law_288) (.cons (v_iconst (v := (1 : Int32)) d_Law_law_290 (by decide +kernel)) (.cons (v_iadd d_Law_law_291) .nil))))
theorem s_Law_law_296 : aw_VS y_Law_law 296 [o_ald 2, o_ald 0, o_ild 4, o_c (.int (1 : Int32)), o_i2 (fun x z => x + z)] 302 := .cons (v_aload_n (i := 2) d_Law_law_296 rfl) (.cons (v_aload_n (i := 0) d_Law_law_297 rfl) (.cons (v_iload (i := 4) d_Law_law_298) (.cons (v_iconst (v := (1 : Int32)) d_Law_law_300 (by decide +kernel)) (.cons (v_iadd d_Law_law_301) .nil))))
theorem s_Law_law_309 : aw_VS y_Law_law 309 [o_c (.int (0 : Int32))] 310 := .cons (v_iconst (v := (0 : Int32)) d_Law_law_309 (by decide +kernel)) .nil
theorem s_Law_law_311 : aw_VS y_Law_law 311 [o_ald 1] 312 := .cons (v_aload_n (i := 1) d_Law_law_311 rfl) .nil
theorem s_Law_law_315 : aw_VS y_Law_law 315 [o_ald 2] 316 := .cons (v_aload_n (i := 2) d_Law_law_315 rfl) .nil
theorem s_Law_law_322 : aw_VS y_Law_law 322 [o_c (.int (0 : Int32))] 323 := .cons (v_iconst (v := (0 : Int32)) d_Law_law_322 (by decide +kernel)) .nil
theorem s_Law_law_324 : aw_VS y_Law_law 324 [o_ald 1, o_ald 0, o_ild 4, o_c (.int (1 : Int32)), o_i2 (fun x z => x + z)] 330 := .cons (v_aload_n (i := 1) d_Law_law_324 rfl) (.cons (v_aload_n (i := 0) d_Law_law_325 rfl) (.cons (v_iload (i := 4) d_Law_law_326) (.cons (v_iconst (v := (1 : Int32)) d_Law_law_328 (by decide +kernel)) (.cons (v_iadd d_Law_law_329) .nil))))
theorem s_Law_law_331 : aw_VS y_Law_law 331 [o_ald 0, o_ild 4, o_c (.int (2 : Int32)), o_i2 (fun x z => x + z)] 336 := .cons (v_aload_n (i := 0) d_Law_law_331 rfl) (.cons (v_iload (i := 4) d_Law_law_332) (.cons (v_iconst (v := (2 : Int32)) d_Law_law_334 (by decide +kernel)) (.cons (v_iadd d_Law_law_335) .nil)))
theorem s_Law_law_337 : aw_VS y_Law_law 337 [o_ald 0, o_ild 4, o_c (.int (3 : Int32)), o_i2 (fun x z => x + z)] 342 := .cons (v_aload_n (i := 0) d_Law_law_337 rfl) (.cons (v_iload (i := 4) d_Law_law_338) (.cons (v_iconst (v := (3 : Int32)) d_Law_law_340 (by decide +kernel)) (.cons (v_iadd d_Law_law_341) .nil)))
theorem s_Law_law_346 : aw_VS y_Law_law 346 [o_ald 2, o_ald 0, o_ild 4, o_c (.int (1 : Int32)), o_i2 (fun x z => x + z)] 352 := .cons (v_aload_n (i := 2) d_Law_law_346 rfl) (.cons (v_aload_n (i := 0) d_Law_law_347 rfl) (.cons (v_iload (i := 4) d_Law_law_348) (.cons (v_iconst (v := (1 : Int32)) d_Law_law_350 (by decide +kernel)) (.cons (v_iadd d_Law_law_351) .nil))))
theorem s_Law_law_353 : aw_VS y_Law_law 353 [o_ald 0, o_ild 4, o_c (.int (2 : Int32)), o_i2 (fun x z => x + z)] 358 := .cons (v_aload_n (i := 0) d_Law_law_353 rfl) (.cons (v_iload (i := 4) d_Law_law_354) (.cons (v_iconst (v := (2 : Int32)) d_Law_law_356 (by decide +kernel)) (.cons (v_iadd d_Law_law_357) .nil)))
theorem s_Law_law_359 : aw_VS y_Law_law 359 [o_ald 0, o_ild 4, o_c (.int (3 : Int32)), o_i2 (fun x z => x + z)] 364 := .cons (v_aload_n (i := 0) d_Law_law_359 rfl) (.cons (v_iload (i := 4) d_Law_law_360) (.cons (v_iconst (v := (3 : Int32)) d_Law_law_362 (by decide +kernel)) (.cons (v_iadd d_Law_law_363) .nil)))
theorem s_Law_law_371 : aw_VS y_Law_law 371 [o_c (.int (0 : Int32))] 372 := .cons (v_iconst (v := (0 : Int32)) d_Law_law_371 (by decide +kernel)) .nil
theorem s_Law_law_373 : aw_VS y_Law_law 373 [o_ald 1, o_ald 0, o_ild 4, o_c (.int (1 : Int32)), o_i2 (fun x z => x + z)] 379 := .cons (v_aload_n (i := 1) d_Law_law_373 rfl) (.cons (v_aload_n (i := 0) d_Law_law_374 rfl) (.cons (v_iload (i := 4) d_Law_law_375) (.cons (v_iconst (v := (1 : Int32)) d_Law_law_377 (by decide +kernel)) (.cons (v_iadd d_Law_law_378) .nil))))
theorem s_Law_law_380 : aw_VS y_Law_law 380 [o_ald 0, o_ild 4, o_c (.int (2 : Int32)), o_i2 (fun x z => x + z)] 385 := .cons (v_aload_n (i := 0) d_Law_law_380 rfl) (.cons (v_iload (i := 4) d_Law_law_381) (.cons (v_iconst (v := (2 : Int32)) d_Law_law_383 (by decide +kernel)) (.cons (v_iadd d_Law_law_384) .nil)))
theorem s_Law_law_389 : aw_VS y_Law_law 389 [o_ald 2, o_ald 0, o_ild 4, o_c (.int (1 : Int32)), o_i2 (fun x z => x + z)] 395 := .cons (v_aload_n (i := 2) d_Law_law_389 rfl) (.cons (v_aload_n (i := 0) d_Law_law_390 rfl) (.cons (v_iload (i := 4) d_Law_law_391) (.cons (v_iconst (v := (1 : Int32)) d_Law_law_393 (by decide +kernel)) (.cons (v_iadd d_Law_law_394) .nil))))
theorem s_Law_law_396 : aw_VS y_Law_law 396 [o_ald 0, o_ild 4, o_c (.int (2 : Int32)), o_i2 (fun x z => x + z)] 401 := .cons (v_aload_n (i := 0) d_Law_law_396 rfl) (.cons (v_iload (i := 4) d_Law_law_397) (.cons (v_iconst (v := (2 : Int32)) d_Law_law_399 (by decide +kernel)) (.cons (v_iadd d_Law_law_400) .nil)))
theorem s_Law_law_408 : aw_VS y_Law_law 408 [o_c (.int (0 : Int32))] 409 := .cons (v_iconst (v := (0 : Int32)) d_Law_law_408 (by decide +kernel)) .nil
theorem s_Law_law_410 : aw_VS y_Law_law 410 [o_ald 1, o_ald 0, o_ild 4, o_c (.int (1 : Int32)), o_i2 (fun x z => x + z)] 416 := .cons (v_aload_n (i := 1) d_Law_law_410 rfl) (.cons (v_aload_n (i := 0) d_Law_law_411 rfl) (.cons (v_iload (i := 4) d_Law_law_412) (.cons (v_iconst (v := (1 : Int32)) d_Law_law_414 (by decide +kernel)) (.cons (v_iadd d_Law_law_415) .nil))))
theorem s_Law_law_417 : aw_VS y_Law_law 417 [o_ald 0, o_ild 4, o_c (.int (2 : Int32)), o_i2 (fun x z => x + z)] 422 := .cons (v_aload_n (i := 0) d_Law_law_417 rfl) (.cons (v_iload (i := 4) d_Law_law_418) (.cons (v_iconst (v := (2 : Int32)) d_Law_law_420 (by decide +kernel)) (.cons (v_iadd d_Law_law_421) .nil)))
theorem s_Law_law_423 : aw_VS y_Law_law 423 [o_ald 3] 424 := .cons (v_aload_n (i := 3) d_Law_law_423 rfl) .nil
theorem s_Law_law_427 : aw_VS y_Law_law 427 [o_ist 5, o_ald 2, o_ald 0, o_ild 4, o_c (.int (1 : Int32)), o_i2 (fun x z => x + z)] 435 := .cons (v_istore d_Law_law_427) (.cons (v_aload_n (i := 2) d_Law_law_429 rfl) (.cons (v_aload_n (i := 0) d_Law_law_430 rfl) (.cons (v_iload (i := 4) d_Law_law_431) (.cons (v_iconst (v := (1 : Int32)) d_Law_law_433 (by decide +kernel)) (.cons (v_iadd d_Law_law_434) .nil)))))
theorem s_Law_law_436 : aw_VS y_Law_law 436 [o_ald 0, o_ild 4, o_c (.int (2 : Int32)), o_i2 (fun x z => x + z)] 441 := .cons (v_aload_n (i := 0) d_Law_law_436 rfl) (.cons (v_iload (i := 4) d_Law_law_437) (.cons (v_iconst (v := (2 : Int32)) d_Law_law_439 (by decide +kernel)) (.cons (v_iadd d_Law_law_440) .nil)))
theorem s_Law_law_445 : aw_VS y_Law_law 445 [o_ist 6, o_ald 2] 448 := .cons (v_istore d_Law_law_445) (.cons (v_aload_n (i := 2) d_Law_law_447 rfl) .nil)
theorem s_Law_law_451 : aw_VS y_Law_law 451 [o_ild 5] 453 := .cons (v_iload (i := 5) d_Law_law_451) .nil
theorem s_Law_law_456 : aw_VS y_Law_law 456 [o_c (.int (0 : Int32))] 457 := .cons (v_iconst (v := (0 : Int32)) d_Law_law_456 (by decide +kernel)) .nil
theorem s_Law_law_458 : aw_VS y_Law_law 458 [o_ild 5] 460 := .cons (v_iload (i := 5) d_Law_law_458) .nil
theorem s_Law_law_463 : aw_VS y_Law_law 463 [o_ald 3, o_c (.int (0 : Int32))] 465 := .cons (v_aload_n (i := 3) d_Law_law_463 rfl) (.cons (v_iconst (v := (0 : Int32)) d_Law_law_464 (by decide +kernel)) .nil)
theorem s_Law_law_466 : aw_VS y_Law_law 466 [o_ild 6, o_il (fun x => x.toInt64), o_lc] 470 := .cons (v_iload (i := 6) d_Law_law_466) (.cons (v_i2l d_Law_law_468) (.cons (v_lcmp d_Law_law_469) .nil))
theorem s_Law_law_473 : aw_VS y_Law_law 473 [o_c (.int (0 : Int32))] 474 := .cons (v_iconst (v := (0 : Int32)) d_Law_law_473 (by decide +kernel)) .nil
theorem s_Law_law_478 : aw_VS y_Law_law 478 [o_ald 1, o_ald 0, o_ild 4, o_c (.int (1 : Int32)), o_i2 (fun x z => x + z)] 484 := .cons (v_aload_n (i := 1) d_Law_law_478 rfl) (.cons (v_aload_n (i := 0) d_Law_law_479 rfl) (.cons (v_iload (i := 4) d_Law_law_480) (.cons (v_iconst (v := (1 : Int32)) d_Law_law_482 (by decide +kernel)) (.cons (v_iadd d_Law_law_483) .nil))))
theorem s_Law_law_485 : aw_VS y_Law_law 485 [o_ald 0, o_ild 4, o_c (.int (2 : Int32)), o_i2 (fun x z => x + z)] 490 := .cons (v_aload_n (i := 0) d_Law_law_485 rfl) (.cons (v_iload (i := 4) d_Law_law_486) (.cons (v_iconst (v := (2 : Int32)) d_Law_law_488 (by decide +kernel)) (.cons (v_iadd d_Law_law_489) .nil)))
theorem s_Law_law_494 : aw_VS y_Law_law 494 [o_ald 2, o_ald 0, o_ild 4, o_c (.int (1 : Int32)), o_i2 (fun x z => x + z)] 500 := .cons (v_aload_n (i := 2) d_Law_law_494 rfl) (.cons (v_aload_n (i := 0) d_Law_law_495 rfl) (.cons (v_iload (i := 4) d_Law_law_496) (.cons (v_iconst (v := (1 : Int32)) d_Law_law_498 (by decide +kernel)) (.cons (v_iadd d_Law_law_499) .nil))))
theorem s_Law_law_501 : aw_VS y_Law_law 501 [o_ald 0, o_ild 4, o_c (.int (2 : Int32)), o_i2 (fun x z => x + z)] 506 := .cons (v_aload_n (i := 0) d_Law_law_501 rfl) (.cons (v_iload (i := 4) d_Law_law_502) (.cons (v_iconst (v := (2 : Int32)) d_Law_law_504 (by decide +kernel)) (.cons (v_iadd d_Law_law_505) .nil)))
theorem s_Law_law_513 : aw_VS y_Law_law 513 [o_c (.int (0 : Int32))] 514 := .cons (v_iconst (v := (0 : Int32)) d_Law_law_513 (by decide +kernel)) .nil
theorem s_Law_law_515 : aw_VS y_Law_law 515 [o_ald 1, o_ald 0, o_ild 4, o_c (.int (1 : Int32)), o_i2 (fun x z => x + z)] 521 := .cons (v_aload_n (i := 1) d_Law_law_515 rfl) (.cons (v_aload_n (i := 0) d_Law_law_516 rfl) (.cons (v_iload (i := 4) d_Law_law_517) (.cons (v_iconst (v := (1 : Int32)) d_Law_law_519 (by decide +kernel)) (.cons (v_iadd d_Law_law_520) .nil))))
theorem s_Law_law_525 : aw_VS y_Law_law 525 [o_ald 2, o_ald 0, o_ild 4, o_c (.int (1 : Int32)), o_i2 (fun x z => x + z)] 531 := .cons (v_aload_n (i := 2) d_Law_law_525 rfl) (.cons (v_aload_n (i := 0) d_Law_law_526 rfl) (.cons (v_iload (i := 4) d_Law_law_527) (.cons (v_iconst (v := (1 : Int32)) d_Law_law_529 (by decide +kernel)) (.cons (v_iadd d_Law_law_530) .nil))))
theorem s_Law_law_538 : aw_VS y_Law_law 538 [o_c (.int (0 : Int32))] 539 := .cons (v_iconst (v := (0 : Int32)) d_Law_law_538 (by decide +kernel)) .nil
theorem s_Law_law_540 : aw_VS y_Law_law 540 [o_ald 1, o_ald 0, o_ild 4, o_c (.int (1 : Int32)), o_i2 (fun x z => x + z)] 546 := .cons (v_aload_n (i := 1) d_Law_law_540 rfl) (.cons (v_aload_n (i := 0) d_Law_law_541 rfl) (.cons (v_iload (i := 4) d_Law_law_542) (.cons (v_iconst (v := (1 : Int32)) d_Law_law_544 (by decide +kernel)) (.cons (v_iadd d_Law_law_545) .nil))))
theorem s_Law_law_547 : aw_VS y_Law_law 547 [o_ald 0, o_ild 4, o_c (.int (2 : Int32)), o_i2 (fun x z => x + z)] 552 := .cons (v_aload_n (i := 0) d_Law_law_547 rfl) (.cons (v_iload (i := 4) d_Law_law_548) (.cons (v_iconst (v := (2 : Int32)) d_Law_law_550 (by decide +kernel)) (.cons (v_iadd d_Law_law_551) .nil)))
theorem s_Law_law_556 : aw_VS y_Law_law 556 [o_ald 2, o_ald 0, o_ild 4, o_c (.int (1 : Int32)), o_i2 (fun x z => x + z)] 562 := .cons (v_aload_n (i := 2) d_Law_law_556 rfl) (.cons (v_aload_n (i := 0) d_Law_law_557 rfl) (.cons (v_iload (i := 4) d_Law_law_558) (.cons (v_iconst (v := (1 : Int32)) d_Law_law_560 (by decide +kernel)) (.cons (v_iadd d_Law_law_561) .nil))))
theorem s_Law_law_563 : aw_VS y_Law_law 563 [o_ald 0, o_ild 4, o_c (.int (2 : Int32)), o_i2 (fun x z => x + z)] 568 := .cons (v_aload_n (i := 0) d_Law_law_563 rfl) (.cons (v_iload (i := 4) d_Law_law_564) (.cons (v_iconst (v := (2 : Int32)) d_Law_law_566 (by decide +kernel)) (.cons (v_iadd d_Law_law_567) .nil)))
theorem s_Law_law_575 : aw_VS y_Law_law 575 [o_c (.int (0 : Int32))] 576 := .cons (v_iconst (v := (0 : Int32)) d_Law_law_575 (by decide +kernel)) .nil
theorem s_Law_law_577 : aw_VS y_Law_law 577 [o_ald 1, o_ald 0, o_ild 4, o_c (.int (1 : Int32)), o_i2 (fun x z => x + z)] 583 := .cons (v_aload_n (i := 1) d_Law_law_577 rfl) (.cons (v_aload_n (i := 0) d_Law_law_578 rfl) (.cons (v_iload (i := 4) d_Law_law_579) (.cons (v_iconst (v := (1 : Int32)) d_Law_law_581 (by decide +kernel)) (.cons (v_iadd d_Law_law_582) .nil))))
theorem s_Law_law_584 : aw_VS y_Law_law 584 [o_ald 0, o_ild 4, o_c (.int (2 : Int32)), o_i2 (fun x z => x + z)] 589 := .cons (v_aload_n (i := 0) d_Law_law_584 rfl) (.cons (v_iload (i := 4) d_Law_law_585) (.cons (v_iconst (v := (2 : Int32)) d_Law_law_587 (by decide +kernel)) (.cons (v_iadd d_Law_law_588) .nil)))
theorem s_Law_law_590 : aw_VS y_Law_law 590 [o_ald 0, o_ild 4, o_c (.int (3 : Int32)), o_i2 (fun x z => x + z)] 595 := .cons (v_aload_n (i := 0) d_Law_law_590 rfl) (.cons (v_iload (i := 4) d_Law_law_591) (.cons (v_iconst (v := (3 : Int32)) d_Law_law_593 (by decide +kernel)) (.cons (v_iadd d_Law_law_594) .nil)))
theorem s_Law_law_599 : aw_VS y_Law_law 599 [o_ald 2, o_ald 0, o_ild 4, o_c (.int (1 : Int32)), o_i2 (fun x z => x + z)] 605 := .cons (v_aload_n (i := 2) d_Law_law_599 rfl) (.cons (v_aload_n (i := 0) d_Law_law_600 rfl) (.cons (v_iload (i := 4) d_Law_law_601) (.cons (v_iconst (v := (1 : Int32)) d_Law_law_603 (by decide +kernel)) (.cons (v_iadd d_Law_law_604) .nil))))
theorem s_Law_law_606 : aw_VS y_Law_law 606 [o_ald 0, o_ild 4, o_c (.int (2 : Int32)), o_i2 (fun x z => x + z)] 611 := .cons (v_aload_n (i := 0) d_Law_law_606 rfl) (.cons (v_iload (i := 4) d_Law_law_607) (.cons (v_iconst (v := (2 : Int32)) d_Law_law_609 (by decide +kernel)) (.cons (v_iadd d_Law_law_610) .nil)))
theorem s_Law_law_612 : aw_VS y_Law_law 612 [o_ald 0, o_ild 4, o_c (.int (3 : Int32)), o_i2 (fun x z => x + z)] 617 := .cons (v_aload_n (i := 0) d_Law_law_612 rfl) (.cons (v_iload (i := 4) d_Law_law_613) (.cons (v_iconst (v := (3 : Int32)) d_Law_law_615 (by decide +kernel)) (.cons (v_iadd d_Law_law_616) .nil)))
theorem s_Law_law_624 : aw_VS y_Law_law 624 [o_c (.int (0 : Int32))] 625 := .cons (v_iconst (v := (0 : Int32)) d_Law_law_624 (by decide +kernel)) .nil
theorem s_Law_law_626 : aw_VS y_Law_law 626 [o_ald 1, o_ald 0, o_ild 4, o_c (.int (1 : Int32)), o_i2 (fun x z => x + z)] 632 := .cons (v_aload_n (i := 1) d_Law_law_626 rfl) (.cons (v_aload_n (i := 0) d_Law_law_627 rfl) (.cons (v_iload (i := 4) d_Law_law_628) (.cons (v_iconst (v := (1 : Int32)) d_Law_law_630 (by decide +kernel)) (.cons (v_iadd d_Law_law_631) .nil))))
theorem s_Law_law_633 : aw_VS y_Law_law 633 [o_ald 0, o_ild 4, o_c (.int (2 : Int32)), o_i2 (fun x z => x + z)] 638 := .cons (v_aload_n (i := 0) d_Law_law_633 rfl) (.cons (v_iload (i := 4) d_Law_law_634) (.cons (v_iconst (v := (2 : Int32)) d_Law_law_636 (by decide +kernel)) (.cons (v_iadd d_Law_law_637) .nil)))
theorem s_Law_law_639 : aw_VS y_Law_law 639 [o_ald 0, o_ild 4, o_c (.int (3 : Int32)), o_i2 (fun x z => x + z)] 644 := .cons (v_aload_n (i := 0) d_Law_law_639 rfl) (.cons (v_iload (i := 4) d_Law_law_640) (.cons (v_iconst (v := (3 : Int32)) d_Law_law_642 (by decide +kernel)) (.cons (v_iadd d_Law_law_643) .nil)))
theorem s_Law_law_645 : aw_VS y_Law_law 645 [o_ald 0, o_ild 4, o_c (.int (4 : Int32)), o_i2 (fun x z => x + z)] 650 := .cons (v_aload_n (i := 0) d_Law_law_645 rfl) (.cons (v_iload (i := 4) d_Law_law_646) (.cons (v_iconst (v := (4 : Int32)) d_Law_law_648 (by decide +kernel)) (.cons (v_iadd d_Law_law_649) .nil)))
theorem s_Law_law_654 : aw_VS y_Law_law 654 [o_ald 2, o_ald 0, o_ild 4, o_c (.int (1 : Int32)), o_i2 (fun x z => x + z)] 660 := .cons (v_aload_n (i := 2) d_Law_law_654 rfl) (.cons (v_aload_n (i := 0) d_Law_law_655 rfl) (.cons (v_iload (i := 4) d_Law_law_656) (.cons (v_iconst (v := (1 : Int32)) d_Law_law_658 (by decide +kernel)) (.cons (v_iadd d_Law_law_659) .nil))))
theorem s_Law_law_661 : aw_VS y_Law_law 661 [o_ald 0, o_ild 4, o_c (.int (2 : Int32)), o_i2 (fun x z => x + z)] 666 := .cons (v_aload_n (i := 0) d_Law_law_661 rfl) (.cons (v_iload (i := 4) d_Law_law_662) (.cons (v_iconst (v := (2 : Int32)) d_Law_law_664 (by decide +kernel)) (.cons (v_iadd d_Law_law_665) .nil)))
theorem s_Law_law_667 : aw_VS y_Law_law 667 [o_ald 0, o_ild 4, o_c (.int (3 : Int32)), o_i2 (fun x z => x + z)] 672 := .cons (v_aload_n (i := 0) d_Law_law_667 rfl) (.cons (v_iload (i := 4) d_Law_law_668) (.cons (v_iconst (v := (3 : Int32)) d_Law_law_670 (by decide +kernel)) (.cons (v_iadd d_Law_law_671) .nil)))
theorem s_Law_law_673 : aw_VS y_Law_law 673 [o_ald 0, o_ild 4, o_c (.int (4 : Int32)), o_i2 (fun x z => x + z)] 678 := .cons (v_aload_n (i := 0) d_Law_law_673 rfl) (.cons (v_iload (i := 4) d_Law_law_674) (.cons (v_iconst (v := (4 : Int32)) d_Law_law_676 (by decide +kernel)) (.cons (v_iadd d_Law_law_677) .nil)))
theorem s_Law_law_685 : aw_VS y_Law_law 685 [o_c (.int (0 : Int32))] 686 := .cons (v_iconst (v := (0 : Int32)) d_Law_law_685 (by decide +kernel)) .nil
theorem s_Law_law_687 : aw_VS y_Law_law 687 [o_ald 1] 688 := .cons (v_aload_n (i := 1) d_Law_law_687 rfl) .nil
theorem s_Law_law_691 : aw_VS y_Law_law 691 [o_ald 2] 692 := .cons (v_aload_n (i := 2) d_Law_law_691 rfl) .nil
theorem s_Law_law_698 : aw_VS y_Law_law 698 [o_c (.int (0 : Int32))] 699 := .cons (v_iconst (v := (0 : Int32)) d_Law_law_698 (by decide +kernel)) .nil
theorem s_Law_law_700 : aw_VS y_Law_law 700 [o_ald 1, o_ald 0, o_ild 4, o_c (.int (1 : Int32)), o_i2 (fun x z => x + z)] 706 := .cons (v_aload_n (i := 1) d_Law_law_700 rfl) (.cons (v_aload_n (i := 0) d_Law_law_701 rfl) (.cons (v_iload (i := 4) d_Law_law_702) (.cons (v_iconst (v := (1 : Int32)) d_Law_law_704 (by decide +kernel)) (.cons (v_iadd d_Law_law_705) .nil))))
theorem s_Law_law_710 : aw_VS y_Law_law 710 [o_ald 2, o_ald 0, o_ild 4, o_c (.int (1 : Int32)), o_i2 (fun x z => x + z)] 716 := .cons (v_aload_n (i := 2) d_Law_law_710 rfl) (.cons (v_aload_n (i := 0) d_Law_law_711 rfl) (.cons (v_iload (i := 4) d_Law_law_712) (.cons (v_iconst (v := (1 : Int32)) d_Law_law_714 (by decide +kernel)) (.cons (v_iadd d_Law_law_715) .nil))))
theorem s_Law_law_723 : aw_VS y_Law_law 723 [o_c (.int (0 : Int32))] 724 := .cons (v_iconst (v := (0 : Int32)) d_Law_law_723 (by decide +kernel)) .nil
theorem s_Law_law_725 : aw_VS y_Law_law 725 [o_ald 1, o_ald 0, o_ild 4, o_c (.int (1 : Int32)), o_i2 (fun x z => x + z)] 731 := .cons (v_aload_n (i := 1) d_Law_law_725 rfl) (.cons (v_aload_n (i := 0) d_Law_law_726 rfl) (.cons (v_iload (i := 4) d_Law_law_727) (.cons (v_iconst (v := (1 : Int32)) d_Law_law_729 (by decide +kernel)) (.cons (v_iadd d_Law_law_730) .nil))))
theorem s_Law_law_732 : aw_VS y_Law_law 732 [o_ald 0, o_ild 4, o_c (.int (2 : Int32)), o_i2 (fun x z => x + z)] 737 := .cons (v_aload_n (i := 0) d_Law_law_732 rfl) (.cons (v_iload (i := 4) d_Law_law_733) (.cons (v_iconst (v := (2 : Int32)) d_Law_law_735 (by decide +kernel)) (.cons (v_iadd d_Law_law_736) .nil)))
theorem s_Law_law_738 : aw_VS y_Law_law 738 [o_ald 0, o_ild 4, o_c (.int (3 : Int32)), o_i2 (fun x z => x + z)] 743 := .cons (v_aload_n (i := 0) d_Law_law_738 rfl) (.cons (v_iload (i := 4) d_Law_law_739) (.cons (v_iconst (v := (3 : Int32)) d_Law_law_741 (by decide +kernel)) (.cons (v_iadd d_Law_law_742) .nil)))
theorem s_Law_law_747 : aw_VS y_Law_law 747 [o_ald 2, o_ald 0, o_ild 4, o_c (.int (1 : Int32)), o_i2 (fun x z => x + z)] 753 := .cons (v_aload_n (i := 2) d_Law_law_747 rfl) (.cons (v_aload_n (i := 0) d_Law_law_748 rfl) (.cons (v_iload (i := 4) d_Law_law_749) (.cons (v_iconst (v := (1 : Int32)) d_Law_law_751 (by decide +kernel)) (.cons (v_iadd d_Law_law_752) .nil))))
theorem s_Law_law_754 : aw_VS y_Law_law 754 [o_ald 0, o_ild 4, o_c (.int (2 : Int32)), o_i2 (fun x z => x + z)] 759 := .cons (v_aload_n (i := 0) d_Law_law_754 rfl) (.cons (v_iload (i := 4) d_Law_law_755) (.cons (v_iconst (v := (2 : Int32)) d_Law_law_757 (by decide +kernel)) (.cons (v_iadd d_Law_law_758) .nil)))
theorem s_Law_law_760 : aw_VS y_Law_law 760 [o_ald 0, o_ild 4, o_c (.int (3 : Int32)), o_i2 (fun x z => x + z)] 765 := .cons (v_aload_n (i := 0) d_Law_law_760 rfl) (.cons (v_iload (i := 4) d_Law_law_761) (.cons (v_iconst (v := (3 : Int32)) d_Law_law_763 (by decide +kernel)) (.cons (v_iadd d_Law_law_764) .nil)))
theorem s_Law_law_772 : aw_VS y_Law_law 772 [o_c (.int (0 : Int32))] 773 := .cons (v_iconst (v := (0 : Int32)) d_Law_law_772 (by decide +kernel)) .nil
theorem s_Law_law_774 : aw_VS y_Law_law 774 [o_ald 1, o_ald 0, o_ild 4, o_c (.int (1 : Int32)), o_i2 (fun x z => x + z)] 780 := .cons (v_aload_n (i := 1) d_Law_law_774 rfl) (.cons (v_aload_n (i := 0) d_Law_law_775 rfl) (.cons (v_iload (i := 4) d_Law_law_776) (.cons (v_iconst (v := (1 : Int32)) d_Law_law_778 (by decide +kernel)) (.cons (v_iadd d_Law_law_779) .nil))))
theorem s_Law_law_781 : aw_VS y_Law_law 781 [o_ald 0, o_ild 4, o_c (.int (2 : Int32)), o_i2 (fun x z => x + z)] 786 := .cons (v_aload_n (i := 0) d_Law_law_781 rfl) (.cons (v_iload (i := 4) d_Law_law_782) (.cons (v_iconst (v := (2 : Int32)) d_Law_law_784 (by decide +kernel)) (.cons (v_iadd d_Law_law_785) .nil)))
theorem s_Law_law_790 : aw_VS y_Law_law 790 [o_ald 2, o_ald 0, o_ild 4, o_c (.int (1 : Int32)), o_i2 (fun x z => x + z)] 796 := .cons (v_aload_n (i := 2) d_Law_law_790 rfl) (.cons (v_aload_n (i := 0) d_Law_law_791 rfl) (.cons (v_iload (i := 4) d_Law_law_792) (.cons (v_iconst (v := (1 : Int32)) d_Law_law_794 (by decide +kernel)) (.cons (v_iadd d_Law_law_795) .nil))))
theorem s_Law_law_797 : aw_VS y_Law_law 797 [o_ald 0, o_ild 4, o_c (.int (2 : Int32)), o_i2 (fun x z => x + z)] 802 := .cons (v_aload_n (i := 0) d_Law_law_797 rfl) (.cons (v_iload (i := 4) d_Law_law_798) (.cons (v_iconst (v := (2 : Int32)) d_Law_law_800 (by decide +kernel)) (.cons (v_iadd d_Law_law_801) .nil)))
theorem s_Law_law_809 : aw_VS y_Law_law 809 [o_c (.int (0 : Int32))] 810 := .cons (v_iconst (v := (0 : Int32)) d_Law_law_809 (by decide +kernel)) .nil
theorem s_Law_law_811 : aw_VS y_Law_law 811 [o_ald 1] 812 := .cons (v_aload_n (i := 1) d_Law_law_811 rfl) .nil
theorem s_Law_law_815 : aw_VS y_Law_law 815 [o_ald 2] 816 := .cons (v_aload_n (i := 2) d_Law_law_815 rfl) .nil
theorem s_Law_law_822 : aw_VS y_Law_law 822 [o_c (.int (0 : Int32))] 823 := .cons (v_iconst (v := (0 : Int32)) d_Law_law_822 (by decide +kernel)) .nil
theorem s_Law_law_824 : aw_VS y_Law_law 824 [o_ald 1, o_ald 0, o_ild 4, o_c (.int (1 : Int32)), o_i2 (fun x z => x + z)] 830 := .cons (v_aload_n (i := 1) d_Law_law_824 rfl) (.cons (v_aload_n (i := 0) d_Law_law_825 rfl) (.cons (v_iload (i := 4) d_Law_law_826) (.cons (v_iconst (v := (1 : Int32)) d_Law_law_828 (by decide +kernel)) (.cons (v_iadd d_Law_law_829) .nil))))
theorem s_Law_law_831 : aw_VS y_Law_law 831 [o_ald 0, o_ild 4, o_c (.int (2 : Int32)), o_i2 (fun x z => x + z)] 836 := .cons (v_aload_n (i := 0) d_Law_law_831 rfl) (.cons (v_iload (i := 4) d_Law_law_832) (.cons (v_iconst (v := (2 : Int32)) d_Law_law_834 (by decide +kernel)) (.cons (v_iadd d_Law_law_835) .nil)))
theorem s_Law_law_840 : aw_VS y_Law_law 840 [o_ald 2, o_ald 0, o_ild 4, o_c (.int (1 : Int32)), o_i2 (fun x z => x + z)] 846 := .cons (v_aload_n (i := 2) d_Law_law_840 rfl) (.cons (v_aload_n (i := 0) d_Law_law_841 rfl) (.cons (v_iload (i := 4) d_Law_law_842) (.cons (v_iconst (v := (1 : Int32)) d_Law_law_844 (by decide +kernel)) (.cons (v_iadd d_Law_law_845) .nil))))
theorem s_Law_law_847 : aw_VS y_Law_law 847 [o_ald 0, o_ild 4, o_c (.int (2 : Int32)), o_i2 (fun x z => x + z)] 852 := .cons (v_aload_n (i := 0) d_Law_law_847 rfl) (.cons (v_iload (i := 4) d_Law_law_848) (.cons (v_iconst (v := (2 : Int32)) d_Law_law_850 (by decide +kernel)) (.cons (v_iadd d_Law_law_851) .nil)))
theorem s_Law_law_859 : aw_VS y_Law_law 859 [o_c (.int (0 : Int32))] 860 := .cons (v_iconst (v := (0 : Int32)) d_Law_law_859 (by decide +kernel)) .nil
theorem s_Law_law_861 : aw_VS y_Law_law 861 [o_ald 1, o_ald 0, o_ild 4, o_c (.int (1 : Int32)), o_i2 (fun x z => x + z)] 867 := .cons (v_aload_n (i := 1) d_Law_law_861 rfl) (.cons (v_aload_n (i := 0) d_Law_law_862 rfl) (.cons (v_iload (i := 4) d_Law_law_863) (.cons (v_iconst (v := (1 : Int32)) d_Law_law_865 (by decide +kernel)) (.cons (v_iadd d_Law_law_866) .nil))))
theorem s_Law_law_868 : aw_VS y_Law_law 868 [o_ald 0, o_ild 4, o_c (.int (2 : Int32)), o_i2 (fun x z => x + z)] 873 := .cons (v_aload_n (i := 0) d_Law_law_868 rfl) (.cons (v_iload (i := 4) d_Law_law_869) (.cons (v_iconst (v := (2 : Int32)) d_Law_law_871 (by decide +kernel)) (.cons (v_iadd d_Law_law_872) .nil)))
theorem s_Law_law_877 : aw_VS y_Law_law 877 [o_ald 2, o_ald 0, o_ild 4, o_c (.int (1 : Int32)), o_i2 (fun x z => x + z)] 883 := .cons (v_aload_n (i := 2) d_Law_law_877 rfl) (.cons (v_aload_n (i := 0) d_Law_law_878 rfl) (.cons (v_iload (i := 4) d_Law_law_879) (.cons (v_iconst (v := (1 : Int32)) d_Law_law_881 (by decide +kernel)) (.cons (v_iadd d_Law_law_882) .nil))))
theorem s_Law_law_884 : aw_VS y_Law_law 884 [o_ald 0, o_ild 4, o_c (.int (2 : Int32)), o_i2 (fun x z => x + z)] 889 := .cons (v_aload_n (i := 0) d_Law_law_884 rfl) (.cons (v_iload (i := 4) d_Law_law_885) (.cons (v_iconst (v := (2 : Int32)) d_Law_law_887 (by decide +kernel)) (.cons (v_iadd d_Law_law_888) .nil)))
theorem s_Law_law_896 : aw_VS y_Law_law 896 [o_c (.int (0 : Int32))] 897 := .cons (v_iconst (v := (0 : Int32)) d_Law_law_896 (by decide +kernel)) .nil
theorem s_Law_law_898 : aw_VS y_Law_law 898 [o_ald 1, o_ald 0, o_ild 4, o_c (.int (1 : Int32)), o_i2 (fun x z => x + z)] 904 := .cons (v_aload_n (i := 1) d_Law_law_898 rfl) (.cons (v_aload_n (i := 0) d_Law_law_899 rfl) (.cons (v_iload (i := 4) d_Law_law_900) (.cons (v_iconst (v := (1 : Int32)) d_Law_law_902 (by decide +kernel)) (.cons (v_iadd d_Law_law_903) .nil))))
theorem s_Law_law_908 : aw_VS y_Law_law 908 [o_ald 2, o_ald 0, o_ild 4, o_c (.int (1 : Int32)), o_i2 (fun x z => x + z)] 914 := .cons (v_aload_n (i := 2) d_Law_law_908 rfl) (.cons (v_aload_n (i := 0) d_Law_law_909 rfl) (.cons (v_iload (i := 4) d_Law_law_910) (.cons (v_iconst (v := (1 : Int32)) d_Law_law_912 (by decide +kernel)) (.cons (v_iadd d_Law_law_913) .nil))))
theorem s_Law_law_921 : aw_VS y_Law_law 921 [o_c (.int (0 : Int32))] 922 := .cons (v_iconst (v := (0 : Int32)) d_Law_law_921 (by decide +kernel)) .nil
theorem s_Law_law_923 : aw_VS y_Law_law 923 [o_ald 1, o_ald 0, o_ild 4, o_c (.int (1 : Int32)), o_i2 (fun x z => x + z)] 929 := .cons (v_aload_n (i := 1) d_Law_law_923 rfl) (.cons (v_aload_n (i := 0) d_Law_law_924 rfl) (.cons (v_iload (i := 4) d_Law_law_925) (.cons (v_iconst (v := (1 : Int32)) d_Law_law_927 (by decide +kernel)) (.cons (v_iadd d_Law_law_928) .nil))))
theorem s_Law_law_933 : aw_VS y_Law_law 933 [o_ald 2, o_ald 0, o_ild 4, o_c (.int (1 : Int32)), o_i2 (fun x z => x + z)] 939 := .cons (v_aload_n (i := 2) d_Law_law_933 rfl) (.cons (v_aload_n (i := 0) d_Law_law_934 rfl) (.cons (v_iload (i := 4) d_Law_law_935) (.cons (v_iconst (v := (1 : Int32)) d_Law_law_937 (by decide +kernel)) (.cons (v_iadd d_Law_law_938) .nil))))
theorem s_Law_law_946 : aw_VS y_Law_law 946 [o_c (.int (0 : Int32))] 947 := .cons (v_iconst (v := (0 : Int32)) d_Law_law_946 (by decide +kernel)) .nil
theorem s_Law_law_948 : aw_VS y_Law_law 948 [o_ald 1, o_ald 0, o_ild 4, o_c (.int (1 : Int32)), o_i2 (fun x z => x + z)] 954 := .cons (v_aload_n (i := 1) d_Law_law_948 rfl) (.cons (v_aload_n (i := 0) d_Law_law_949 rfl) (.cons (v_iload (i := 4) d_Law_law_950) (.cons (v_iconst (v := (1 : Int32)) d_Law_law_952 (by decide +kernel)) (.cons (v_iadd d_Law_law_953) .nil))))
theorem s_Law_law_955 : aw_VS y_Law_law 955 [o_ald 0, o_ild 4, o_c (.int (2 : Int32)), o_i2 (fun x z => x + z)] 960 := .cons (v_aload_n (i := 0) d_Law_law_955 rfl) (.cons (v_iload (i := 4) d_Law_law_956) (.cons (v_iconst (v := (2 : Int32)) d_Law_law_958 (by decide +kernel)) (.cons (v_iadd d_Law_law_959) .nil)))
theorem s_Law_law_961 : aw_VS y_Law_law 961 [o_ald 0, o_ild 4, o_c (.int (3 : Int32)), o_i2 (fun x z => x + z)] 966 := .cons (v_aload_n (i := 0) d_Law_law_961 rfl) (.cons (v_iload (i := 4) d_Law_law_962) (.cons (v_iconst (v := (3 : Int32)) d_Law_law_964 (by decide +kernel)) (.cons (v_iadd d_Law_law_965) .nil)))
theorem s_Law_law_970 : aw_VS y_Law_law 970 [o_ald 2, o_ald 0, o_ild 4, o_c (.int (1 : Int32)), o_i2 (fun x z => x + z)] 976 := .cons (v_aload_n (i := 2) d_Law_law_970 rfl) (.cons (v_aload_n (i := 0) d_Law_law_971 rfl) (.cons (v_iload (i := 4) d_Law_law_972) (.cons (v_iconst (v := (1 : Int32)) d_Law_law_974 (by decide +kernel)) (.cons (v_iadd d_Law_law_975) .nil))))
theorem s_Law_law_977 : aw_VS y_Law_law 977 [o_ald 0, o_ild 4, o_c (.int (2 : Int32)), o_i2 (fun x z => x + z)] 982 := .cons (v_aload_n (i := 0) d_Law_law_977 rfl) (.cons (v_iload (i := 4) d_Law_law_978) (.cons (v_iconst (v := (2 : Int32)) d_Law_law_980 (by decide +kernel)) (.cons (v_iadd d_Law_law_981) .nil)))
theorem s_Law_law_983 : aw_VS y_Law_law 983 [o_ald 0, o_ild 4, o_c (.int (3 : Int32)), o_i2 (fun x z => x + z)] 988 := .cons (v_aload_n (i := 0) d_Law_law_983 rfl) (.cons (v_iload (i := 4) d_Law_law_984) (.cons (v_iconst (v := (3 : Int32)) d_Law_law_986 (by decide +kernel)) (.cons (v_iadd d_Law_law_987) .nil)))
theorem s_Law_law_995 : aw_VS y_Law_law 995 [o_c (.int (0 : Int32))] 996 := .cons (v_iconst (v := (0 : Int32)) d_Law_law_995 (by decide +kernel)) .nil
theorem s_Law_law_997 : aw_VS y_Law_law 997 [o_ald 1, o_ald 0, o_ild 4, o_c (.int (1 : Int32)), o_i2 (fun x z => x + z)] 1003 := .cons (v_aload_n (i := 1) d_Law_law_997 rfl) (.cons (v_aload_n (i := 0) d_Law_law_998 rfl) (.cons (v_iload (i := 4) d_Law_law_999) (.cons (v_iconst (v := (1 : Int32)) d_Law_law_1001 (by decide +kernel)) (.cons (v_iadd d_Law_law_1002) .nil))))
theorem s_Law_law_1004 : aw_VS y_Law_law 1004 [o_ald 0, o_ild 4, o_c (.int (2 : Int32)), o_i2 (fun x z => x + z)] 1009 := .cons (v_aload_n (i := 0) d_Law_law_1004 rfl) (.cons (v_iload (i := 4) d_Law_law_1005) (.cons (v_iconst (v := (2 : Int32)) d_Law_law_1007 (by decide +kernel)) (.cons (v_iadd d_Law_law_1008) .nil)))
theorem s_Law_law_1010 : aw_VS y_Law_law 1010 [o_ald 0, o_ild 4, o_c (.int (3 : Int32)), o_i2 (fun x z => x + z)] 1015 := .cons (v_aload_n (i := 0) d_Law_law_1010 rfl) (.cons (v_iload (i := 4) d_Law_law_1011) (.cons (v_iconst (v := (3 : Int32)) d_Law_law_1013 (by decide +kernel)) (.cons (v_iadd d_Law_law_1014) .nil)))
theorem s_Law_law_1019 : aw_VS y_Law_law 1019 [o_ald 2, o_ald 0, o_ild 4, o_c (.int (1 : Int32)), o_i2 (fun x z => x + z)] 1025 := .cons (v_aload_n (i := 2) d_Law_law_1019 rfl) (.cons (v_aload_n (i := 0) d_Law_law_1020 rfl) (.cons (v_iload (i := 4) d_Law_law_1021) (.cons (v_iconst (v := (1 : Int32)) d_Law_law_1023 (by decide +kernel)) (.cons (v_iadd d_Law_law_1024) .nil))))
theorem s_Law_law_1026 : aw_VS y_Law_law 1026 [o_ald 0, o_ild 4, o_c (.int (2 : Int32)), o_i2 (fun x z => x + z)] 1031 := .cons (v_aload_n (i := 0) d_Law_law_1026 rfl) (.cons (v_iload (i := 4) d_Law_law_1027) (.cons (v_iconst (v := (2 : Int32)) d_Law_law_1029 (by decide +kernel)) (.cons (v_iadd d_Law_law_1030) .nil)))
theorem s_Law_law_1032 : aw_VS y_Law_law 1032 [o_ald 0, o_ild 4, o_c (.int (3 : Int32)), o_i2 (fun x z => x + z)] 1037 := .cons (v_aload_n (i := 0) d_Law_law_1032 rfl) (.cons (v_iload (i := 4) d_Law_law_1033) (.cons (v_iconst (v := (3 : Int32)) d_Law_law_1035 (by decide +kernel)) (.cons (v_iadd d_Law_law_1036) .nil)))
theorem s_Law_law_1044 : aw_VS y_Law_law 1044 [o_c (.int (0 : Int32))] 1045 := .cons (v_iconst (v := (0 : Int32)) d_Law_law_1044 (by decide +kernel)) .nil
theorem s_Law_law_1046 : aw_VS y_Law_law 1046 [o_ald 1, o_ald 0, o_ild 4, o_c (.int (1 : Int32)), o_i2 (fun x z => x + z)] 1052 := .cons (v_aload_n (i := 1) d_Law_law_1046 rfl) (.cons (v_aload_n (i := 0) d_Law_law_1047 rfl) (.cons (v_iload (i := 4) d_Law_law_1048) (.cons (v_iconst (v := (1 : Int32)) d_Law_law_1050 (by decide +kernel)) (.cons (v_iadd d_Law_law_1051) .nil))))
theorem s_Law_law_1053 : aw_VS y_Law_law 1053 [o_ald 0, o_ild 4, o_c (.int (2 : Int32)), o_i2 (fun x z => x + z)] 1058 := .cons (v_aload_n (i := 0) d_Law_law_1053 rfl) (.cons (v_iload (i := 4) d_Law_law_1054) (.cons (v_iconst (v := (2 : Int32)) d_Law_law_1056 (by decide +kernel)) (.cons (v_iadd d_Law_law_1057) .nil)))
theorem s_Law_law_1062 : aw_VS y_Law_law 1062 [o_ald 2, o_ald 0, o_ild 4, o_c (.int (1 : Int32)), o_i2 (fun x z => x + z)] 1068 := .cons (v_aload_n (i := 2) d_Law_law_1062 rfl) (.cons (v_aload_n (i := 0) d_Law_law_1063 rfl) (.cons (v_iload (i := 4) d_Law_law_1064) (.cons (v_iconst (v := (1 : Int32)) d_Law_law_1066 (by decide +kernel)) (.cons (v_iadd d_Law_law_1067) .nil))))
theorem s_Law_law_1069 : aw_VS y_Law_law 1069 [o_ald 0, o_ild 4, o_c (.int (2 : Int32)), o_i2 (fun x z => x + z)] 1074 := .cons (v_aload_n (i := 0) d_Law_law_1069 rfl) (.cons (v_iload (i := 4) d_Law_law_1070) (.cons (v_iconst (v := (2 : Int32)) d_Law_law_1072 (by decide +kernel)) (.cons (v_iadd d_Law_law_1073) .nil)))
theorem s_Law_law_1081 : aw_VS y_Law_law 1081 [o_c (.int (0 : Int32))] 1082 := .cons (v_iconst (v := (0 : Int32)) d_Law_law_1081 (by decide +kernel)) .nil
theorem s_Law_law_1083 : aw_VS y_Law_law 1083 [o_ald 1] 1084 := .cons (v_aload_n (i := 1) d_Law_law_1083 rfl) .nil
theorem s_Law_law_1087 : aw_VS y_Law_law 1087 [o_ald 2] 1088 := .cons (v_aload_n (i := 2) d_Law_law_1087 rfl) .nil
theorem s_Law_law_1094 : aw_VS y_Law_law 1094 [o_c (.int (0 : Int32))] 1095 := .cons (v_iconst (v := (0 : Int32)) d_Law_law_1094 (by decide +kernel)) .nil
theorem s_Law_law_1096 : aw_VS y_Law_law 1096 [o_ald 1] 1097 := .cons (v_aload_n (i := 1) d_Law_law_1096 rfl) .nil
theorem s_Law_law_1100 : aw_VS y_Law_law 1100 [o_ald 2] 1101 := .cons (v_aload_n (i := 2) d_Law_law_1100 rfl) .nil
theorem s_Law_law_1107 : aw_VS y_Law_law 1107 [o_c (.int (0 : Int32))] 1108 := .cons (v_iconst (v := (0 : Int32)) d_Law_law_1107 (by decide +kernel)) .nil
theorem s_Law_law_1109 : aw_VS y_Law_law 1109 [o_ald 1] 1110 := .cons (v_aload_n (i := 1) d_Law_law_1109 rfl) .nil
theorem s_Law_law_1113 : aw_VS y_Law_law 1113 [o_ald 2] 1114 := .cons (v_aload_n (i := 2) d_Law_law_1113 rfl) .nil
theorem s_Law_law_1120 : aw_VS y_Law_law 1120 [o_c (.int (0 : Int32))] 1121 := .cons (v_iconst (v := (0 : Int32)) d_Law_law_1120 (by decide +kernel)) .nil
theorem s_Law_law_1122 : aw_VS y_Law_law 1122 [o_ald 1] 1123 := .cons (v_aload_n (i := 1) d_Law_law_1122 rfl) .nil
theorem s_Law_law_1126 : aw_VS y_Law_law 1126 [o_ald 2] 1127 := .cons (v_aload_n (i := 2) d_Law_law_1126 rfl) .nil
theorem s_Law_law_1133 : aw_VS y_Law_law 1133 [o_c (.int (0 : Int32))] 1134 := .cons (v_iconst (v := (0 : Int32)) d_Law_law_1133 (by decide +kernel)) .nil
theorem s_Law_law_1135 : aw_VS y_Law_law 1135 [o_ald 1, o_ald 0, o_ild 4, o_c (.int (1 : Int32)), o_i2 (fun x z => x + z)] 1141 := .cons (v_aload_n (i := 1) d_Law_law_1135 rfl) (.cons (v_aload_n (i := 0) d_Law_law_1136 rfl) (.cons (v_iload (i := 4) d_Law_law_1137) (.cons (v_iconst (v := (1 : Int32)) d_Law_law_1139 (by decide +kernel)) (.cons (v_iadd d_Law_law_1140) .nil))))
theorem s_Law_law_1145 : aw_VS y_Law_law 1145 [o_ald 2, o_ald 0, o_ild 4, o_c (.int (1 : Int32)), o_i2 (fun x z => x + z)] 1151 := .cons (v_aload_n (i := 2) d_Law_law_1145 rfl) (.cons (v_aload_n (i := 0) d_Law_law_1146 rfl) (.cons (v_iload (i := 4) d_Law_law_1147) (.cons (v_iconst (v := (1 : Int32)) d_Law_law_1149 (by decide +kernel)) (.cons (v_iadd d_Law_law_1150) .nil))))
theorem s_Law_law_1158 : aw_VS y_Law_law 1158 [o_c (.int (0 : Int32))] 1159 := .cons (v_iconst (v := (0 : Int32)) d_Law_law_1158 (by decide +kernel)) .nil
theorem s_Law_law_1160 : aw_VS y_Law_law 1160 [o_ald 1] 1161 := .cons (v_aload_n (i := 1) d_Law_law_1160 rfl) .nil
theorem s_Law_law_1164 : aw_VS y_Law_law 1164 [o_ald 2] 1165 := .cons (v_aload_n (i := 2) d_Law_law_1164 rfl) .nil
theorem s_Law_law_1171 : aw_VS y_Law_law 1171 [o_c (.int (0 : Int32))] 1172 := .cons (v_iconst (v := (0 : Int32)) d_Law_law_1171 (by decide +kernel)) .nil
theorem s_Law_law_1173 : aw_VS y_Law_law 1173 [o_ald 1, o_ald 0, o_ild 4, o_c (.int (1 : Int32)), o_i2 (fun x z => x + z)] 1179 := .cons (v_aload_n (i := 1) d_Law_law_1173 rfl) (.cons (v_aload_n (i := 0) d_Law_law_1174 rfl) (.cons (v_iload (i := 4) d_Law_law_1175) (.cons (v_iconst (v := (1 : Int32)) d_Law_law_1177 (by decide +kernel)) (.cons (v_iadd d_Law_law_1178) .nil))))
theorem s_Law_law_1180 : aw_VS y_Law_law 1180 [o_ald 0, o_ild 4, o_c (.int (2 : Int32)), o_i2 (fun x z => x + z)] 1185 := .cons (v_aload_n (i := 0) d_Law_law_1180 rfl) (.cons (v_iload (i := 4) d_Law_law_1181) (.cons (v_iconst (v := (2 : Int32)) d_Law_law_1183 (by decide +kernel)) (.cons (v_iadd d_Law_law_1184) .nil)))
theorem s_Law_law_1186 : aw_VS y_Law_law 1186 [o_ald 0, o_ild 4, o_c (.int (3 : Int32)), o_i2 (fun x z => x + z)] 1191 := .cons (v_aload_n (i := 0) d_Law_law_1186 rfl) (.cons (v_iload (i := 4) d_Law_law_1187) (.cons (v_iconst (v := (3 : Int32)) d_Law_law_1189 (by decide +kernel)) (.cons (v_iadd d_Law_law_1190) .nil)))
theorem s_Law_law_1195 : aw_VS y_Law_law 1195 [o_ald 2, o_ald 0, o_ild 4, o_c (.int (1 : Int32)), o_i2 (fun x z => x + z)] 1201 := .cons (v_aload_n (i := 2) d_Law_law_1195 rfl) (.cons (v_aload_n (i := 0) d_Law_law_1196 rfl) (.cons (v_iload (i := 4) d_Law_law_1197) (.cons (v_iconst (v := (1 : Int32)) d_Law_law_1199 (by decide +kernel)) (.cons (v_iadd d_Law_law_1200) .nil))))
theorem s_Law_law_1202 : aw_VS y_Law_law 1202 [o_ald 0, o_ild 4, o_c (.int (2 : Int32)), o_i2 (fun x z => x + z)] 1207 := .cons (v_aload_n (i := 0) d_Law_law_1202 rfl) (.cons (v_iload (i := 4) d_Law_law_1203) (.cons (v_iconst (v := (2 : Int32)) d_Law_law_1205 (by decide +kernel)) (.cons (v_iadd d_Law_law_1206) .nil)))
theorem s_Law_law_1208 : aw_VS y_Law_law 1208 [o_ald 0, o_ild 4, o_c (.int (3 : Int32)), o_i2 (fun x z => x + z)] 1213 := .cons (v_aload_n (i := 0) d_Law_law_1208 rfl) (.cons (v_iload (i := 4) d_Law_law_1209) (.cons (v_iconst (v := (3 : Int32)) d_Law_law_1211 (by decide +kernel)) (.cons (v_iadd d_Law_law_1212) .nil)))
theorem s_Law_law_1220 : aw_VS y_Law_law 1220 [o_c (.int (0 : Int32))] 1221 := .cons (v_iconst (v := (0 : Int32)) d_Law_law_1220 (by decide +kernel)) .nil
theorem s_Law_law_1222 : aw_VS y_Law_law 1222 [o_ald 1, o_ald 0, o_ild 4, o_c (.int (1 : Int32)), o_i2 (fun x z => x + z)] 1228 := .cons (v_aload_n (i := 1) d_Law_law_1222 rfl) (.cons (v_aload_n (i := 0) d_Law_law_1223 rfl) (.cons (v_iload (i := 4) d_Law_law_1224) (.cons (v_iconst (v := (1 : Int32)) d_Law_law_1226 (by decide +kernel)) (.cons (v_iadd d_Law_law_1227) .nil))))
theorem s_Law_law_1232 : aw_VS y_Law_law 1232 [o_ald 2, o_ald 0, o_ild 4, o_c (.int (1 : Int32)), o_i2 (fun x z => x + z)] 1238 := .cons (v_aload_n (i := 2) d_Law_law_1232 rfl) (.cons (v_aload_n (i := 0) d_Law_law_1233 rfl) (.cons (v_iload (i := 4) d_Law_law_1234) (.cons (v_iconst (v := (1 : Int32)) d_Law_law_1236 (by decide +kernel)) (.cons (v_iadd d_Law_law_1237) .nil))))
theorem s_Law_law_1245 : aw_VS y_Law_law 1245 [o_c (.int (0 : Int32))] 1246 := .cons (v_iconst (v := (0 : Int32)) d_Law_law_1245 (by decide +kernel)) .nil
theorem s_Law_law_1247 : aw_VS y_Law_law 1247 [o_ald 1, o_ald 0, o_ild 4, o_c (.int (1 : Int32)), o_i2 (fun x z => x + z)] 1253 := .cons (v_aload_n (i := 1) d_Law_law_1247 rfl) (.cons (v_aload_n (i := 0) d_Law_law_1248 rfl) (.cons (v_iload (i := 4) d_Law_law_1249) (.cons (v_iconst (v := (1 : Int32)) d_Law_law_1251 (by decide +kernel)) (.cons (v_iadd d_Law_law_1252) .nil))))
theorem s_Law_law_1257 : aw_VS y_Law_law 1257 [o_ald 2, o_ald 0, o_ild 4, o_c (.int (1 : Int32)), o_i2 (fun x z => x + z)] 1263 := .cons (v_aload_n (i := 2) d_Law_law_1257 rfl) (.cons (v_aload_n (i := 0) d_Law_law_1258 rfl) (.cons (v_iload (i := 4) d_Law_law_1259) (.cons (v_iconst (v := (1 : Int32)) d_Law_law_1261 (by decide +kernel)) (.cons (v_iadd d_Law_law_1262) .nil))))
theorem s_Law_law_1270 : aw_VS y_Law_law 1270 [o_c (.int (0 : Int32))] 1271 := .cons (v_iconst (v := (0 : Int32)) d_Law_law_1270 (by decide +kernel)) .nil
theorem s_Law_law_1272 : aw_VS y_Law_law 1272 [o_inc 4 (6 : Int32)] 1275 := .cons (v_iinc (k0 := (6 : Int32)) d_Law_law_1272 (by decide +kernel)) .nil
theorem s_Law_law_1278 : aw_VS y_Law_law 1278 [o_c (.int (1 : Int32))] 1279 := .cons (v_iconst (v := (1 : Int32)) d_Law_law_1278 (by decide +kernel)) .nil
theorem lc_0 {X : aw_X} {Q : Option Value → aw_H → Prop} {I : Nat → Nat → Int32} {L : Nat → Nat → Int64} {D : Nat → Nat} {i kc ks : Nat} (hL : aw_xl X ≤ 3072) (hi : i + 6 ≤ aw_xl X) (h : Rel I L D) (hc : kc ≤ 601024) (hs : ks ≤ 7293034) (hk : ∀ I2 L2 D2, Rel I2 L2 D2 → aw_Z X 2048 601024 7293034 y_Law_law Q kc ks 1272 (lwL i) [] (aw_s I2 L2 D2)) : aw_Z X 2048 601024 7293034 y_Law_law Q kc ks 188 (lwL i) [] (aw_s I L D) := by
  refine s_Law_law_188.go (lwL i) [.int (nI i + (1 : Int32)), .ref 1005, .ref 0] (aw_s I L D) rfl ?_
  refine z_sald (law_vp 1 (by decide) hi hL) d_Law_law_194 ?_
  refine s_Law_law_195.go (lwL i) [.int (nI i + (2 : Int32)), .ref 1005, .int (xa X i 1), .ref 0] (aw_s I L D) rfl ?_
  refine z_sald (law_vp 2 (by decide) hi hL) d_Law_law_200 ?_
  refine s_Law_law_201.go (lwL i) [.int (nI i + (3 : Int32)), .ref 1005, .int (xa X i 2), .int (xa X i 1), .ref 0] (aw_s I L D) rfl ?_
  refine z_sald (law_vp 3 (by decide) hi hL) d_Law_law_206 ?_
  refine s_Law_law_207.go (lwL i) [.int (nI i + (4 : Int32)), .ref 1005, .int (xa X i 3), .int (xa X i 2), .int (xa X i 1), .ref 0] (aw_s I L D) rfl ?_
  refine z_sald (law_vp 4 (by decide) hi hL) d_Law_law_212 ?_
  refine s_Law_law_213.go (lwL i) [.int (nI i + (5 : Int32)), .ref 1005, .int (xa X i 4), .int (xa X i 3), .int (xa X i 2), .int (xa X i 1), .ref 0] (aw_s I L D) rfl ?_
  refine z_sald (law_vp 5 (by decide) hi hL) d_Law_law_218 ?_
  refine z_callV (d := 2047) (mc2 := 0) (ms2 := 0) (av := [.int (xa X i 1), .int (xa X i 2), .int (xa X i 3), .int (xa X i 4), .int (xa X i 5)]) (st := []) ok_AW_feed (Or.inl w_545) w_546 w_547 k_AW d_Law_law_219 rfl (aw_lt (o := 0) rfl) rfl rfl (Nat.le_of_ble_eq_true rfl) hc hs (pr_feed h _ (fun r I1 L1 D1 hM => ?_))
  refine s_Law_law_222.go (lwL i) [.int (nI i + (1 : Int32)), .ref 1005, .ref 69, .int r] (aw_s I1 L1 D1) rfl ?_
  refine z_sald (law_vp 1 (by decide) hi hL) d_Law_law_228 ?_
  refine s_Law_law_229.go (lwL i) [.int (nI i + (2 : Int32)), .ref 1005, .int (xa X i 1), .ref 69, .int r] (aw_s I1 L1 D1) rfl ?_
  refine z_sald (law_vp 2 (by decide) hi hL) d_Law_law_234 ?_
  refine s_Law_law_235.go (lwL i) [.int (nI i + (3 : Int32)), .ref 1005, .int (xa X i 2), .int (xa X i 1), .ref 69, .int r] (aw_s I1 L1 D1) rfl ?_
  refine z_sald (law_vp 3 (by decide) hi hL) d_Law_law_240 ?_
  refine s_Law_law_241.go (lwL i) [.int (nI i + (4 : Int32)), .ref 1005, .int (xa X i 3), .int (xa X i 2), .int (xa X i 1), .ref 69, .int r] (aw_s I1 L1 D1) rfl ?_
  refine z_sald (law_vp 4 (by decide) hi hL) d_Law_law_246 ?_
  refine s_Law_law_247.go (lwL i) [.int (nI i + (5 : Int32)), .ref 1005, .int (xa X i 4), .int (xa X i 3), .int (xa X i 2), .int (xa X i 1), .ref 69, .int r] (aw_s I1 L1 D1) rfl ?_
  refine z_sald (law_vp 5 (by decide) hi hL) d_Law_law_252 ?_
  refine z_callV (d := 2047) (mc2 := 0) (ms2 := 0) (av := [.int (xa X i 1), .int (xa X i 2), .int (xa X i 3), .int (xa X i 4), .int (xa X i 5)]) (st := [.int r]) ok_M_feed (Or.inl w_1725) w_1726 w_1727 k_M d_Law_law_253 rfl (aw_lt (o := 69) rfl) rfl rfl (Nat.le_of_ble_eq_true rfl) hc hs (hM _ (fun I2 L2 D2 h2 => ?_))
  exact z_icmp_eq (tgt := 1272) d_Law_law_256 rfl (fun _ => hk I2 L2 D2 h2) (fun q => absurd rfl q)

theorem lc_1 {X : aw_X} {Q : Option Value → aw_H → Prop} {I : Nat → Nat → Int32} {L : Nat → Nat → Int64} {D : Nat → Nat} {i kc ks : Nat} (hL : aw_xl X ≤ 3072) (hi : i + 6 ≤ aw_xl X) (h : Rel I L D) (hc : kc ≤ 601024) (hs : ks ≤ 7293034) (hk : ∀ I2 L2 D2, Rel I2 L2 D2 → aw_Z X 2048 601024 7293034 y_Law_law Q kc ks 1272 (lwL i) [] (aw_s I2 L2 D2)) : aw_Z X 2048 601024 7293034 y_Law_law Q kc ks 261 (lwL i) [] (aw_s I L D) := by
  refine s_Law_law_261.go (lwL i) [.int (nI i + (1 : Int32)), .ref 1005, .ref 0] (aw_s I L D) rfl ?_
  refine z_sald (law_vp 1 (by decide) hi hL) d_Law_law_267 ?_
  refine z_callV (d := 2047) (mc2 := 0) (ms2 := 0) (av := [.int (xa X i 1)]) (st := []) ok_AW_end (Or.inl w_557) w_558 w_559 k_AW d_Law_law_268 rfl (aw_lt (o := 0) rfl) rfl rfl (Nat.le_of_ble_eq_true rfl) hc hs (pr_end h _ (fun r I1 L1 D1 hM => ?_))
  refine s_Law_law_271.go (lwL i) [.int (nI i + (1 : Int32)), .ref 1005, .ref 69, .int r] (aw_s I1 L1 D1) rfl ?_
  refine z_sald (law_vp 1 (by decide) hi hL) d_Law_law_277 ?_
  refine z_callV (d := 2047) (mc2 := 0) (ms2 := 0) (av := [.int (xa X i 1)]) (st := [.int r]) ok_M_end (Or.inl w_1733) w_1734 w_1735 k_M d_Law_law_278 rfl (aw_lt (o := 69) rfl) rfl rfl (Nat.le_of_ble_eq_true rfl) hc hs (hM _ (fun I2 L2 D2 h2 => ?_))
  exact z_icmp_eq (tgt := 1272) d_Law_law_281 rfl (fun _ => hk I2 L2 D2 h2) (fun q => absurd rfl q)

theorem lc_2 {X : aw_X} {Q : Option Value → aw_H → Prop} {I : Nat → Nat → Int32} {L : Nat → Nat → Int64} {D : Nat → Nat} {i kc ks : Nat} (hL : aw_xl X ≤ 3072) (hi : i + 6 ≤ aw_xl X) (h : Rel I L D) (hc : kc ≤ 601024) (hs : ks ≤ 7293034) (hk : ∀ I2 L2 D2, Rel I2 L2 D2 → aw_Z X 2048 601024 7293034 y_Law_law Q kc ks 1272 (lwL i) [] (aw_s I2 L2 D2)) : aw_Z X 2048 601024 7293034 y_Law_law Q kc ks 286 (lwL i) [] (aw_s I L D) := by
  refine s_Law_law_286.go (lwL i) [.int (nI i + (1 : Int32)), .ref 1005, .ref 0] (aw_s I L D) rfl ?_
  refine z_sald (law_vp 1 (by decide) hi hL) d_Law_law_292 ?_
  refine z_callV (d := 2047) (mc2 := 0) (ms2 := 0) (av := [.int (xa X i 1)]) (st := []) ok_AW_program (Or.inl w_565) w_566 w_567 k_AW d_Law_law_293 rfl (aw_lt (o := 0) rfl) rfl rfl (Nat.le_of_ble_eq_true rfl) hc hs (pr_program h _ (fun r I1 L1 D1 hM => ?_))
  refine s_Law_law_296.go (lwL i) [.int (nI i + (1 : Int32)), .ref 1005, .ref 69, .int r] (aw_s I1 L1 D1) rfl ?_
  refine z_sald (law_vp 1 (by decide) hi hL) d_Law_law_302 ?_
  refine z_callV (d := 2047) (mc2 := 0) (ms2 := 0) (av := [.int (xa X i 1)]) (st := [.int r]) ok_M_program (Or.inl w_1737) w_1738 w_1739 k_M d_Law_law_303 rfl (aw_lt (o := 69) rfl) rfl rfl (Nat.le_of_ble_eq_true rfl) hc hs (hM _ (fun I2 L2 D2 h2 => ?_))
  exact z_icmp_eq (tgt := 1272) d_Law_law_306 rfl (fun _ => hk I2 L2 D2 h2) (fun q => absurd rfl q)

theorem lc_3 {X : aw_X} {Q : Option Value → aw_H → Prop} {I : Nat → Nat → Int32} {L : Nat → Nat → Int64} {D : Nat → Nat} {i kc ks : Nat} (hL : aw_xl X ≤ 3072) (hi : i + 6 ≤ aw_xl X) (h : Rel I L D) (hc : kc ≤ 601024) (hs : ks ≤ 7293034) (hk : ∀ I2 L2 D2, Rel I2 L2 D2 → aw_Z X 2048 601024 7293034 y_Law_law Q kc ks 1272 (lwL i) [] (aw_s I2 L2 D2)) : aw_Z X 2048 601024 7293034 y_Law_law Q kc ks 311 (lwL i) [] (aw_s I L D) := by
  refine s_Law_law_311.go (lwL i) [.ref 0] (aw_s I L D) rfl ?_
  refine z_callV (d := 2047) (mc2 := 0) (ms2 := 0) (av := []) (st := []) ok_AW_fault (Or.inl w_854) w_855 w_856 k_AW d_Law_law_312 rfl (aw_lt (o := 0) rfl) rfl rfl (Nat.le_of_ble_eq_true rfl) hc hs (pr_fault h _ (fun r I1 L1 D1 hM => ?_))
  refine s_Law_law_315.go (lwL i) [.ref 69, .int r] (aw_s I1 L1 D1) rfl ?_
  refine z_callV (d := 2047) (mc2 := 0) (ms2 := 0) (av := []) (st := [.int r]) ok_M_fault (Or.inl w_1896) w_1897 w_1898 k_M d_Law_law_316 rfl (aw_lt (o := 69) rfl) rfl rfl (Nat.le_of_ble_eq_true rfl) hc hs (hM _ (fun I2 L2 D2 h2 => ?_))
  exact z_icmp_eq (tgt := 1272) d_Law_law_319 rfl (fun _ => hk I2 L2 D2 h2) (fun q => absurd rfl q)

theorem lc_4 {X : aw_X} {Q : Option Value → aw_H → Prop} {I : Nat → Nat → Int32} {L : Nat → Nat → Int64} {D : Nat → Nat} {i kc ks : Nat} (hL : aw_xl X ≤ 3072) (hi : i + 6 ≤ aw_xl X) (h : Rel I L D) (hc : kc ≤ 601024) (hs : ks ≤ 7293034) (hk : ∀ I2 L2 D2, Rel I2 L2 D2 → aw_Z X 2048 601024 7293034 y_Law_law Q kc ks 1272 (lwL i) [] (aw_s I2 L2 D2)) : aw_Z X 2048 601024 7293034 y_Law_law Q kc ks 324 (lwL i) [] (aw_s I L D) := by
  refine s_Law_law_324.go (lwL i) [.int (nI i + (1 : Int32)), .ref 1005, .ref 0] (aw_s I L D) rfl ?_
  refine z_sald (law_vp 1 (by decide) hi hL) d_Law_law_330 ?_
  refine s_Law_law_331.go (lwL i) [.int (nI i + (2 : Int32)), .ref 1005, .int (xa X i 1), .ref 0] (aw_s I L D) rfl ?_
  refine z_sald (law_vp 2 (by decide) hi hL) d_Law_law_336 ?_
  refine s_Law_law_337.go (lwL i) [.int (nI i + (3 : Int32)), .ref 1005, .int (xa X i 2), .int (xa X i 1), .ref 0] (aw_s I L D) rfl ?_
  refine z_sald (law_vp 3 (by decide) hi hL) d_Law_law_342 ?_
  refine z_callV (d := 2047) (mc2 := 0) (ms2 := 0) (av := [.int (xa X i 1), .int (xa X i 2), .int (xa X i 3)]) (st := []) ok_AW_sizes (Or.inl w_858) w_859 w_860 k_AW d_Law_law_343 rfl (aw_lt (o := 0) rfl) rfl rfl (Nat.le_of_ble_eq_true rfl) hc hs (pr_sizes h _ (fun r I1 L1 D1 hM => ?_))
  refine s_Law_law_346.go (lwL i) [.int (nI i + (1 : Int32)), .ref 1005, .ref 69, .int r] (aw_s I1 L1 D1) rfl ?_
  refine z_sald (law_vp 1 (by decide) hi hL) d_Law_law_352 ?_
  refine s_Law_law_353.go (lwL i) [.int (nI i + (2 : Int32)), .ref 1005, .int (xa X i 1), .ref 69, .int r] (aw_s I1 L1 D1) rfl ?_
  refine z_sald (law_vp 2 (by decide) hi hL) d_Law_law_358 ?_
  refine s_Law_law_359.go (lwL i) [.int (nI i + (3 : Int32)), .ref 1005, .int (xa X i 2), .int (xa X i 1), .ref 69, .int r] (aw_s I1 L1 D1) rfl ?_
  refine z_sald (law_vp 3 (by decide) hi hL) d_Law_law_364 ?_
  refine z_callV (d := 2047) (mc2 := 0) (ms2 := 0) (av := [.int (xa X i 1), .int (xa X i 2), .int (xa X i 3)]) (st := [.int r]) ok_M_sizes (Or.inl w_1900) w_1901 w_1902 k_M d_Law_law_365 rfl (aw_lt (o := 69) rfl) rfl rfl (Nat.le_of_ble_eq_true rfl) hc hs (hM _ (fun I2 L2 D2 h2 => ?_))
  exact z_icmp_eq (tgt := 1272) d_Law_law_368 rfl (fun _ => hk I2 L2 D2 h2) (fun q => absurd rfl q)

theorem lc_5 {X : aw_X} {Q : Option Value → aw_H → Prop} {I : Nat → Nat → Int32} {L : Nat → Nat → Int64} {D : Nat → Nat} {i kc ks : Nat} (hL : aw_xl X ≤ 3072) (hi : i + 6 ≤ aw_xl X) (h : Rel I L D) (hc : kc ≤ 601024) (hs : ks ≤ 7293034) (hk : ∀ I2 L2 D2, Rel I2 L2 D2 → aw_Z X 2048 601024 7293034 y_Law_law Q kc ks 1272 (lwL i) [] (aw_s I2 L2 D2)) : aw_Z X 2048 601024 7293034 y_Law_law Q kc ks 373 (lwL i) [] (aw_s I L D) := by
  refine s_Law_law_373.go (lwL i) [.int (nI i + (1 : Int32)), .ref 1005, .ref 0] (aw_s I L D) rfl ?_
  refine z_sald (law_vp 1 (by decide) hi hL) d_Law_law_379 ?_
  refine s_Law_law_380.go (lwL i) [.int (nI i + (2 : Int32)), .ref 1005, .int (xa X i 1), .ref 0] (aw_s I L D) rfl ?_
  refine z_sald (law_vp 2 (by decide) hi hL) d_Law_law_385 ?_
  refine z_callV (d := 2047) (mc2 := 0) (ms2 := 0) (av := [.int (xa X i 1), .int (xa X i 2)]) (st := []) ok_AW_walk (Or.inl w_870) w_871 w_872 k_AW d_Law_law_386 rfl (aw_lt (o := 0) rfl) rfl rfl (Nat.le_of_ble_eq_true rfl) hc hs (pr_walk h _ (fun r I1 L1 D1 hM => ?_))
  refine s_Law_law_389.go (lwL i) [.int (nI i + (1 : Int32)), .ref 1005, .ref 69, .int r] (aw_s I1 L1 D1) rfl ?_
  refine z_sald (law_vp 1 (by decide) hi hL) d_Law_law_395 ?_
  refine s_Law_law_396.go (lwL i) [.int (nI i + (2 : Int32)), .ref 1005, .int (xa X i 1), .ref 69, .int r] (aw_s I1 L1 D1) rfl ?_
  refine z_sald (law_vp 2 (by decide) hi hL) d_Law_law_401 ?_
  refine z_callV (d := 2047) (mc2 := 0) (ms2 := 0) (av := [.int (xa X i 1), .int (xa X i 2)]) (st := [.int r]) ok_M_walk (Or.inl w_1904) w_1905 w_1906 k_M d_Law_law_402 rfl (aw_lt (o := 69) rfl) rfl rfl (Nat.le_of_ble_eq_true rfl) hc hs (hM _ (fun I2 L2 D2 h2 => ?_))
  exact z_icmp_eq (tgt := 1272) d_Law_law_405 rfl (fun _ => hk I2 L2 D2 h2) (fun q => absurd rfl q)

theorem lc_7 {X : aw_X} {Q : Option Value → aw_H → Prop} {I : Nat → Nat → Int32} {L : Nat → Nat → Int64} {D : Nat → Nat} {i kc ks : Nat} (hL : aw_xl X ≤ 3072) (hi : i + 6 ≤ aw_xl X) (h : Rel I L D) (hc : kc ≤ 601024) (hs : ks ≤ 7293034) (hk : ∀ I2 L2 D2, Rel I2 L2 D2 → aw_Z X 2048 601024 7293034 y_Law_law Q kc ks 1272 (lwL i) [] (aw_s I2 L2 D2)) : aw_Z X 2048 601024 7293034 y_Law_law Q kc ks 478 (lwL i) [] (aw_s I L D) := by
  refine s_Law_law_478.go (lwL i) [.int (nI i + (1 : Int32)), .ref 1005, .ref 0] (aw_s I L D) rfl ?_
  refine z_sald (law_vp 1 (by decide) hi hL) d_Law_law_484 ?_
  refine s_Law_law_485.go (lwL i) [.int (nI i + (2 : Int32)), .ref 1005, .int (xa X i 1), .ref 0] (aw_s I L D) rfl ?_
  refine z_sald (law_vp 2 (by decide) hi hL) d_Law_law_490 ?_
  refine z_callV (d := 2047) (mc2 := 0) (ms2 := 0) (av := [.int (xa X i 1), .int (xa X i 2)]) (st := []) ok_AW_went (Or.inl w_1035) w_1036 w_1037 k_AW d_Law_law_491 rfl (aw_lt (o := 0) rfl) rfl rfl (Nat.le_of_ble_eq_true rfl) hc hs (pr_went h _ (fun r I1 L1 D1 hM => ?_))
  refine s_Law_law_494.go (lwL i) [.int (nI i + (1 : Int32)), .ref 1005, .ref 69, .int r] (aw_s I1 L1 D1) rfl ?_
  refine z_sald (law_vp 1 (by decide) hi hL) d_Law_law_500 ?_
  refine s_Law_law_501.go (lwL i) [.int (nI i + (2 : Int32)), .ref 1005, .int (xa X i 1), .ref 69, .int r] (aw_s I1 L1 D1) rfl ?_
  refine z_sald (law_vp 2 (by decide) hi hL) d_Law_law_506 ?_
  refine z_callV (d := 2047) (mc2 := 0) (ms2 := 0) (av := [.int (xa X i 1), .int (xa X i 2)]) (st := [.int r]) ok_M_went (Or.inl w_1979) w_1980 w_1981 k_M d_Law_law_507 rfl (aw_lt (o := 69) rfl) rfl rfl (Nat.le_of_ble_eq_true rfl) hc hs (hM _ (fun I2 L2 D2 h2 => ?_))
  exact z_icmp_eq (tgt := 1272) d_Law_law_510 rfl (fun _ => hk I2 L2 D2 h2) (fun q => absurd rfl q)

theorem lc_8 {X : aw_X} {Q : Option Value → aw_H → Prop} {I : Nat → Nat → Int32} {L : Nat → Nat → Int64} {D : Nat → Nat} {i kc ks : Nat} (hL : aw_xl X ≤ 3072) (hi : i + 6 ≤ aw_xl X) (h : Rel I L D) (hc : kc ≤ 601024) (hs : ks ≤ 7293034) (hk : ∀ I2 L2 D2, Rel I2 L2 D2 → aw_Z X 2048 601024 7293034 y_Law_law Q kc ks 1272 (lwL i) [] (aw_s I2 L2 D2)) : aw_Z X 2048 601024 7293034 y_Law_law Q kc ks 515 (lwL i) [] (aw_s I L D) := by
  refine s_Law_law_515.go (lwL i) [.int (nI i + (1 : Int32)), .ref 1005, .ref 0] (aw_s I L D) rfl ?_
  refine z_sald (law_vp 1 (by decide) hi hL) d_Law_law_521 ?_
  refine z_callV (d := 2047) (mc2 := 0) (ms2 := 0) (av := [.int (xa X i 1)]) (st := []) ok_AW_along (Or.inl w_1053) w_1054 w_1055 k_AW d_Law_law_522 rfl (aw_lt (o := 0) rfl) rfl rfl (Nat.le_of_ble_eq_true rfl) hc hs (pr_along h _ (fun r I1 L1 D1 hM => ?_))
  refine s_Law_law_525.go (lwL i) [.int (nI i + (1 : Int32)), .ref 1005, .ref 69, .int r] (aw_s I1 L1 D1) rfl ?_
  refine z_sald (law_vp 1 (by decide) hi hL) d_Law_law_531 ?_
  refine z_callV (d := 2047) (mc2 := 0) (ms2 := 0) (av := [.int (xa X i 1)]) (st := [.int r]) ok_M_along (Or.inl w_1983) w_1984 w_1985 k_M d_Law_law_532 rfl (aw_lt (o := 69) rfl) rfl rfl (Nat.le_of_ble_eq_true rfl) hc hs (hM _ (fun I2 L2 D2 h2 => ?_))
  exact z_icmp_eq (tgt := 1272) d_Law_law_535 rfl (fun _ => hk I2 L2 D2 h2) (fun q => absurd rfl q)

theorem lc_9 {X : aw_X} {Q : Option Value → aw_H → Prop} {I : Nat → Nat → Int32} {L : Nat → Nat → Int64} {D : Nat → Nat} {i kc ks : Nat} (hL : aw_xl X ≤ 3072) (hi : i + 6 ≤ aw_xl X) (h : Rel I L D) (hc : kc ≤ 601024) (hs : ks ≤ 7293034) (hk : ∀ I2 L2 D2, Rel I2 L2 D2 → aw_Z X 2048 601024 7293034 y_Law_law Q kc ks 1272 (lwL i) [] (aw_s I2 L2 D2)) : aw_Z X 2048 601024 7293034 y_Law_law Q kc ks 540 (lwL i) [] (aw_s I L D) := by
  refine s_Law_law_540.go (lwL i) [.int (nI i + (1 : Int32)), .ref 1005, .ref 0] (aw_s I L D) rfl ?_
  refine z_sald (law_vp 1 (by decide) hi hL) d_Law_law_546 ?_
  refine s_Law_law_547.go (lwL i) [.int (nI i + (2 : Int32)), .ref 1005, .int (xa X i 1), .ref 0] (aw_s I L D) rfl ?_
  refine z_sald (law_vp 2 (by decide) hi hL) d_Law_law_552 ?_
  refine z_callV (d := 2047) (mc2 := 0) (ms2 := 0) (av := [.int (xa X i 1), .int (xa X i 2)]) (st := []) ok_AW_least (Or.inl w_1065) w_1066 w_1067 k_AW d_Law_law_553 rfl (aw_lt (o := 0) rfl) rfl rfl (Nat.le_of_ble_eq_true rfl) hc hs (pr_least h _ (fun r I1 L1 D1 hM => ?_))
  refine s_Law_law_556.go (lwL i) [.int (nI i + (1 : Int32)), .ref 1005, .ref 69, .int r] (aw_s I1 L1 D1) rfl ?_
  refine z_sald (law_vp 1 (by decide) hi hL) d_Law_law_562 ?_
  refine s_Law_law_563.go (lwL i) [.int (nI i + (2 : Int32)), .ref 1005, .int (xa X i 1), .ref 69, .int r] (aw_s I1 L1 D1) rfl ?_
  refine z_sald (law_vp 2 (by decide) hi hL) d_Law_law_568 ?_
  refine z_callV (d := 2047) (mc2 := 0) (ms2 := 0) (av := [.int (xa X i 1), .int (xa X i 2)]) (st := [.int r]) ok_M_least (Or.inl w_1987) w_1988 w_1989 k_M d_Law_law_569 rfl (aw_lt (o := 69) rfl) rfl rfl (Nat.le_of_ble_eq_true rfl) hc hs (hM _ (fun I2 L2 D2 h2 => ?_))
  exact z_icmp_eq (tgt := 1272) d_Law_law_572 rfl (fun _ => hk I2 L2 D2 h2) (fun q => absurd rfl q)

theorem lc_10 {X : aw_X} {Q : Option Value → aw_H → Prop} {I : Nat → Nat → Int32} {L : Nat → Nat → Int64} {D : Nat → Nat} {i kc ks : Nat} (hL : aw_xl X ≤ 3072) (hi : i + 6 ≤ aw_xl X) (h : Rel I L D) (hc : kc ≤ 601024) (hs : ks ≤ 7293034) (hk : ∀ I2 L2 D2, Rel I2 L2 D2 → aw_Z X 2048 601024 7293034 y_Law_law Q kc ks 1272 (lwL i) [] (aw_s I2 L2 D2)) : aw_Z X 2048 601024 7293034 y_Law_law Q kc ks 577 (lwL i) [] (aw_s I L D) := by
  refine s_Law_law_577.go (lwL i) [.int (nI i + (1 : Int32)), .ref 1005, .ref 0] (aw_s I L D) rfl ?_
  refine z_sald (law_vp 1 (by decide) hi hL) d_Law_law_583 ?_
  refine s_Law_law_584.go (lwL i) [.int (nI i + (2 : Int32)), .ref 1005, .int (xa X i 1), .ref 0] (aw_s I L D) rfl ?_
  refine z_sald (law_vp 2 (by decide) hi hL) d_Law_law_589 ?_
  refine s_Law_law_590.go (lwL i) [.int (nI i + (3 : Int32)), .ref 1005, .int (xa X i 2), .int (xa X i 1), .ref 0] (aw_s I L D) rfl ?_
  refine z_sald (law_vp 3 (by decide) hi hL) d_Law_law_595 ?_
  refine z_callV (d := 2047) (mc2 := 0) (ms2 := 0) (av := [.int (xa X i 1), .int (xa X i 2), .int (xa X i 3)]) (st := []) ok_AW_may (Or.inl w_1076) w_1077 w_1078 k_AW d_Law_law_596 rfl (aw_lt (o := 0) rfl) rfl rfl (Nat.le_of_ble_eq_true rfl) hc hs (pr_may h _ (fun r I1 L1 D1 hM => ?_))
  refine s_Law_law_599.go (lwL i) [.int (nI i + (1 : Int32)), .ref 1005, .ref 69, .int r] (aw_s I1 L1 D1) rfl ?_
  refine z_sald (law_vp 1 (by decide) hi hL) d_Law_law_605 ?_
  refine s_Law_law_606.go (lwL i) [.int (nI i + (2 : Int32)), .ref 1005, .int (xa X i 1), .ref 69, .int r] (aw_s I1 L1 D1) rfl ?_
  refine z_sald (law_vp 2 (by decide) hi hL) d_Law_law_611 ?_
  refine s_Law_law_612.go (lwL i) [.int (nI i + (3 : Int32)), .ref 1005, .int (xa X i 2), .int (xa X i 1), .ref 69, .int r] (aw_s I1 L1 D1) rfl ?_
  refine z_sald (law_vp 3 (by decide) hi hL) d_Law_law_617 ?_
  refine z_callV (d := 2047) (mc2 := 0) (ms2 := 0) (av := [.int (xa X i 1), .int (xa X i 2), .int (xa X i 3)]) (st := [.int r]) ok_M_may (Or.inl w_1991) w_1992 w_1993 k_M d_Law_law_618 rfl (aw_lt (o := 69) rfl) rfl rfl (Nat.le_of_ble_eq_true rfl) hc hs (hM _ (fun I2 L2 D2 h2 => ?_))
  exact z_icmp_eq (tgt := 1272) d_Law_law_621 rfl (fun _ => hk I2 L2 D2 h2) (fun q => absurd rfl q)

theorem lc_11 {X : aw_X} {Q : Option Value → aw_H → Prop} {I : Nat → Nat → Int32} {L : Nat → Nat → Int64} {D : Nat → Nat} {i kc ks : Nat} (hL : aw_xl X ≤ 3072) (hi : i + 6 ≤ aw_xl X) (h : Rel I L D) (hc : kc ≤ 601024) (hs : ks ≤ 7293034) (hk : ∀ I2 L2 D2, Rel I2 L2 D2 → aw_Z X 2048 601024 7293034 y_Law_law Q kc ks 1272 (lwL i) [] (aw_s I2 L2 D2)) : aw_Z X 2048 601024 7293034 y_Law_law Q kc ks 626 (lwL i) [] (aw_s I L D) := by
  refine s_Law_law_626.go (lwL i) [.int (nI i + (1 : Int32)), .ref 1005, .ref 0] (aw_s I L D) rfl ?_
  refine z_sald (law_vp 1 (by decide) hi hL) d_Law_law_632 ?_
  refine s_Law_law_633.go (lwL i) [.int (nI i + (2 : Int32)), .ref 1005, .int (xa X i 1), .ref 0] (aw_s I L D) rfl ?_
  refine z_sald (law_vp 2 (by decide) hi hL) d_Law_law_638 ?_
  refine s_Law_law_639.go (lwL i) [.int (nI i + (3 : Int32)), .ref 1005, .int (xa X i 2), .int (xa X i 1), .ref 0] (aw_s I L D) rfl ?_
  refine z_sald (law_vp 3 (by decide) hi hL) d_Law_law_644 ?_
  refine s_Law_law_645.go (lwL i) [.int (nI i + (4 : Int32)), .ref 1005, .int (xa X i 3), .int (xa X i 2), .int (xa X i 1), .ref 0] (aw_s I L D) rfl ?_
  refine z_sald (law_vp 4 (by decide) hi hL) d_Law_law_650 ?_
  refine z_callV (d := 2047) (mc2 := 0) (ms2 := 0) (av := [.int (xa X i 1), .int (xa X i 2), .int (xa X i 3), .int (xa X i 4)]) (st := []) ok_AW_law (Or.inl w_1110) w_1111 w_1112 k_AW d_Law_law_651 rfl (aw_lt (o := 0) rfl) rfl rfl (Nat.le_of_ble_eq_true rfl) hc hs (pr_law h _ (fun r I1 L1 D1 hM => ?_))
  refine s_Law_law_654.go (lwL i) [.int (nI i + (1 : Int32)), .ref 1005, .ref 69, .int r] (aw_s I1 L1 D1) rfl ?_
  refine z_sald (law_vp 1 (by decide) hi hL) d_Law_law_660 ?_
  refine s_Law_law_661.go (lwL i) [.int (nI i + (2 : Int32)), .ref 1005, .int (xa X i 1), .ref 69, .int r] (aw_s I1 L1 D1) rfl ?_
  refine z_sald (law_vp 2 (by decide) hi hL) d_Law_law_666 ?_
  refine s_Law_law_667.go (lwL i) [.int (nI i + (3 : Int32)), .ref 1005, .int (xa X i 2), .int (xa X i 1), .ref 69, .int r] (aw_s I1 L1 D1) rfl ?_
  refine z_sald (law_vp 3 (by decide) hi hL) d_Law_law_672 ?_
  refine s_Law_law_673.go (lwL i) [.int (nI i + (4 : Int32)), .ref 1005, .int (xa X i 3), .int (xa X i 2), .int (xa X i 1), .ref 69, .int r] (aw_s I1 L1 D1) rfl ?_
  refine z_sald (law_vp 4 (by decide) hi hL) d_Law_law_678 ?_
  refine z_callV (d := 2047) (mc2 := 0) (ms2 := 0) (av := [.int (xa X i 1), .int (xa X i 2), .int (xa X i 3), .int (xa X i 4)]) (st := [.int r]) ok_M_law (Or.inl w_1999) w_2000 w_2001 k_M d_Law_law_679 rfl (aw_lt (o := 69) rfl) rfl rfl (Nat.le_of_ble_eq_true rfl) hc hs (hM _ (fun I2 L2 D2 h2 => ?_))
  exact z_icmp_eq (tgt := 1272) d_Law_law_682 rfl (fun _ => hk I2 L2 D2 h2) (fun q => absurd rfl q)

theorem lc_12 {X : aw_X} {Q : Option Value → aw_H → Prop} {I : Nat → Nat → Int32} {L : Nat → Nat → Int64} {D : Nat → Nat} {i kc ks : Nat} (hL : aw_xl X ≤ 3072) (hi : i + 6 ≤ aw_xl X) (h : Rel I L D) (hc : kc ≤ 601024) (hs : ks ≤ 7293034) (hk : ∀ I2 L2 D2, Rel I2 L2 D2 → aw_Z X 2048 601024 7293034 y_Law_law Q kc ks 1272 (lwL i) [] (aw_s I2 L2 D2)) : aw_Z X 2048 601024 7293034 y_Law_law Q kc ks 687 (lwL i) [] (aw_s I L D) := by
  refine s_Law_law_687.go (lwL i) [.ref 0] (aw_s I L D) rfl ?_
  refine z_callV (d := 2047) (mc2 := 0) (ms2 := 0) (av := []) (st := []) ok_AW_cover (Or.inl w_1127) w_1128 w_1129 k_AW d_Law_law_688 rfl (aw_lt (o := 0) rfl) rfl rfl (Nat.le_of_ble_eq_true rfl) hc hs (pr_cover h _ (fun r I1 L1 D1 hM => ?_))
  refine s_Law_law_691.go (lwL i) [.ref 69, .int r] (aw_s I1 L1 D1) rfl ?_
  refine z_callV (d := 2047) (mc2 := 0) (ms2 := 0) (av := []) (st := [.int r]) ok_M_cover (Or.inl w_2023) w_2024 w_2025 k_M d_Law_law_692 rfl (aw_lt (o := 69) rfl) rfl rfl (Nat.le_of_ble_eq_true rfl) hc hs (hM _ (fun I2 L2 D2 h2 => ?_))
  exact z_icmp_eq (tgt := 1272) d_Law_law_695 rfl (fun _ => hk I2 L2 D2 h2) (fun q => absurd rfl q)

theorem lc_13 {X : aw_X} {Q : Option Value → aw_H → Prop} {I : Nat → Nat → Int32} {L : Nat → Nat → Int64} {D : Nat → Nat} {i kc ks : Nat} (hL : aw_xl X ≤ 3072) (hi : i + 6 ≤ aw_xl X) (h : Rel I L D) (hc : kc ≤ 601024) (hs : ks ≤ 7293034) (hk : ∀ I2 L2 D2, Rel I2 L2 D2 → aw_Z X 2048 601024 7293034 y_Law_law Q kc ks 1272 (lwL i) [] (aw_s I2 L2 D2)) : aw_Z X 2048 601024 7293034 y_Law_law Q kc ks 700 (lwL i) [] (aw_s I L D) := by
  refine s_Law_law_700.go (lwL i) [.int (nI i + (1 : Int32)), .ref 1005, .ref 0] (aw_s I L D) rfl ?_
  refine z_sald (law_vp 1 (by decide) hi hL) d_Law_law_706 ?_
  refine z_callV (d := 2047) (mc2 := 0) (ms2 := 0) (av := [.int (xa X i 1)]) (st := []) ok_AW_coverAt (Or.inl w_1147) w_1148 w_1149 k_AW d_Law_law_707 rfl (aw_lt (o := 0) rfl) rfl rfl (Nat.le_of_ble_eq_true rfl) hc hs (pr_coverAt h _ (fun r I1 L1 D1 hM => ?_))
  refine s_Law_law_710.go (lwL i) [.int (nI i + (1 : Int32)), .ref 1005, .ref 69, .int r] (aw_s I1 L1 D1) rfl ?_
  refine z_sald (law_vp 1 (by decide) hi hL) d_Law_law_716 ?_
  refine z_callV (d := 2047) (mc2 := 0) (ms2 := 0) (av := [.int (xa X i 1)]) (st := [.int r]) ok_M_coverAt (Or.inl w_2027) w_2028 w_2029 k_M d_Law_law_717 rfl (aw_lt (o := 69) rfl) rfl rfl (Nat.le_of_ble_eq_true rfl) hc hs (hM _ (fun I2 L2 D2 h2 => ?_))
  exact z_icmp_eq (tgt := 1272) d_Law_law_720 rfl (fun _ => hk I2 L2 D2 h2) (fun q => absurd rfl q)

theorem lc_14 {X : aw_X} {Q : Option Value → aw_H → Prop} {I : Nat → Nat → Int32} {L : Nat → Nat → Int64} {D : Nat → Nat} {i kc ks : Nat} (hL : aw_xl X ≤ 3072) (hi : i + 6 ≤ aw_xl X) (h : Rel I L D) (hc : kc ≤ 601024) (hs : ks ≤ 7293034) (hk : ∀ I2 L2 D2, Rel I2 L2 D2 → aw_Z X 2048 601024 7293034 y_Law_law Q kc ks 1272 (lwL i) [] (aw_s I2 L2 D2)) : aw_Z X 2048 601024 7293034 y_Law_law Q kc ks 725 (lwL i) [] (aw_s I L D) := by
  refine s_Law_law_725.go (lwL i) [.int (nI i + (1 : Int32)), .ref 1005, .ref 0] (aw_s I L D) rfl ?_
  refine z_sald (law_vp 1 (by decide) hi hL) d_Law_law_731 ?_
  refine s_Law_law_732.go (lwL i) [.int (nI i + (2 : Int32)), .ref 1005, .int (xa X i 1), .ref 0] (aw_s I L D) rfl ?_
  refine z_sald (law_vp 2 (by decide) hi hL) d_Law_law_737 ?_
  refine s_Law_law_738.go (lwL i) [.int (nI i + (3 : Int32)), .ref 1005, .int (xa X i 2), .int (xa X i 1), .ref 0] (aw_s I L D) rfl ?_
  refine z_sald (law_vp 3 (by decide) hi hL) d_Law_law_743 ?_
  refine z_callV (d := 2047) (mc2 := 0) (ms2 := 0) (av := [.int (xa X i 1), .int (xa X i 2), .int (xa X i 3)]) (st := []) ok_AW_alike (Or.inl w_1151) w_1152 w_1153 k_AW d_Law_law_744 rfl (aw_lt (o := 0) rfl) rfl rfl (Nat.le_of_ble_eq_true rfl) hc hs (pr_alike h _ (fun r I1 L1 D1 hM => ?_))
  refine s_Law_law_747.go (lwL i) [.int (nI i + (1 : Int32)), .ref 1005, .ref 69, .int r] (aw_s I1 L1 D1) rfl ?_
  refine z_sald (law_vp 1 (by decide) hi hL) d_Law_law_753 ?_
  refine s_Law_law_754.go (lwL i) [.int (nI i + (2 : Int32)), .ref 1005, .int (xa X i 1), .ref 69, .int r] (aw_s I1 L1 D1) rfl ?_
  refine z_sald (law_vp 2 (by decide) hi hL) d_Law_law_759 ?_
  refine s_Law_law_760.go (lwL i) [.int (nI i + (3 : Int32)), .ref 1005, .int (xa X i 2), .int (xa X i 1), .ref 69, .int r] (aw_s I1 L1 D1) rfl ?_
  refine z_sald (law_vp 3 (by decide) hi hL) d_Law_law_765 ?_
  refine z_callV (d := 2047) (mc2 := 0) (ms2 := 0) (av := [.int (xa X i 1), .int (xa X i 2), .int (xa X i 3)]) (st := [.int r]) ok_M_alike (Or.inl w_2031) w_2032 w_2033 k_M d_Law_law_766 rfl (aw_lt (o := 69) rfl) rfl rfl (Nat.le_of_ble_eq_true rfl) hc hs (hM _ (fun I2 L2 D2 h2 => ?_))
  exact z_icmp_eq (tgt := 1272) d_Law_law_769 rfl (fun _ => hk I2 L2 D2 h2) (fun q => absurd rfl q)

theorem lc_15 {X : aw_X} {Q : Option Value → aw_H → Prop} {I : Nat → Nat → Int32} {L : Nat → Nat → Int64} {D : Nat → Nat} {i kc ks : Nat} (hL : aw_xl X ≤ 3072) (hi : i + 6 ≤ aw_xl X) (h : Rel I L D) (hc : kc ≤ 601024) (hs : ks ≤ 7293034) (hk : ∀ I2 L2 D2, Rel I2 L2 D2 → aw_Z X 2048 601024 7293034 y_Law_law Q kc ks 1272 (lwL i) [] (aw_s I2 L2 D2)) : aw_Z X 2048 601024 7293034 y_Law_law Q kc ks 774 (lwL i) [] (aw_s I L D) := by
  refine s_Law_law_774.go (lwL i) [.int (nI i + (1 : Int32)), .ref 1005, .ref 0] (aw_s I L D) rfl ?_
  refine z_sald (law_vp 1 (by decide) hi hL) d_Law_law_780 ?_
  refine s_Law_law_781.go (lwL i) [.int (nI i + (2 : Int32)), .ref 1005, .int (xa X i 1), .ref 0] (aw_s I L D) rfl ?_
  refine z_sald (law_vp 2 (by decide) hi hL) d_Law_law_786 ?_
  refine z_callV (d := 2047) (mc2 := 0) (ms2 := 0) (av := [.int (xa X i 1), .int (xa X i 2)]) (st := []) ok_AW_safe (Or.inl w_1159) w_1160 w_1161 k_AW d_Law_law_787 rfl (aw_lt (o := 0) rfl) rfl rfl (Nat.le_of_ble_eq_true rfl) hc hs (pr_safe h _ (fun r I1 L1 D1 hM => ?_))
  refine s_Law_law_790.go (lwL i) [.int (nI i + (1 : Int32)), .ref 1005, .ref 69, .int r] (aw_s I1 L1 D1) rfl ?_
  refine z_sald (law_vp 1 (by decide) hi hL) d_Law_law_796 ?_
  refine s_Law_law_797.go (lwL i) [.int (nI i + (2 : Int32)), .ref 1005, .int (xa X i 1), .ref 69, .int r] (aw_s I1 L1 D1) rfl ?_
  refine z_sald (law_vp 2 (by decide) hi hL) d_Law_law_802 ?_
  refine z_callV (d := 2047) (mc2 := 0) (ms2 := 0) (av := [.int (xa X i 1), .int (xa X i 2)]) (st := [.int r]) ok_M_safe (Or.inl w_2047) w_2048 w_2049 k_M d_Law_law_803 rfl (aw_lt (o := 69) rfl) rfl rfl (Nat.le_of_ble_eq_true rfl) hc hs (hM _ (fun I2 L2 D2 h2 => ?_))
  exact z_icmp_eq (tgt := 1272) d_Law_law_806 rfl (fun _ => hk I2 L2 D2 h2) (fun q => absurd rfl q)

theorem lc_16 {X : aw_X} {Q : Option Value → aw_H → Prop} {I : Nat → Nat → Int32} {L : Nat → Nat → Int64} {D : Nat → Nat} {i kc ks : Nat} (hL : aw_xl X ≤ 3072) (hi : i + 6 ≤ aw_xl X) (h : Rel I L D) (hc : kc ≤ 601024) (hs : ks ≤ 7293034) (hk : ∀ I2 L2 D2, Rel I2 L2 D2 → aw_Z X 2048 601024 7293034 y_Law_law Q kc ks 1272 (lwL i) [] (aw_s I2 L2 D2)) : aw_Z X 2048 601024 7293034 y_Law_law Q kc ks 811 (lwL i) [] (aw_s I L D) := by
  refine s_Law_law_811.go (lwL i) [.ref 0] (aw_s I L D) rfl ?_
  refine z_callV (d := 2047) (mc2 := 0) (ms2 := 0) (av := []) (st := []) ok_AW_unsafe (Or.inl w_1179) w_1180 w_1181 k_AW d_Law_law_812 rfl (aw_lt (o := 0) rfl) rfl rfl (Nat.le_of_ble_eq_true rfl) hc hs (pr_us h _ (fun r I1 L1 D1 hM => ?_))
  refine s_Law_law_815.go (lwL i) [.ref 69, .int r] (aw_s I1 L1 D1) rfl ?_
  refine z_callV (d := 2047) (mc2 := 0) (ms2 := 0) (av := []) (st := [.int r]) ok_M_unsafe (Or.inl w_2054) w_2055 w_2056 k_M d_Law_law_816 rfl (aw_lt (o := 69) rfl) rfl rfl (Nat.le_of_ble_eq_true rfl) hc hs (hM _ (fun I2 L2 D2 h2 => ?_))
  exact z_icmp_eq (tgt := 1272) d_Law_law_819 rfl (fun _ => hk I2 L2 D2 h2) (fun q => absurd rfl q)

theorem lc_17 {X : aw_X} {Q : Option Value → aw_H → Prop} {I : Nat → Nat → Int32} {L : Nat → Nat → Int64} {D : Nat → Nat} {i kc ks : Nat} (hL : aw_xl X ≤ 3072) (hi : i + 6 ≤ aw_xl X) (h : Rel I L D) (hc : kc ≤ 601024) (hs : ks ≤ 7293034) (hk : ∀ I2 L2 D2, Rel I2 L2 D2 → aw_Z X 2048 601024 7293034 y_Law_law Q kc ks 1272 (lwL i) [] (aw_s I2 L2 D2)) : aw_Z X 2048 601024 7293034 y_Law_law Q kc ks 824 (lwL i) [] (aw_s I L D) := by
  refine s_Law_law_824.go (lwL i) [.int (nI i + (1 : Int32)), .ref 1005, .ref 0] (aw_s I L D) rfl ?_
  refine z_sald (law_vp 1 (by decide) hi hL) d_Law_law_830 ?_
  refine s_Law_law_831.go (lwL i) [.int (nI i + (2 : Int32)), .ref 1005, .int (xa X i 1), .ref 0] (aw_s I L D) rfl ?_
  refine z_sald (law_vp 2 (by decide) hi hL) d_Law_law_836 ?_
  refine z_callV (d := 2047) (mc2 := 0) (ms2 := 0) (av := [.int (xa X i 1), .int (xa X i 2)]) (st := []) ok_AW_rule (Or.inl w_1183) w_1184 w_1185 k_AW d_Law_law_837 rfl (aw_lt (o := 0) rfl) rfl rfl (Nat.le_of_ble_eq_true rfl) hc hs (pr_rule h _ (fun r I1 L1 D1 hM => ?_))
  refine s_Law_law_840.go (lwL i) [.int (nI i + (1 : Int32)), .ref 1005, .ref 69, .int r] (aw_s I1 L1 D1) rfl ?_
  refine z_sald (law_vp 1 (by decide) hi hL) d_Law_law_846 ?_
  refine s_Law_law_847.go (lwL i) [.int (nI i + (2 : Int32)), .ref 1005, .int (xa X i 1), .ref 69, .int r] (aw_s I1 L1 D1) rfl ?_
  refine z_sald (law_vp 2 (by decide) hi hL) d_Law_law_852 ?_
  refine z_callV (d := 2047) (mc2 := 0) (ms2 := 0) (av := [.int (xa X i 1), .int (xa X i 2)]) (st := [.int r]) ok_M_rule (Or.inl w_2058) w_2059 w_2060 k_M d_Law_law_853 rfl (aw_lt (o := 69) rfl) rfl rfl (Nat.le_of_ble_eq_true rfl) hc hs (hM _ (fun I2 L2 D2 h2 => ?_))
  exact z_icmp_eq (tgt := 1272) d_Law_law_856 rfl (fun _ => hk I2 L2 D2 h2) (fun q => absurd rfl q)

theorem lc_18 {X : aw_X} {Q : Option Value → aw_H → Prop} {I : Nat → Nat → Int32} {L : Nat → Nat → Int64} {D : Nat → Nat} {i kc ks : Nat} (hL : aw_xl X ≤ 3072) (hi : i + 6 ≤ aw_xl X) (h : Rel I L D) (hc : kc ≤ 601024) (hs : ks ≤ 7293034) (hk : ∀ I2 L2 D2, Rel I2 L2 D2 → aw_Z X 2048 601024 7293034 y_Law_law Q kc ks 1272 (lwL i) [] (aw_s I2 L2 D2)) : aw_Z X 2048 601024 7293034 y_Law_law Q kc ks 861 (lwL i) [] (aw_s I L D) := by
  refine s_Law_law_861.go (lwL i) [.int (nI i + (1 : Int32)), .ref 1005, .ref 0] (aw_s I L D) rfl ?_
  refine z_sald (law_vp 1 (by decide) hi hL) d_Law_law_867 ?_
  refine s_Law_law_868.go (lwL i) [.int (nI i + (2 : Int32)), .ref 1005, .int (xa X i 1), .ref 0] (aw_s I L D) rfl ?_
  refine z_sald (law_vp 2 (by decide) hi hL) d_Law_law_873 ?_
  refine z_callV (d := 2047) (mc2 := 0) (ms2 := 0) (av := [.int (xa X i 1), .int (xa X i 2)]) (st := []) ok_AW_rounds (Or.inl w_1192) w_1193 w_1194 k_AW d_Law_law_874 rfl (aw_lt (o := 0) rfl) rfl rfl (Nat.le_of_ble_eq_true rfl) hc hs (pr_rounds h _ (fun r I1 L1 D1 hM => ?_))
  refine s_Law_law_877.go (lwL i) [.int (nI i + (1 : Int32)), .ref 1005, .ref 69, .int r] (aw_s I1 L1 D1) rfl ?_
  refine z_sald (law_vp 1 (by decide) hi hL) d_Law_law_883 ?_
  refine s_Law_law_884.go (lwL i) [.int (nI i + (2 : Int32)), .ref 1005, .int (xa X i 1), .ref 69, .int r] (aw_s I1 L1 D1) rfl ?_
  refine z_sald (law_vp 2 (by decide) hi hL) d_Law_law_889 ?_
  refine z_callV (d := 2047) (mc2 := 0) (ms2 := 0) (av := [.int (xa X i 1), .int (xa X i 2)]) (st := [.int r]) ok_M_rounds (Or.inl w_2019) w_2020 w_2021 k_M d_Law_law_890 rfl (aw_lt (o := 69) rfl) rfl rfl (Nat.le_of_ble_eq_true rfl) hc hs (hM _ (fun I2 L2 D2 h2 => ?_))
  exact z_icmp_eq (tgt := 1272) d_Law_law_893 rfl (fun _ => hk I2 L2 D2 h2) (fun q => absurd rfl q)

theorem lc_19 {X : aw_X} {Q : Option Value → aw_H → Prop} {I : Nat → Nat → Int32} {L : Nat → Nat → Int64} {D : Nat → Nat} {i kc ks : Nat} (hL : aw_xl X ≤ 3072) (hi : i + 6 ≤ aw_xl X) (h : Rel I L D) (hc : kc ≤ 601024) (hs : ks ≤ 7293034) (hk : ∀ I2 L2 D2, Rel I2 L2 D2 → aw_Z X 2048 601024 7293034 y_Law_law Q kc ks 1272 (lwL i) [] (aw_s I2 L2 D2)) : aw_Z X 2048 601024 7293034 y_Law_law Q kc ks 898 (lwL i) [] (aw_s I L D) := by
  refine s_Law_law_898.go (lwL i) [.int (nI i + (1 : Int32)), .ref 1005, .ref 0] (aw_s I L D) rfl ?_
  refine z_sald (law_vp 1 (by decide) hi hL) d_Law_law_904 ?_
  refine z_callV (d := 2047) (mc2 := 0) (ms2 := 0) (av := [.int (xa X i 1)]) (st := []) ok_AW_laws (Or.inl w_1204) w_1205 w_1206 k_AW d_Law_law_905 rfl (aw_lt (o := 0) rfl) rfl rfl (Nat.le_of_ble_eq_true rfl) hc hs (pr_laws h _ (fun r I1 L1 D1 hM => ?_))
  refine s_Law_law_908.go (lwL i) [.int (nI i + (1 : Int32)), .ref 1005, .ref 69, .int r] (aw_s I1 L1 D1) rfl ?_
  refine z_sald (law_vp 1 (by decide) hi hL) d_Law_law_914 ?_
  refine z_callV (d := 2047) (mc2 := 0) (ms2 := 0) (av := [.int (xa X i 1)]) (st := [.int r]) ok_M_laws (Or.inl w_2011) w_2012 w_2013 k_M d_Law_law_915 rfl (aw_lt (o := 69) rfl) rfl rfl (Nat.le_of_ble_eq_true rfl) hc hs (hM _ (fun I2 L2 D2 h2 => ?_))
  exact z_icmp_eq (tgt := 1272) d_Law_law_918 rfl (fun _ => hk I2 L2 D2 h2) (fun q => absurd rfl q)

theorem lc_20 {X : aw_X} {Q : Option Value → aw_H → Prop} {I : Nat → Nat → Int32} {L : Nat → Nat → Int64} {D : Nat → Nat} {i kc ks : Nat} (hL : aw_xl X ≤ 3072) (hi : i + 6 ≤ aw_xl X) (h : Rel I L D) (hc : kc ≤ 601024) (hs : ks ≤ 7293034) (hk : ∀ I2 L2 D2, Rel I2 L2 D2 → aw_Z X 2048 601024 7293034 y_Law_law Q kc ks 1272 (lwL i) [] (aw_s I2 L2 D2)) : aw_Z X 2048 601024 7293034 y_Law_law Q kc ks 923 (lwL i) [] (aw_s I L D) := by
  refine s_Law_law_923.go (lwL i) [.int (nI i + (1 : Int32)), .ref 1005, .ref 0] (aw_s I L D) rfl ?_
  refine z_sald (law_vp 1 (by decide) hi hL) d_Law_law_929 ?_
  refine z_callV (d := 2047) (mc2 := 0) (ms2 := 0) (av := [.int (xa X i 1)]) (st := []) ok_AW_lawAt (Or.inl w_1212) w_1213 w_1214 k_AW d_Law_law_930 rfl (aw_lt (o := 0) rfl) rfl rfl (Nat.le_of_ble_eq_true rfl) hc hs (pr_lawAt h _ (fun r I1 L1 D1 hM => ?_))
  refine s_Law_law_933.go (lwL i) [.int (nI i + (1 : Int32)), .ref 1005, .ref 69, .int r] (aw_s I1 L1 D1) rfl ?_
  refine z_sald (law_vp 1 (by decide) hi hL) d_Law_law_939 ?_
  refine z_callV (d := 2047) (mc2 := 0) (ms2 := 0) (av := [.int (xa X i 1)]) (st := [.int r]) ok_M_lawAt (Or.inl w_2015) w_2016 w_2017 k_M d_Law_law_940 rfl (aw_lt (o := 69) rfl) rfl rfl (Nat.le_of_ble_eq_true rfl) hc hs (hM _ (fun I2 L2 D2 h2 => ?_))
  exact z_icmp_eq (tgt := 1272) d_Law_law_943 rfl (fun _ => hk I2 L2 D2 h2) (fun q => absurd rfl q)

theorem lc_21 {X : aw_X} {Q : Option Value → aw_H → Prop} {I : Nat → Nat → Int32} {L : Nat → Nat → Int64} {D : Nat → Nat} {i kc ks : Nat} (hL : aw_xl X ≤ 3072) (hi : i + 6 ≤ aw_xl X) (h : Rel I L D) (hc : kc ≤ 601024) (hs : ks ≤ 7293034) (hk : ∀ I2 L2 D2, Rel I2 L2 D2 → aw_Z X 2048 601024 7293034 y_Law_law Q kc ks 1272 (lwL i) [] (aw_s I2 L2 D2)) : aw_Z X 2048 601024 7293034 y_Law_law Q kc ks 948 (lwL i) [] (aw_s I L D) := by
  refine s_Law_law_948.go (lwL i) [.int (nI i + (1 : Int32)), .ref 1005, .ref 0] (aw_s I L D) rfl ?_
  refine z_sald (law_vp 1 (by decide) hi hL) d_Law_law_954 ?_
  refine s_Law_law_955.go (lwL i) [.int (nI i + (2 : Int32)), .ref 1005, .int (xa X i 1), .ref 0] (aw_s I L D) rfl ?_
  refine z_sald (law_vp 2 (by decide) hi hL) d_Law_law_960 ?_
  refine s_Law_law_961.go (lwL i) [.int (nI i + (3 : Int32)), .ref 1005, .int (xa X i 2), .int (xa X i 1), .ref 0] (aw_s I L D) rfl ?_
  refine z_sald (law_vp 3 (by decide) hi hL) d_Law_law_966 ?_
  refine z_callV (d := 2047) (mc2 := 0) (ms2 := 0) (av := [.int (xa X i 1), .int (xa X i 2), .int (xa X i 3)]) (st := []) ok_AW_hangs (Or.inl w_1216) w_1217 w_1218 k_AW d_Law_law_967 rfl (aw_lt (o := 0) rfl) rfl rfl (Nat.le_of_ble_eq_true rfl) hc hs (pr_hangs h _ (fun r I1 L1 D1 hM => ?_))
  refine s_Law_law_970.go (lwL i) [.int (nI i + (1 : Int32)), .ref 1005, .ref 69, .int r] (aw_s I1 L1 D1) rfl ?_
  refine z_sald (law_vp 1 (by decide) hi hL) d_Law_law_976 ?_
  refine s_Law_law_977.go (lwL i) [.int (nI i + (2 : Int32)), .ref 1005, .int (xa X i 1), .ref 69, .int r] (aw_s I1 L1 D1) rfl ?_
  refine z_sald (law_vp 2 (by decide) hi hL) d_Law_law_982 ?_
  refine s_Law_law_983.go (lwL i) [.int (nI i + (3 : Int32)), .ref 1005, .int (xa X i 2), .int (xa X i 1), .ref 69, .int r] (aw_s I1 L1 D1) rfl ?_
  refine z_sald (law_vp 3 (by decide) hi hL) d_Law_law_988 ?_
  refine z_callV (d := 2047) (mc2 := 0) (ms2 := 0) (av := [.int (xa X i 1), .int (xa X i 2), .int (xa X i 3)]) (st := [.int r]) ok_M_hangs (Or.inl w_2043) w_2044 w_2045 k_M d_Law_law_989 rfl (aw_lt (o := 69) rfl) rfl rfl (Nat.le_of_ble_eq_true rfl) hc hs (hM _ (fun I2 L2 D2 h2 => ?_))
  exact z_icmp_eq (tgt := 1272) d_Law_law_992 rfl (fun _ => hk I2 L2 D2 h2) (fun q => absurd rfl q)

theorem lc_22 {X : aw_X} {Q : Option Value → aw_H → Prop} {I : Nat → Nat → Int32} {L : Nat → Nat → Int64} {D : Nat → Nat} {i kc ks : Nat} (hL : aw_xl X ≤ 3072) (hi : i + 6 ≤ aw_xl X) (h : Rel I L D) (hc : kc ≤ 601024) (hs : ks ≤ 7293034) (hk : ∀ I2 L2 D2, Rel I2 L2 D2 → aw_Z X 2048 601024 7293034 y_Law_law Q kc ks 1272 (lwL i) [] (aw_s I2 L2 D2)) : aw_Z X 2048 601024 7293034 y_Law_law Q kc ks 997 (lwL i) [] (aw_s I L D) := by
  refine s_Law_law_997.go (lwL i) [.int (nI i + (1 : Int32)), .ref 1005, .ref 0] (aw_s I L D) rfl ?_
  refine z_sald (law_vp 1 (by decide) hi hL) d_Law_law_1003 ?_
  refine s_Law_law_1004.go (lwL i) [.int (nI i + (2 : Int32)), .ref 1005, .int (xa X i 1), .ref 0] (aw_s I L D) rfl ?_
  refine z_sald (law_vp 2 (by decide) hi hL) d_Law_law_1009 ?_
  refine s_Law_law_1010.go (lwL i) [.int (nI i + (3 : Int32)), .ref 1005, .int (xa X i 2), .int (xa X i 1), .ref 0] (aw_s I L D) rfl ?_
  refine z_sald (law_vp 3 (by decide) hi hL) d_Law_law_1015 ?_
  refine z_callV (d := 2047) (mc2 := 0) (ms2 := 0) (av := [.int (xa X i 1), .int (xa X i 2), .int (xa X i 3)]) (st := []) ok_AW_reach (Or.inl w_1224) w_1225 w_1226 k_AW d_Law_law_1016 rfl (aw_lt (o := 0) rfl) rfl rfl (Nat.le_of_ble_eq_true rfl) hc hs (pr_reach h _ (fun r I1 L1 D1 hM => ?_))
  refine s_Law_law_1019.go (lwL i) [.int (nI i + (1 : Int32)), .ref 1005, .ref 69, .int r] (aw_s I1 L1 D1) rfl ?_
  refine z_sald (law_vp 1 (by decide) hi hL) d_Law_law_1025 ?_
  refine s_Law_law_1026.go (lwL i) [.int (nI i + (2 : Int32)), .ref 1005, .int (xa X i 1), .ref 69, .int r] (aw_s I1 L1 D1) rfl ?_
  refine z_sald (law_vp 2 (by decide) hi hL) d_Law_law_1031 ?_
  refine s_Law_law_1032.go (lwL i) [.int (nI i + (3 : Int32)), .ref 1005, .int (xa X i 2), .int (xa X i 1), .ref 69, .int r] (aw_s I1 L1 D1) rfl ?_
  refine z_sald (law_vp 3 (by decide) hi hL) d_Law_law_1037 ?_
  refine z_callV (d := 2047) (mc2 := 0) (ms2 := 0) (av := [.int (xa X i 1), .int (xa X i 2), .int (xa X i 3)]) (st := [.int r]) ok_M_reach (Or.inl w_2039) w_2040 w_2041 k_M d_Law_law_1038 rfl (aw_lt (o := 69) rfl) rfl rfl (Nat.le_of_ble_eq_true rfl) hc hs (hM _ (fun I2 L2 D2 h2 => ?_))
  exact z_icmp_eq (tgt := 1272) d_Law_law_1041 rfl (fun _ => hk I2 L2 D2 h2) (fun q => absurd rfl q)

theorem lc_23 {X : aw_X} {Q : Option Value → aw_H → Prop} {I : Nat → Nat → Int32} {L : Nat → Nat → Int64} {D : Nat → Nat} {i kc ks : Nat} (hL : aw_xl X ≤ 3072) (hi : i + 6 ≤ aw_xl X) (h : Rel I L D) (hc : kc ≤ 601024) (hs : ks ≤ 7293034) (hk : ∀ I2 L2 D2, Rel I2 L2 D2 → aw_Z X 2048 601024 7293034 y_Law_law Q kc ks 1272 (lwL i) [] (aw_s I2 L2 D2)) : aw_Z X 2048 601024 7293034 y_Law_law Q kc ks 1046 (lwL i) [] (aw_s I L D) := by
  refine s_Law_law_1046.go (lwL i) [.int (nI i + (1 : Int32)), .ref 1005, .ref 0] (aw_s I L D) rfl ?_
  refine z_sald (law_vp 1 (by decide) hi hL) d_Law_law_1052 ?_
  refine s_Law_law_1053.go (lwL i) [.int (nI i + (2 : Int32)), .ref 1005, .int (xa X i 1), .ref 0] (aw_s I L D) rfl ?_
  refine z_sald (law_vp 2 (by decide) hi hL) d_Law_law_1058 ?_
  refine z_callV (d := 2047) (mc2 := 0) (ms2 := 0) (av := [.int (xa X i 1), .int (xa X i 2)]) (st := []) ok_AW_mend (Or.inl w_1228) w_1229 w_1230 k_AW d_Law_law_1059 rfl (aw_lt (o := 0) rfl) rfl rfl (Nat.le_of_ble_eq_true rfl) hc hs (pr_mend h _ (fun r I1 L1 D1 hM => ?_))
  refine s_Law_law_1062.go (lwL i) [.int (nI i + (1 : Int32)), .ref 1005, .ref 69, .int r] (aw_s I1 L1 D1) rfl ?_
  refine z_sald (law_vp 1 (by decide) hi hL) d_Law_law_1068 ?_
  refine s_Law_law_1069.go (lwL i) [.int (nI i + (2 : Int32)), .ref 1005, .int (xa X i 1), .ref 69, .int r] (aw_s I1 L1 D1) rfl ?_
  refine z_sald (law_vp 2 (by decide) hi hL) d_Law_law_1074 ?_
  refine z_callV (d := 2047) (mc2 := 0) (ms2 := 0) (av := [.int (xa X i 1), .int (xa X i 2)]) (st := [.int r]) ok_M_mend (Or.inl w_2062) w_2063 w_2064 k_M d_Law_law_1075 rfl (aw_lt (o := 69) rfl) rfl rfl (Nat.le_of_ble_eq_true rfl) hc hs (hM _ (fun I2 L2 D2 h2 => ?_))
  exact z_icmp_eq (tgt := 1272) d_Law_law_1078 rfl (fun _ => hk I2 L2 D2 h2) (fun q => absurd rfl q)

theorem lc_24 {X : aw_X} {Q : Option Value → aw_H → Prop} {I : Nat → Nat → Int32} {L : Nat → Nat → Int64} {D : Nat → Nat} {i kc ks : Nat} (hL : aw_xl X ≤ 3072) (hi : i + 6 ≤ aw_xl X) (h : Rel I L D) (hc : kc ≤ 601024) (hs : ks ≤ 7293034) (hk : ∀ I2 L2 D2, Rel I2 L2 D2 → aw_Z X 2048 601024 7293034 y_Law_law Q kc ks 1272 (lwL i) [] (aw_s I2 L2 D2)) : aw_Z X 2048 601024 7293034 y_Law_law Q kc ks 1083 (lwL i) [] (aw_s I L D) := by
  refine s_Law_law_1083.go (lwL i) [.ref 0] (aw_s I L D) rfl ?_
  refine z_callV (d := 2047) (mc2 := 0) (ms2 := 0) (av := []) (st := []) ok_AW_mended (Or.inl w_1244) w_1245 w_1246 k_AW d_Law_law_1084 rfl (aw_lt (o := 0) rfl) rfl rfl (Nat.le_of_ble_eq_true rfl) hc hs (pr_mended h _ (fun r I1 L1 D1 hM => ?_))
  refine s_Law_law_1087.go (lwL i) [.ref 69, .int r] (aw_s I1 L1 D1) rfl ?_
  refine z_callV (d := 2047) (mc2 := 0) (ms2 := 0) (av := []) (st := [.int r]) ok_M_mended (Or.inl w_2074) w_2075 w_2076 k_M d_Law_law_1088 rfl (aw_lt (o := 69) rfl) rfl rfl (Nat.le_of_ble_eq_true rfl) hc hs (hM _ (fun I2 L2 D2 h2 => ?_))
  exact z_icmp_eq (tgt := 1272) d_Law_law_1091 rfl (fun _ => hk I2 L2 D2 h2) (fun q => absurd rfl q)

theorem lc_25 {X : aw_X} {Q : Option Value → aw_H → Prop} {I : Nat → Nat → Int32} {L : Nat → Nat → Int64} {D : Nat → Nat} {i kc ks : Nat} (hL : aw_xl X ≤ 3072) (hi : i + 6 ≤ aw_xl X) (h : Rel I L D) (hc : kc ≤ 601024) (hs : ks ≤ 7293034) (hk : ∀ I2 L2 D2, Rel I2 L2 D2 → aw_Z X 2048 601024 7293034 y_Law_law Q kc ks 1272 (lwL i) [] (aw_s I2 L2 D2)) : aw_Z X 2048 601024 7293034 y_Law_law Q kc ks 1096 (lwL i) [] (aw_s I L D) := by
  refine s_Law_law_1096.go (lwL i) [.ref 0] (aw_s I L D) rfl ?_
  refine z_callV (d := 2047) (mc2 := 0) (ms2 := 0) (av := []) (st := []) ok_AW_claim (Or.inl w_1248) w_1249 w_1250 k_AW d_Law_law_1097 rfl (aw_lt (o := 0) rfl) rfl rfl (Nat.le_of_ble_eq_true rfl) hc hs (pr_claim h _ (fun r I1 L1 D1 hM => ?_))
  refine s_Law_law_1100.go (lwL i) [.ref 69, .int r] (aw_s I1 L1 D1) rfl ?_
  refine z_callV (d := 2047) (mc2 := 0) (ms2 := 0) (av := []) (st := [.int r]) ok_M_claim (Or.inl w_2078) w_2079 w_2080 k_M d_Law_law_1101 rfl (aw_lt (o := 69) rfl) rfl rfl (Nat.le_of_ble_eq_true rfl) hc hs (hM _ (fun I2 L2 D2 h2 => ?_))
  exact z_icmp_eq (tgt := 1272) d_Law_law_1104 rfl (fun _ => hk I2 L2 D2 h2) (fun q => absurd rfl q)

theorem lc_26 {X : aw_X} {Q : Option Value → aw_H → Prop} {I : Nat → Nat → Int32} {L : Nat → Nat → Int64} {D : Nat → Nat} {i kc ks : Nat} (hL : aw_xl X ≤ 3072) (hi : i + 6 ≤ aw_xl X) (h : Rel I L D) (hc : kc ≤ 601024) (hs : ks ≤ 7293034) (hk : ∀ I2 L2 D2, Rel I2 L2 D2 → aw_Z X 2048 601024 7293034 y_Law_law Q kc ks 1272 (lwL i) [] (aw_s I2 L2 D2)) : aw_Z X 2048 601024 7293034 y_Law_law Q kc ks 1109 (lwL i) [] (aw_s I L D) := by
  refine s_Law_law_1109.go (lwL i) [.ref 0] (aw_s I L D) rfl ?_
  refine z_callV (d := 2047) (mc2 := 0) (ms2 := 0) (av := []) (st := []) ok_AW_holds (Or.inl w_1264) w_1265 w_1266 k_AW d_Law_law_1110 rfl (aw_lt (o := 0) rfl) rfl rfl (Nat.le_of_ble_eq_true rfl) hc hs (pr_holds h _ (fun r I1 L1 D1 hM => ?_))
  refine s_Law_law_1113.go (lwL i) [.ref 69, .int r] (aw_s I1 L1 D1) rfl ?_
  refine z_callV (d := 2047) (mc2 := 0) (ms2 := 0) (av := []) (st := [.int r]) ok_M_holds (Or.inl w_2086) w_2087 w_2088 k_M d_Law_law_1114 rfl (aw_lt (o := 69) rfl) rfl rfl (Nat.le_of_ble_eq_true rfl) hc hs (hM _ (fun I2 L2 D2 h2 => ?_))
  exact z_icmp_eq (tgt := 1272) d_Law_law_1117 rfl (fun _ => hk I2 L2 D2 h2) (fun q => absurd rfl q)

theorem lc_27 {X : aw_X} {Q : Option Value → aw_H → Prop} {I : Nat → Nat → Int32} {L : Nat → Nat → Int64} {D : Nat → Nat} {i kc ks : Nat} (hL : aw_xl X ≤ 3072) (hi : i + 6 ≤ aw_xl X) (h : Rel I L D) (hc : kc ≤ 601024) (hs : ks ≤ 7293034) (hk : ∀ I2 L2 D2, Rel I2 L2 D2 → aw_Z X 2048 601024 7293034 y_Law_law Q kc ks 1272 (lwL i) [] (aw_s I2 L2 D2)) : aw_Z X 2048 601024 7293034 y_Law_law Q kc ks 1122 (lwL i) [] (aw_s I L D) := by
  refine s_Law_law_1122.go (lwL i) [.ref 0] (aw_s I L D) rfl ?_
  refine z_callV (d := 2047) (mc2 := 0) (ms2 := 0) (av := []) (st := []) ok_AW_proof (Or.inl w_1276) w_1277 w_1278 k_AW d_Law_law_1123 rfl (aw_lt (o := 0) rfl) rfl rfl (Nat.le_of_ble_eq_true rfl) hc hs (pr_proof h _ (fun r I1 L1 D1 hM => ?_))
  refine s_Law_law_1126.go (lwL i) [.ref 69, .int r] (aw_s I1 L1 D1) rfl ?_
  refine z_callV (d := 2047) (mc2 := 0) (ms2 := 0) (av := []) (st := [.int r]) ok_M_proof (Or.inl w_2094) w_2095 w_2096 k_M d_Law_law_1127 rfl (aw_lt (o := 69) rfl) rfl rfl (Nat.le_of_ble_eq_true rfl) hc hs (hM _ (fun I2 L2 D2 h2 => ?_))
  exact z_icmp_eq (tgt := 1272) d_Law_law_1130 rfl (fun _ => hk I2 L2 D2 h2) (fun q => absurd rfl q)

theorem lc_28 {X : aw_X} {Q : Option Value → aw_H → Prop} {I : Nat → Nat → Int32} {L : Nat → Nat → Int64} {D : Nat → Nat} {i kc ks : Nat} (hL : aw_xl X ≤ 3072) (hi : i + 6 ≤ aw_xl X) (h : Rel I L D) (hc : kc ≤ 601024) (hs : ks ≤ 7293034) (hk : ∀ I2 L2 D2, Rel I2 L2 D2 → aw_Z X 2048 601024 7293034 y_Law_law Q kc ks 1272 (lwL i) [] (aw_s I2 L2 D2)) : aw_Z X 2048 601024 7293034 y_Law_law Q kc ks 1135 (lwL i) [] (aw_s I L D) := by
  refine s_Law_law_1135.go (lwL i) [.int (nI i + (1 : Int32)), .ref 1005, .ref 0] (aw_s I L D) rfl ?_
  refine z_sald (law_vp 1 (by decide) hi hL) d_Law_law_1141 ?_
  refine z_callV (d := 2047) (mc2 := 0) (ms2 := 0) (av := [.int (xa X i 1)]) (st := []) ok_AW_proofAt (Or.inl w_1336) w_1337 w_1338 k_AW d_Law_law_1142 rfl (aw_lt (o := 0) rfl) rfl rfl (Nat.le_of_ble_eq_true rfl) hc hs (pr_proofAt h _ (fun r I1 L1 D1 hM => ?_))
  refine s_Law_law_1145.go (lwL i) [.int (nI i + (1 : Int32)), .ref 1005, .ref 69, .int r] (aw_s I1 L1 D1) rfl ?_
  refine z_sald (law_vp 1 (by decide) hi hL) d_Law_law_1151 ?_
  refine z_callV (d := 2047) (mc2 := 0) (ms2 := 0) (av := [.int (xa X i 1)]) (st := [.int r]) ok_M_proofAt (Or.inl w_2114) w_2115 w_2116 k_M d_Law_law_1152 rfl (aw_lt (o := 69) rfl) rfl rfl (Nat.le_of_ble_eq_true rfl) hc hs (hM _ (fun I2 L2 D2 h2 => ?_))
  exact z_icmp_eq (tgt := 1272) d_Law_law_1155 rfl (fun _ => hk I2 L2 D2 h2) (fun q => absurd rfl q)

theorem lc_29 {X : aw_X} {Q : Option Value → aw_H → Prop} {I : Nat → Nat → Int32} {L : Nat → Nat → Int64} {D : Nat → Nat} {i kc ks : Nat} (hL : aw_xl X ≤ 3072) (hi : i + 6 ≤ aw_xl X) (h : Rel I L D) (hc : kc ≤ 601024) (hs : ks ≤ 7293034) (hk : ∀ I2 L2 D2, Rel I2 L2 D2 → aw_Z X 2048 601024 7293034 y_Law_law Q kc ks 1272 (lwL i) [] (aw_s I2 L2 D2)) : aw_Z X 2048 601024 7293034 y_Law_law Q kc ks 1160 (lwL i) [] (aw_s I L D) := by
  refine s_Law_law_1160.go (lwL i) [.ref 0] (aw_s I L D) rfl ?_
  refine z_callV (d := 2047) (mc2 := 0) (ms2 := 0) (av := []) (st := []) ok_AW_check (Or.inl w_1344) w_1345 w_1346 k_AW d_Law_law_1161 rfl (aw_lt (o := 0) rfl) rfl rfl (Nat.le_of_ble_eq_true rfl) hc hs (pr_check h _ (fun r I1 L1 D1 hM => ?_))
  refine s_Law_law_1164.go (lwL i) [.ref 69, .int r] (aw_s I1 L1 D1) rfl ?_
  refine z_callV (d := 2047) (mc2 := 0) (ms2 := 0) (av := []) (st := [.int r]) ok_M_check (Or.inl w_2118) w_2119 w_2120 k_M d_Law_law_1165 rfl (aw_lt (o := 69) rfl) rfl rfl (Nat.le_of_ble_eq_true rfl) hc hs (hM _ (fun I2 L2 D2 h2 => ?_))
  exact z_icmp_eq (tgt := 1272) d_Law_law_1168 rfl (fun _ => hk I2 L2 D2 h2) (fun q => absurd rfl q)

theorem lc_30 {X : aw_X} {Q : Option Value → aw_H → Prop} {I : Nat → Nat → Int32} {L : Nat → Nat → Int64} {D : Nat → Nat} {i kc ks : Nat} (hL : aw_xl X ≤ 3072) (hi : i + 6 ≤ aw_xl X) (h : Rel I L D) (hc : kc ≤ 601024) (hs : ks ≤ 7293034) (hk : ∀ I2 L2 D2, Rel I2 L2 D2 → aw_Z X 2048 601024 7293034 y_Law_law Q kc ks 1272 (lwL i) [] (aw_s I2 L2 D2)) : aw_Z X 2048 601024 7293034 y_Law_law Q kc ks 1173 (lwL i) [] (aw_s I L D) := by
  refine s_Law_law_1173.go (lwL i) [.int (nI i + (1 : Int32)), .ref 1005, .ref 0] (aw_s I L D) rfl ?_
  refine z_sald (law_vp 1 (by decide) hi hL) d_Law_law_1179 ?_
  refine s_Law_law_1180.go (lwL i) [.int (nI i + (2 : Int32)), .ref 1005, .int (xa X i 1), .ref 0] (aw_s I L D) rfl ?_
  refine z_sald (law_vp 2 (by decide) hi hL) d_Law_law_1185 ?_
  refine s_Law_law_1186.go (lwL i) [.int (nI i + (3 : Int32)), .ref 1005, .int (xa X i 2), .int (xa X i 1), .ref 0] (aw_s I L D) rfl ?_
  refine z_sald (law_vp 3 (by decide) hi hL) d_Law_law_1191 ?_
  refine z_callV (d := 2047) (mc2 := 0) (ms2 := 0) (av := [.int (xa X i 1), .int (xa X i 2), .int (xa X i 3)]) (st := []) ok_AW_run (Or.inl w_1357) w_1358 w_1359 k_AW d_Law_law_1192 rfl (aw_lt (o := 0) rfl) rfl rfl (Nat.le_of_ble_eq_true rfl) hc hs (pr_run h _ (fun r I1 L1 D1 hM => ?_))
  refine s_Law_law_1195.go (lwL i) [.int (nI i + (1 : Int32)), .ref 1005, .ref 69, .int r] (aw_s I1 L1 D1) rfl ?_
  refine z_sald (law_vp 1 (by decide) hi hL) d_Law_law_1201 ?_
  refine s_Law_law_1202.go (lwL i) [.int (nI i + (2 : Int32)), .ref 1005, .int (xa X i 1), .ref 69, .int r] (aw_s I1 L1 D1) rfl ?_
  refine z_sald (law_vp 2 (by decide) hi hL) d_Law_law_1207 ?_
  refine s_Law_law_1208.go (lwL i) [.int (nI i + (3 : Int32)), .ref 1005, .int (xa X i 2), .int (xa X i 1), .ref 69, .int r] (aw_s I1 L1 D1) rfl ?_
  refine z_sald (law_vp 3 (by decide) hi hL) d_Law_law_1213 ?_
  refine z_callV (d := 2047) (mc2 := 0) (ms2 := 0) (av := [.int (xa X i 1), .int (xa X i 2), .int (xa X i 3)]) (st := [.int r]) ok_M_run (Or.inl w_2122) w_2123 w_2124 k_M d_Law_law_1214 rfl (aw_lt (o := 69) rfl) rfl rfl (Nat.le_of_ble_eq_true rfl) hc hs (hM _ (fun I2 L2 D2 h2 => ?_))
  exact z_icmp_eq (tgt := 1272) d_Law_law_1217 rfl (fun _ => hk I2 L2 D2 h2) (fun q => absurd rfl q)

theorem lc_31 {X : aw_X} {Q : Option Value → aw_H → Prop} {I : Nat → Nat → Int32} {L : Nat → Nat → Int64} {D : Nat → Nat} {i kc ks : Nat} (hL : aw_xl X ≤ 3072) (hi : i + 6 ≤ aw_xl X) (h : Rel I L D) (hc : kc ≤ 601024) (hs : ks ≤ 7293034) (hk : ∀ I2 L2 D2, Rel I2 L2 D2 → aw_Z X 2048 601024 7293034 y_Law_law Q kc ks 1272 (lwL i) [] (aw_s I2 L2 D2)) : aw_Z X 2048 601024 7293034 y_Law_law Q kc ks 1222 (lwL i) [] (aw_s I L D) := by
  refine s_Law_law_1222.go (lwL i) [.int (nI i + (1 : Int32)), .ref 1005, .ref 0] (aw_s I L D) rfl ?_
  refine z_sald (law_vp 1 (by decide) hi hL) d_Law_law_1228 ?_
  refine z_callV (d := 2047) (mc2 := 0) (ms2 := 0) (av := [.int (xa X i 1)]) (st := []) ok_AW_got (Or.inl w_1366) w_1367 w_1368 k_AW d_Law_law_1229 rfl (aw_lt (o := 0) rfl) rfl rfl (Nat.le_of_ble_eq_true rfl) hc hs (pr_got h _ (fun r I1 L1 D1 hM => ?_))
  refine s_Law_law_1232.go (lwL i) [.int (nI i + (1 : Int32)), .ref 1005, .ref 69, .int r] (aw_s I1 L1 D1) rfl ?_
  refine z_sald (law_vp 1 (by decide) hi hL) d_Law_law_1238 ?_
  refine z_callV (d := 2047) (mc2 := 0) (ms2 := 0) (av := [.int (xa X i 1)]) (st := [.int r]) ok_M_got (Or.inl w_2126) w_2127 w_2128 k_M d_Law_law_1239 rfl (aw_lt (o := 69) rfl) rfl rfl (Nat.le_of_ble_eq_true rfl) hc hs (hM _ (fun I2 L2 D2 h2 => ?_))
  exact z_icmp_eq (tgt := 1272) d_Law_law_1242 rfl (fun _ => hk I2 L2 D2 h2) (fun q => absurd rfl q)

theorem lc_32 {X : aw_X} {Q : Option Value → aw_H → Prop} {I : Nat → Nat → Int32} {L : Nat → Nat → Int64} {D : Nat → Nat} {i kc ks : Nat} (hL : aw_xl X ≤ 3072) (hi : i + 6 ≤ aw_xl X) (h : Rel I L D) (hc : kc ≤ 601024) (hs : ks ≤ 7293034) (hk : ∀ I2 L2 D2, Rel I2 L2 D2 → aw_Z X 2048 601024 7293034 y_Law_law Q kc ks 1272 (lwL i) [] (aw_s I2 L2 D2)) : aw_Z X 2048 601024 7293034 y_Law_law Q kc ks 1247 (lwL i) [] (aw_s I L D) := by
  refine s_Law_law_1247.go (lwL i) [.int (nI i + (1 : Int32)), .ref 1005, .ref 0] (aw_s I L D) rfl ?_
  refine z_sald (law_vp 1 (by decide) hi hL) d_Law_law_1253 ?_
  refine z_callV (d := 2047) (mc2 := 0) (ms2 := 0) (av := [.int (xa X i 1)]) (st := []) ok_AW_count (Or.inl w_1370) w_1371 w_1372 k_AW d_Law_law_1254 rfl (aw_lt (o := 0) rfl) rfl rfl (Nat.le_of_ble_eq_true rfl) hc hs (pr_count h _ (fun r I1 L1 D1 hM => ?_))
  refine s_Law_law_1257.go (lwL i) [.int (nI i + (1 : Int32)), .ref 1005, .ref 69, .int r] (aw_s I1 L1 D1) rfl ?_
  refine z_sald (law_vp 1 (by decide) hi hL) d_Law_law_1263 ?_
  refine z_callV (d := 2047) (mc2 := 0) (ms2 := 0) (av := [.int (xa X i 1)]) (st := [.int r]) ok_M_count (Or.inl w_2130) w_2131 w_2132 k_M d_Law_law_1264 rfl (aw_lt (o := 69) rfl) rfl rfl (Nat.le_of_ble_eq_true rfl) hc hs (hM _ (fun I2 L2 D2 h2 => ?_))
  exact z_icmp_eq (tgt := 1272) d_Law_law_1267 rfl (fun _ => hk I2 L2 D2 h2) (fun q => absurd rfl q)
