/-! ===== the 59 calls of the law: printed by gen/lawcases.py ===== -/
theorem R32x (x : Int32) : R32 x.toInt := ⟨Int32.le_toInt x, Int32.toInt_lt x⟩
section LC
variable {p : Program} {l : Launch} {e : Env} {s : State} {m : MethodId} {below : List Frame} {meth : Method} {c : Code} {D : va_G} {cI cB : ClassId} {Z : (Nat → Nat) × (Nat → Nat)} {b L : Nat} {xs : Nat → Int32} {aC aM : Nat → Nat} {Q : State → Prop} {S T : Mem}
set_option maxRecDepth 100000 in
theorem lc_0 (X : Cl p s m c D cI cB Z b L xs) {i : Nat} (hi : i + 5 < L) (hr : Rel S T) (k : ∀ S' T' : Mem, Rel S' T' → Gl p l e s m below meth c D cI cB b aC aM Q 2061 [(0, .ref b), (1, .ref (aC 0)), (2, .ref (aM 0)), (3, .int (i32 (i : Int)))] [] S' T') : Gl p l e s m below meth c D cI cB b aC aM Q 284 [(0, .ref b), (1, .ref (aC 0)), (2, .ref (aM 0)), (3, .int (i32 (i : Int)))] [] S T := by
  obtain ⟨r, S', T', h7, h8, hr'⟩ := Q_feed (a := (xs (i + 1)).toInt) (b := (xs (i + 2)).toInt) (c := (xs (i + 3)).toInt) (d := (xs (i + 4)).toInt) (e := (xs (i + 5)).toInt) hr
  refine gl_aload (pc := 284) X 1 dL_law_284 rfl rfl ?_
  refine gl_arg (pc := 285) X 0 3 (kk := 1) rfl rfl rfl (by omega) dL_law_285 dL_law_286 dL_law_287 dL_law_288 dL_law_289 ?_
  refine gl_arg (pc := 290) X 0 3 (kk := 2) rfl rfl rfl (by omega) dL_law_290 dL_law_291 dL_law_292 dL_law_293 dL_law_294 ?_
  refine gl_arg (pc := 295) X 0 3 (kk := 3) rfl rfl rfl (by omega) dL_law_295 dL_law_296 dL_law_297 dL_law_298 dL_law_299 ?_
  refine gl_arg (pc := 300) X 0 3 (kk := 4) rfl rfl rfl (by omega) dL_law_300 dL_law_301 dL_law_302 dL_law_303 dL_law_304 ?_
  refine gl_arg (pc := 305) X 0 3 (kk := 5) rfl rfl rfl (by omega) dL_law_305 dL_law_306 dL_law_307 dL_law_308 dL_law_309 ?_
  refine gl_callC (pc := 310) X 5 [] (ct_X7_feed h7) (gV mL_L_13 iM_X7_feed sl_X7_feed in_X7 cd_X7_feed) hd_X7_feed ⟨Nat.le_of_ble_eq_true rfl, Nat.le_of_ble_eq_true rfl⟩ rfl rfl (Nat.le_of_ble_eq_true rfl) dL_law_310 ?_
  refine gl_aload (pc := 313) X 2 dL_law_313 rfl rfl ?_
  refine gl_arg (pc := 314) X 0 3 (kk := 1) rfl rfl rfl (by omega) dL_law_314 dL_law_315 dL_law_316 dL_law_317 dL_law_318 ?_
  refine gl_arg (pc := 319) X 0 3 (kk := 2) rfl rfl rfl (by omega) dL_law_319 dL_law_320 dL_law_321 dL_law_322 dL_law_323 ?_
  refine gl_arg (pc := 324) X 0 3 (kk := 3) rfl rfl rfl (by omega) dL_law_324 dL_law_325 dL_law_326 dL_law_327 dL_law_328 ?_
  refine gl_arg (pc := 329) X 0 3 (kk := 4) rfl rfl rfl (by omega) dL_law_329 dL_law_330 dL_law_331 dL_law_332 dL_law_333 ?_
  refine gl_arg (pc := 334) X 0 3 (kk := 5) rfl rfl rfl (by omega) dL_law_334 dL_law_335 dL_law_336 dL_law_337 dL_law_338 ?_
  refine gl_callM (pc := 339) X 5 [.int (i32 r)] (ct_X8_feed h8) (gV mL_L_17 iM_X8_feed sl_X8_feed in_X8 cd_X8_feed) hd_X8_feed ⟨Nat.le_of_ble_eq_true rfl, Nat.le_of_ble_eq_true rfl⟩ rfl rfl (Nat.le_of_ble_eq_true rfl) dL_law_339 ?_
  exact gl_same (pc := 342) X 2061 dL_law_342 rfl (k S' T' hr')
set_option maxRecDepth 100000 in
theorem lc_1 (X : Cl p s m c D cI cB Z b L xs) {i : Nat} (hi : i + 5 < L) (hr : Rel S T) (k : ∀ S' T' : Mem, Rel S' T' → Gl p l e s m below meth c D cI cB b aC aM Q 2061 [(0, .ref b), (1, .ref (aC 0)), (2, .ref (aM 0)), (3, .int (i32 (i : Int)))] [] S' T') : Gl p l e s m below meth c D cI cB b aC aM Q 347 [(0, .ref b), (1, .ref (aC 0)), (2, .ref (aM 0)), (3, .int (i32 (i : Int)))] [] S T := by
  obtain ⟨r, S', T', h7, h8, hr'⟩ := Q_back (n := (xs (i + 1)).toInt) hr (R32x _)
  refine gl_aload (pc := 347) X 1 dL_law_347 rfl rfl ?_
  refine gl_arg (pc := 348) X 0 3 (kk := 1) rfl rfl rfl (by omega) dL_law_348 dL_law_349 dL_law_350 dL_law_351 dL_law_352 ?_
  refine gl_callC (pc := 353) X 1 [] (ct_X7_back h7) (gV mL_L_18 iM_X7_back sl_X7_back in_X7 cd_X7_back) hd_X7_back ⟨Nat.le_of_ble_eq_true rfl, Nat.le_of_ble_eq_true rfl⟩ rfl rfl (Nat.le_of_ble_eq_true rfl) dL_law_353 ?_
  refine gl_aload (pc := 356) X 2 dL_law_356 rfl rfl ?_
  refine gl_arg (pc := 357) X 0 3 (kk := 1) rfl rfl rfl (by omega) dL_law_357 dL_law_358 dL_law_359 dL_law_360 dL_law_361 ?_
  refine gl_callM (pc := 362) X 1 [.int (i32 r)] (ct_X8_back h8) (gV mL_L_22 iM_X8_back sl_X8_back in_X8 cd_X8_back) hd_X8_back ⟨Nat.le_of_ble_eq_true rfl, Nat.le_of_ble_eq_true rfl⟩ rfl rfl (Nat.le_of_ble_eq_true rfl) dL_law_362 ?_
  exact gl_same (pc := 365) X 2061 dL_law_365 rfl (k S' T' hr')
set_option maxRecDepth 100000 in
theorem lc_2 (X : Cl p s m c D cI cB Z b L xs) {i : Nat} (hi : i + 5 < L) (hr : Rel S T) (k : ∀ S' T' : Mem, Rel S' T' → Gl p l e s m below meth c D cI cB b aC aM Q 2061 [(0, .ref b), (1, .ref (aC 0)), (2, .ref (aM 0)), (3, .int (i32 (i : Int)))] [] S' T') : Gl p l e s m below meth c D cI cB b aC aM Q 370 [(0, .ref b), (1, .ref (aC 0)), (2, .ref (aM 0)), (3, .int (i32 (i : Int)))] [] S T := by
  obtain ⟨r, S', T', h7, h8, hr'⟩ := Q_text  hr
  refine gl_aload (pc := 370) X 1 dL_law_370 rfl rfl ?_
  refine gl_callC (pc := 371) X 0 [] (ct_X7_text h7) (gV mL_L_23 iM_X7_text sl_X7_text in_X7 cd_X7_text) hd_X7_text ⟨Nat.le_of_ble_eq_true rfl, Nat.le_of_ble_eq_true rfl⟩ rfl rfl (Nat.le_of_ble_eq_true rfl) dL_law_371 ?_
  refine gl_aload (pc := 374) X 2 dL_law_374 rfl rfl ?_
  refine gl_callM (pc := 375) X 0 [.int (i32 r)] (ct_X8_text h8) (gV mL_L_27 iM_X8_text sl_X8_text in_X8 cd_X8_text) hd_X8_text ⟨Nat.le_of_ble_eq_true rfl, Nat.le_of_ble_eq_true rfl⟩ rfl rfl (Nat.le_of_ble_eq_true rfl) dL_law_375 ?_
  exact gl_same (pc := 378) X 2061 dL_law_378 rfl (k S' T' hr')
set_option maxRecDepth 100000 in
theorem lc_3 (X : Cl p s m c D cI cB Z b L xs) {i : Nat} (hi : i + 5 < L) (hr : Rel S T) (k : ∀ S' T' : Mem, Rel S' T' → Gl p l e s m below meth c D cI cB b aC aM Q 2061 [(0, .ref b), (1, .ref (aC 0)), (2, .ref (aM 0)), (3, .int (i32 (i : Int)))] [] S' T') : Gl p l e s m below meth c D cI cB b aC aM Q 383 [(0, .ref b), (1, .ref (aC 0)), (2, .ref (aM 0)), (3, .int (i32 (i : Int)))] [] S T := by
  obtain ⟨r, S', T', h7, h8, hr'⟩ := Q_join  hr
  refine gl_aload (pc := 383) X 1 dL_law_383 rfl rfl ?_
  refine gl_callC (pc := 384) X 0 [] (ct_X7_join h7) (gV mL_L_28 iM_X7_join sl_X7_join in_X7 cd_X7_join) hd_X7_join ⟨Nat.le_of_ble_eq_true rfl, Nat.le_of_ble_eq_true rfl⟩ rfl rfl (Nat.le_of_ble_eq_true rfl) dL_law_384 ?_
  refine gl_aload (pc := 387) X 2 dL_law_387 rfl rfl ?_
  refine gl_callM (pc := 388) X 0 [.int (i32 r)] (ct_X8_join h8) (gV mL_L_31 iM_X8_join sl_X8_join in_X8 cd_X8_join) hd_X8_join ⟨Nat.le_of_ble_eq_true rfl, Nat.le_of_ble_eq_true rfl⟩ rfl rfl (Nat.le_of_ble_eq_true rfl) dL_law_388 ?_
  exact gl_same (pc := 391) X 2061 dL_law_391 rfl (k S' T' hr')
set_option maxRecDepth 100000 in
theorem lc_4 (X : Cl p s m c D cI cB Z b L xs) {i : Nat} (hi : i + 5 < L) (hr : Rel S T) (k : ∀ S' T' : Mem, Rel S' T' → Gl p l e s m below meth c D cI cB b aC aM Q 2061 [(0, .ref b), (1, .ref (aC 0)), (2, .ref (aM 0)), (3, .int (i32 (i : Int)))] [] S' T') : Gl p l e s m below meth c D cI cB b aC aM Q 396 [(0, .ref b), (1, .ref (aC 0)), (2, .ref (aM 0)), (3, .int (i32 (i : Int)))] [] S T := by
  obtain ⟨r, S', T', h7, h8, hr'⟩ := Q_leave (a := (xs (i + 1)).toInt) hr (R32x _)
  refine gl_aload (pc := 396) X 1 dL_law_396 rfl rfl ?_
  refine gl_arg (pc := 397) X 0 3 (kk := 1) rfl rfl rfl (by omega) dL_law_397 dL_law_398 dL_law_399 dL_law_400 dL_law_401 ?_
  refine gl_callC (pc := 402) X 1 [] (ct_X7_leave h7) (gV mL_L_32 iM_X7_leave sl_X7_leave in_X7 cd_X7_leave) hd_X7_leave ⟨Nat.le_of_ble_eq_true rfl, Nat.le_of_ble_eq_true rfl⟩ rfl rfl (Nat.le_of_ble_eq_true rfl) dL_law_402 ?_
  refine gl_aload (pc := 405) X 2 dL_law_405 rfl rfl ?_
  refine gl_arg (pc := 406) X 0 3 (kk := 1) rfl rfl rfl (by omega) dL_law_406 dL_law_407 dL_law_408 dL_law_409 dL_law_410 ?_
  refine gl_callM (pc := 411) X 1 [.int (i32 r)] (ct_X8_leave h8) (gV mL_L_36 iM_X8_leave sl_X8_leave in_X8 cd_X8_leave) hd_X8_leave ⟨Nat.le_of_ble_eq_true rfl, Nat.le_of_ble_eq_true rfl⟩ rfl rfl (Nat.le_of_ble_eq_true rfl) dL_law_411 ?_
  exact gl_same (pc := 414) X 2061 dL_law_414 rfl (k S' T' hr')
set_option maxRecDepth 100000 in
theorem lc_5 (X : Cl p s m c D cI cB Z b L xs) {i : Nat} (hi : i + 5 < L) (hr : Rel S T) (k : ∀ S' T' : Mem, Rel S' T' → Gl p l e s m below meth c D cI cB b aC aM Q 2061 [(0, .ref b), (1, .ref (aC 0)), (2, .ref (aM 0)), (3, .int (i32 (i : Int)))] [] S' T') : Gl p l e s m below meth c D cI cB b aC aM Q 419 [(0, .ref b), (1, .ref (aC 0)), (2, .ref (aM 0)), (3, .int (i32 (i : Int)))] [] S T := by
  obtain ⟨r, S', T', h7, h8, hr'⟩ := Q_value (a := (xs (i + 1)).toInt) (v := (xs (i + 2)).toInt) hr (R32x _) (R32x _)
  refine gl_aload (pc := 419) X 1 dL_law_419 rfl rfl ?_
  refine gl_arg (pc := 420) X 0 3 (kk := 1) rfl rfl rfl (by omega) dL_law_420 dL_law_421 dL_law_422 dL_law_423 dL_law_424 ?_
  refine gl_arg (pc := 425) X 0 3 (kk := 2) rfl rfl rfl (by omega) dL_law_425 dL_law_426 dL_law_427 dL_law_428 dL_law_429 ?_
  refine gl_callC (pc := 430) X 2 [] (ct_X7_value h7) (gV mL_L_37 iM_X7_value sl_X7_value in_X7 cd_X7_value) hd_X7_value ⟨Nat.le_of_ble_eq_true rfl, Nat.le_of_ble_eq_true rfl⟩ rfl rfl (Nat.le_of_ble_eq_true rfl) dL_law_430 ?_
  refine gl_aload (pc := 433) X 2 dL_law_433 rfl rfl ?_
  refine gl_arg (pc := 434) X 0 3 (kk := 1) rfl rfl rfl (by omega) dL_law_434 dL_law_435 dL_law_436 dL_law_437 dL_law_438 ?_
  refine gl_arg (pc := 439) X 0 3 (kk := 2) rfl rfl rfl (by omega) dL_law_439 dL_law_440 dL_law_441 dL_law_442 dL_law_443 ?_
  refine gl_callM (pc := 444) X 2 [.int (i32 r)] (ct_X8_value h8) (gV mL_L_41 iM_X8_value sl_X8_value in_X8 cd_X8_value) hd_X8_value ⟨Nat.le_of_ble_eq_true rfl, Nat.le_of_ble_eq_true rfl⟩ rfl rfl (Nat.le_of_ble_eq_true rfl) dL_law_444 ?_
  exact gl_same (pc := 447) X 2061 dL_law_447 rfl (k S' T' hr')
set_option maxRecDepth 100000 in
theorem lc_6 (X : Cl p s m c D cI cB Z b L xs) {i : Nat} (hi : i + 5 < L) (hr : Rel S T) (k : ∀ S' T' : Mem, Rel S' T' → Gl p l e s m below meth c D cI cB b aC aM Q 2061 [(0, .ref b), (1, .ref (aC 0)), (2, .ref (aM 0)), (3, .int (i32 (i : Int)))] [] S' T') : Gl p l e s m below meth c D cI cB b aC aM Q 452 [(0, .ref b), (1, .ref (aC 0)), (2, .ref (aM 0)), (3, .int (i32 (i : Int)))] [] S T := by
  obtain ⟨r, S', T', h7, h8, hr'⟩ := Q_without (a := (xs (i + 1)).toInt) (i := (xs (i + 2)).toInt) hr (R32x _) (R32x _)
  refine gl_aload (pc := 452) X 1 dL_law_452 rfl rfl ?_
  refine gl_arg (pc := 453) X 0 3 (kk := 1) rfl rfl rfl (by omega) dL_law_453 dL_law_454 dL_law_455 dL_law_456 dL_law_457 ?_
  refine gl_arg (pc := 458) X 0 3 (kk := 2) rfl rfl rfl (by omega) dL_law_458 dL_law_459 dL_law_460 dL_law_461 dL_law_462 ?_
  refine gl_callC (pc := 463) X 2 [] (ct_X7_without h7) (gV mL_L_42 iM_X7_without sl_X7_without in_X7 cd_X7_without) hd_X7_without ⟨Nat.le_of_ble_eq_true rfl, Nat.le_of_ble_eq_true rfl⟩ rfl rfl (Nat.le_of_ble_eq_true rfl) dL_law_463 ?_
  refine gl_aload (pc := 466) X 2 dL_law_466 rfl rfl ?_
  refine gl_arg (pc := 467) X 0 3 (kk := 1) rfl rfl rfl (by omega) dL_law_467 dL_law_468 dL_law_469 dL_law_470 dL_law_471 ?_
  refine gl_arg (pc := 472) X 0 3 (kk := 2) rfl rfl rfl (by omega) dL_law_472 dL_law_473 dL_law_474 dL_law_475 dL_law_476 ?_
  refine gl_callM (pc := 477) X 2 [.int (i32 r)] (ct_X8_without h8) (gV mL_L_45 iM_X8_without sl_X8_without in_X8 cd_X8_without) hd_X8_without ⟨Nat.le_of_ble_eq_true rfl, Nat.le_of_ble_eq_true rfl⟩ rfl rfl (Nat.le_of_ble_eq_true rfl) dL_law_477 ?_
  exact gl_same (pc := 480) X 2061 dL_law_480 rfl (k S' T' hr')
set_option maxRecDepth 100000 in
theorem lc_7 (X : Cl p s m c D cI cB Z b L xs) {i : Nat} (hi : i + 5 < L) (hr : Rel S T) (k : ∀ S' T' : Mem, Rel S' T' → Gl p l e s m below meth c D cI cB b aC aM Q 2061 [(0, .ref b), (1, .ref (aC 0)), (2, .ref (aM 0)), (3, .int (i32 (i : Int)))] [] S' T') : Gl p l e s m below meth c D cI cB b aC aM Q 485 [(0, .ref b), (1, .ref (aC 0)), (2, .ref (aM 0)), (3, .int (i32 (i : Int)))] [] S T := by
  obtain ⟨r, S', T', h7, h8, hr'⟩ := Q_cap (a := (xs (i + 1)).toInt) (x := (xs (i + 2)).toInt) hr (R32x _) (R32x _)
  refine gl_aload (pc := 485) X 1 dL_law_485 rfl rfl ?_
  refine gl_arg (pc := 486) X 0 3 (kk := 1) rfl rfl rfl (by omega) dL_law_486 dL_law_487 dL_law_488 dL_law_489 dL_law_490 ?_
  refine gl_arg (pc := 491) X 0 3 (kk := 2) rfl rfl rfl (by omega) dL_law_491 dL_law_492 dL_law_493 dL_law_494 dL_law_495 ?_
  refine gl_callC (pc := 496) X 2 [] (ct_X7_cap h7) (gV mL_L_46 iM_X7_cap sl_X7_cap in_X7 cd_X7_cap) hd_X7_cap ⟨Nat.le_of_ble_eq_true rfl, Nat.le_of_ble_eq_true rfl⟩ rfl rfl (Nat.le_of_ble_eq_true rfl) dL_law_496 ?_
  refine gl_aload (pc := 499) X 2 dL_law_499 rfl rfl ?_
  refine gl_arg (pc := 500) X 0 3 (kk := 1) rfl rfl rfl (by omega) dL_law_500 dL_law_501 dL_law_502 dL_law_503 dL_law_504 ?_
  refine gl_arg (pc := 505) X 0 3 (kk := 2) rfl rfl rfl (by omega) dL_law_505 dL_law_506 dL_law_507 dL_law_508 dL_law_509 ?_
  refine gl_callM (pc := 510) X 2 [.int (i32 r)] (ct_X8_cap h8) (gV mL_L_49 iM_X8_cap sl_X8_cap in_X8 cd_X8_cap) hd_X8_cap ⟨Nat.le_of_ble_eq_true rfl, Nat.le_of_ble_eq_true rfl⟩ rfl rfl (Nat.le_of_ble_eq_true rfl) dL_law_510 ?_
  exact gl_same (pc := 513) X 2061 dL_law_513 rfl (k S' T' hr')
set_option maxRecDepth 100000 in
theorem lc_8 (X : Cl p s m c D cI cB Z b L xs) {i : Nat} (hi : i + 5 < L) (hr : Rel S T) (k : ∀ S' T' : Mem, Rel S' T' → Gl p l e s m below meth c D cI cB b aC aM Q 2061 [(0, .ref b), (1, .ref (aC 0)), (2, .ref (aM 0)), (3, .int (i32 (i : Int)))] [] S' T') : Gl p l e s m below meth c D cI cB b aC aM Q 518 [(0, .ref b), (1, .ref (aC 0)), (2, .ref (aM 0)), (3, .int (i32 (i : Int)))] [] S T := by
  obtain ⟨r, S', T', h7, h8, hr'⟩ := Q_change (a := (xs (i + 1)).toInt) (i := (xs (i + 2)).toInt) (v := (xs (i + 3)).toInt) hr (R32x _) (R32x _) (R32x _)
  refine gl_aload (pc := 518) X 1 dL_law_518 rfl rfl ?_
  refine gl_arg (pc := 519) X 0 3 (kk := 1) rfl rfl rfl (by omega) dL_law_519 dL_law_520 dL_law_521 dL_law_522 dL_law_523 ?_
  refine gl_arg (pc := 524) X 0 3 (kk := 2) rfl rfl rfl (by omega) dL_law_524 dL_law_525 dL_law_526 dL_law_527 dL_law_528 ?_
  refine gl_arg (pc := 529) X 0 3 (kk := 3) rfl rfl rfl (by omega) dL_law_529 dL_law_530 dL_law_531 dL_law_532 dL_law_533 ?_
  refine gl_callC (pc := 534) X 3 [] (ct_X7_change h7) (gV mL_L_50 iM_X7_change sl_X7_change in_X7 cd_X7_change) hd_X7_change ⟨Nat.le_of_ble_eq_true rfl, Nat.le_of_ble_eq_true rfl⟩ rfl rfl (Nat.le_of_ble_eq_true rfl) dL_law_534 ?_
  refine gl_aload (pc := 537) X 2 dL_law_537 rfl rfl ?_
  refine gl_arg (pc := 538) X 0 3 (kk := 1) rfl rfl rfl (by omega) dL_law_538 dL_law_539 dL_law_540 dL_law_541 dL_law_542 ?_
  refine gl_arg (pc := 543) X 0 3 (kk := 2) rfl rfl rfl (by omega) dL_law_543 dL_law_544 dL_law_545 dL_law_546 dL_law_547 ?_
  refine gl_arg (pc := 548) X 0 3 (kk := 3) rfl rfl rfl (by omega) dL_law_548 dL_law_549 dL_law_550 dL_law_551 dL_law_552 ?_
  refine gl_callM (pc := 553) X 3 [.int (i32 r)] (ct_X8_change h8) (gV mL_L_54 iM_X8_change sl_X8_change in_X8 cd_X8_change) hd_X8_change ⟨Nat.le_of_ble_eq_true rfl, Nat.le_of_ble_eq_true rfl⟩ rfl rfl (Nat.le_of_ble_eq_true rfl) dL_law_553 ?_
  exact gl_same (pc := 556) X 2061 dL_law_556 rfl (k S' T' hr')
set_option maxRecDepth 100000 in
theorem lc_9 (X : Cl p s m c D cI cB Z b L xs) {i : Nat} (hi : i + 5 < L) (hr : Rel S T) (k : ∀ S' T' : Mem, Rel S' T' → Gl p l e s m below meth c D cI cB b aC aM Q 2061 [(0, .ref b), (1, .ref (aC 0)), (2, .ref (aM 0)), (3, .int (i32 (i : Int)))] [] S' T') : Gl p l e s m below meth c D cI cB b aC aM Q 561 [(0, .ref b), (1, .ref (aC 0)), (2, .ref (aM 0)), (3, .int (i32 (i : Int)))] [] S T := by
  obtain ⟨r, S', T', h7, h8, hr'⟩ := Q_split (a := (xs (i + 1)).toInt) (m := (xs (i + 2)).toInt) hr (R32x _) (R32x _)
  refine gl_aload (pc := 561) X 1 dL_law_561 rfl rfl ?_
  refine gl_arg (pc := 562) X 0 3 (kk := 1) rfl rfl rfl (by omega) dL_law_562 dL_law_563 dL_law_564 dL_law_565 dL_law_566 ?_
  refine gl_arg (pc := 567) X 0 3 (kk := 2) rfl rfl rfl (by omega) dL_law_567 dL_law_568 dL_law_569 dL_law_570 dL_law_571 ?_
  refine gl_callC (pc := 572) X 2 [] (ct_X7_split h7) (gV mL_L_55 iM_X7_split sl_X7_split in_X7 cd_X7_split) hd_X7_split ⟨Nat.le_of_ble_eq_true rfl, Nat.le_of_ble_eq_true rfl⟩ rfl rfl (Nat.le_of_ble_eq_true rfl) dL_law_572 ?_
  refine gl_aload (pc := 575) X 2 dL_law_575 rfl rfl ?_
  refine gl_arg (pc := 576) X 0 3 (kk := 1) rfl rfl rfl (by omega) dL_law_576 dL_law_577 dL_law_578 dL_law_579 dL_law_580 ?_
  refine gl_arg (pc := 581) X 0 3 (kk := 2) rfl rfl rfl (by omega) dL_law_581 dL_law_582 dL_law_583 dL_law_584 dL_law_585 ?_
  refine gl_callM (pc := 586) X 2 [.int (i32 r)] (ct_X8_split h8) (gV mL_L_58 iM_X8_split sl_X8_split in_X8 cd_X8_split) hd_X8_split ⟨Nat.le_of_ble_eq_true rfl, Nat.le_of_ble_eq_true rfl⟩ rfl rfl (Nat.le_of_ble_eq_true rfl) dL_law_586 ?_
  exact gl_same (pc := 589) X 2061 dL_law_589 rfl (k S' T' hr')
set_option maxRecDepth 100000 in
theorem lc_10 (X : Cl p s m c D cI cB Z b L xs) {i : Nat} (hi : i + 5 < L) (hr : Rel S T) (k : ∀ S' T' : Mem, Rel S' T' → Gl p l e s m below meth c D cI cB b aC aM Q 2061 [(0, .ref b), (1, .ref (aC 0)), (2, .ref (aM 0)), (3, .int (i32 (i : Int)))] [] S' T') : Gl p l e s m below meth c D cI cB b aC aM Q 594 [(0, .ref b), (1, .ref (aC 0)), (2, .ref (aM 0)), (3, .int (i32 (i : Int)))] [] S T := by
  obtain ⟨r, S', T', h7, h8, hr'⟩ := Q_move (a := (xs (i + 1)).toInt) (c := (xs (i + 2)).toInt) hr (R32x _) (R32x _)
  refine gl_aload (pc := 594) X 1 dL_law_594 rfl rfl ?_
  refine gl_arg (pc := 595) X 0 3 (kk := 1) rfl rfl rfl (by omega) dL_law_595 dL_law_596 dL_law_597 dL_law_598 dL_law_599 ?_
  refine gl_arg (pc := 600) X 0 3 (kk := 2) rfl rfl rfl (by omega) dL_law_600 dL_law_601 dL_law_602 dL_law_603 dL_law_604 ?_
  refine gl_callC (pc := 605) X 2 [] (ct_X7_move h7) (gV mL_L_59 iM_X7_move sl_X7_move in_X7 cd_X7_move) hd_X7_move ⟨Nat.le_of_ble_eq_true rfl, Nat.le_of_ble_eq_true rfl⟩ rfl rfl (Nat.le_of_ble_eq_true rfl) dL_law_605 ?_
  refine gl_aload (pc := 608) X 2 dL_law_608 rfl rfl ?_
  refine gl_arg (pc := 609) X 0 3 (kk := 1) rfl rfl rfl (by omega) dL_law_609 dL_law_610 dL_law_611 dL_law_612 dL_law_613 ?_
  refine gl_arg (pc := 614) X 0 3 (kk := 2) rfl rfl rfl (by omega) dL_law_614 dL_law_615 dL_law_616 dL_law_617 dL_law_618 ?_
  refine gl_callM (pc := 619) X 2 [.int (i32 r)] (ct_X8_move h8) (gV mL_L_63 iM_X8_move sl_X8_move in_X8 cd_X8_move) hd_X8_move ⟨Nat.le_of_ble_eq_true rfl, Nat.le_of_ble_eq_true rfl⟩ rfl rfl (Nat.le_of_ble_eq_true rfl) dL_law_619 ?_
  exact gl_same (pc := 622) X 2061 dL_law_622 rfl (k S' T' hr')
set_option maxRecDepth 100000 in
theorem lc_11 (X : Cl p s m c D cI cB Z b L xs) {i : Nat} (hi : i + 5 < L) (hr : Rel S T) (k : ∀ S' T' : Mem, Rel S' T' → Gl p l e s m below meth c D cI cB b aC aM Q 2061 [(0, .ref b), (1, .ref (aC 0)), (2, .ref (aM 0)), (3, .int (i32 (i : Int)))] [] S' T') : Gl p l e s m below meth c D cI cB b aC aM Q 627 [(0, .ref b), (1, .ref (aC 0)), (2, .ref (aM 0)), (3, .int (i32 (i : Int)))] [] S T := by
  obtain ⟨r, S', T', h7, h8, hr'⟩ := Q_copy (a := (xs (i + 1)).toInt) hr (R32x _)
  refine gl_aload (pc := 627) X 1 dL_law_627 rfl rfl ?_
  refine gl_arg (pc := 628) X 0 3 (kk := 1) rfl rfl rfl (by omega) dL_law_628 dL_law_629 dL_law_630 dL_law_631 dL_law_632 ?_
  refine gl_callC (pc := 633) X 1 [] (ct_X7_copy h7) (gV mL_L_64 iM_X7_copy sl_X7_copy in_X7 cd_X7_copy) hd_X7_copy ⟨Nat.le_of_ble_eq_true rfl, Nat.le_of_ble_eq_true rfl⟩ rfl rfl (Nat.le_of_ble_eq_true rfl) dL_law_633 ?_
  refine gl_aload (pc := 636) X 2 dL_law_636 rfl rfl ?_
  refine gl_arg (pc := 637) X 0 3 (kk := 1) rfl rfl rfl (by omega) dL_law_637 dL_law_638 dL_law_639 dL_law_640 dL_law_641 ?_
  refine gl_callM (pc := 642) X 1 [.int (i32 r)] (ct_X8_copy h8) (gV mL_L_67 iM_X8_copy sl_X8_copy in_X8 cd_X8_copy) hd_X8_copy ⟨Nat.le_of_ble_eq_true rfl, Nat.le_of_ble_eq_true rfl⟩ rfl rfl (Nat.le_of_ble_eq_true rfl) dL_law_642 ?_
  exact gl_same (pc := 645) X 2061 dL_law_645 rfl (k S' T' hr')
set_option maxRecDepth 100000 in
theorem lc_12 (X : Cl p s m c D cI cB Z b L xs) {i : Nat} (hi : i + 5 < L) (hr : Rel S T) (k : ∀ S' T' : Mem, Rel S' T' → Gl p l e s m below meth c D cI cB b aC aM Q 2061 [(0, .ref b), (1, .ref (aC 0)), (2, .ref (aM 0)), (3, .int (i32 (i : Int)))] [] S' T') : Gl p l e s m below meth c D cI cB b aC aM Q 650 [(0, .ref b), (1, .ref (aC 0)), (2, .ref (aM 0)), (3, .int (i32 (i : Int)))] [] S T := by
  obtain ⟨r, S', T', h7, h8, hr'⟩ := Q_clear (a := (xs (i + 1)).toInt) hr (R32x _)
  refine gl_aload (pc := 650) X 1 dL_law_650 rfl rfl ?_
  refine gl_arg (pc := 651) X 0 3 (kk := 1) rfl rfl rfl (by omega) dL_law_651 dL_law_652 dL_law_653 dL_law_654 dL_law_655 ?_
  refine gl_callC (pc := 656) X 1 [] (ct_X7_clear h7) (gV mL_L_68 iM_X7_clear sl_X7_clear in_X7 cd_X7_clear) hd_X7_clear ⟨Nat.le_of_ble_eq_true rfl, Nat.le_of_ble_eq_true rfl⟩ rfl rfl (Nat.le_of_ble_eq_true rfl) dL_law_656 ?_
  refine gl_aload (pc := 659) X 2 dL_law_659 rfl rfl ?_
  refine gl_arg (pc := 660) X 0 3 (kk := 1) rfl rfl rfl (by omega) dL_law_660 dL_law_661 dL_law_662 dL_law_663 dL_law_664 ?_
  refine gl_callM (pc := 665) X 1 [.int (i32 r)] (ct_X8_clear h8) (gV mL_L_71 iM_X8_clear sl_X8_clear in_X8 cd_X8_clear) hd_X8_clear ⟨Nat.le_of_ble_eq_true rfl, Nat.le_of_ble_eq_true rfl⟩ rfl rfl (Nat.le_of_ble_eq_true rfl) dL_law_665 ?_
  exact gl_same (pc := 668) X 2061 dL_law_668 rfl (k S' T' hr')
set_option maxRecDepth 100000 in
theorem lc_13 (X : Cl p s m c D cI cB Z b L xs) {i : Nat} (hi : i + 5 < L) (hr : Rel S T) (k : ∀ S' T' : Mem, Rel S' T' → Gl p l e s m below meth c D cI cB b aC aM Q 2061 [(0, .ref b), (1, .ref (aC 0)), (2, .ref (aM 0)), (3, .int (i32 (i : Int)))] [] S' T') : Gl p l e s m below meth c D cI cB b aC aM Q 673 [(0, .ref b), (1, .ref (aC 0)), (2, .ref (aM 0)), (3, .int (i32 (i : Int)))] [] S T := by
  obtain ⟨r, S', T', h7, h8, hr'⟩ := Q_hold (k := (xs (i + 1)).toInt) hr (R32x _)
  refine gl_aload (pc := 673) X 1 dL_law_673 rfl rfl ?_
  refine gl_arg (pc := 674) X 0 3 (kk := 1) rfl rfl rfl (by omega) dL_law_674 dL_law_675 dL_law_676 dL_law_677 dL_law_678 ?_
  refine gl_callC (pc := 679) X 1 [] (ct_X7_hold h7) (gV mL_L_72 iM_X7_hold sl_X7_hold in_X7 cd_X7_hold) hd_X7_hold ⟨Nat.le_of_ble_eq_true rfl, Nat.le_of_ble_eq_true rfl⟩ rfl rfl (Nat.le_of_ble_eq_true rfl) dL_law_679 ?_
  refine gl_aload (pc := 682) X 2 dL_law_682 rfl rfl ?_
  refine gl_arg (pc := 683) X 0 3 (kk := 1) rfl rfl rfl (by omega) dL_law_683 dL_law_684 dL_law_685 dL_law_686 dL_law_687 ?_
  refine gl_callM (pc := 688) X 1 [.int (i32 r)] (ct_X8_hold h8) (gV mL_L_75 iM_X8_hold sl_X8_hold in_X8 cd_X8_hold) hd_X8_hold ⟨Nat.le_of_ble_eq_true rfl, Nat.le_of_ble_eq_true rfl⟩ rfl rfl (Nat.le_of_ble_eq_true rfl) dL_law_688 ?_
  exact gl_same (pc := 691) X 2061 dL_law_691 rfl (k S' T' hr')
set_option maxRecDepth 100000 in
theorem lc_14 (X : Cl p s m c D cI cB Z b L xs) {i : Nat} (hi : i + 5 < L) (hr : Rel S T) (k : ∀ S' T' : Mem, Rel S' T' → Gl p l e s m below meth c D cI cB b aC aM Q 2061 [(0, .ref b), (1, .ref (aC 0)), (2, .ref (aM 0)), (3, .int (i32 (i : Int)))] [] S' T') : Gl p l e s m below meth c D cI cB b aC aM Q 696 [(0, .ref b), (1, .ref (aC 0)), (2, .ref (aM 0)), (3, .int (i32 (i : Int)))] [] S T := by
  obtain ⟨r, S', T', h7, h8, hr'⟩ := Q_shade (a := (xs (i + 1)).toInt) (d := (xs (i + 2)).toInt) hr (R32x _) (R32x _)
  refine gl_aload (pc := 696) X 1 dL_law_696 rfl rfl ?_
  refine gl_arg (pc := 697) X 0 3 (kk := 1) rfl rfl rfl (by omega) dL_law_697 dL_law_698 dL_law_699 dL_law_700 dL_law_701 ?_
  refine gl_arg (pc := 702) X 0 3 (kk := 2) rfl rfl rfl (by omega) dL_law_702 dL_law_703 dL_law_704 dL_law_705 dL_law_706 ?_
  refine gl_callC (pc := 707) X 2 [] (ct_X7_shade h7) (gV mL_L_76 iM_X7_shade sl_X7_shade in_X7 cd_X7_shade) hd_X7_shade ⟨Nat.le_of_ble_eq_true rfl, Nat.le_of_ble_eq_true rfl⟩ rfl rfl (Nat.le_of_ble_eq_true rfl) dL_law_707 ?_
  refine gl_aload (pc := 710) X 2 dL_law_710 rfl rfl ?_
  refine gl_arg (pc := 711) X 0 3 (kk := 1) rfl rfl rfl (by omega) dL_law_711 dL_law_712 dL_law_713 dL_law_714 dL_law_715 ?_
  refine gl_arg (pc := 716) X 0 3 (kk := 2) rfl rfl rfl (by omega) dL_law_716 dL_law_717 dL_law_718 dL_law_719 dL_law_720 ?_
  refine gl_callM (pc := 721) X 2 [.int (i32 r)] (ct_X8_shade h8) (gV mL_L_79 iM_X8_shade sl_X8_shade in_X8 cd_X8_shade) hd_X8_shade ⟨Nat.le_of_ble_eq_true rfl, Nat.le_of_ble_eq_true rfl⟩ rfl rfl (Nat.le_of_ble_eq_true rfl) dL_law_721 ?_
  exact gl_same (pc := 724) X 2061 dL_law_724 rfl (k S' T' hr')
set_option maxRecDepth 100000 in
theorem lc_15 (X : Cl p s m c D cI cB Z b L xs) {i : Nat} (hi : i + 5 < L) (hr : Rel S T) (k : ∀ S' T' : Mem, Rel S' T' → Gl p l e s m below meth c D cI cB b aC aM Q 2061 [(0, .ref b), (1, .ref (aC 0)), (2, .ref (aM 0)), (3, .int (i32 (i : Int)))] [] S' T') : Gl p l e s m below meth c D cI cB b aC aM Q 729 [(0, .ref b), (1, .ref (aC 0)), (2, .ref (aM 0)), (3, .int (i32 (i : Int)))] [] S T := by
  obtain ⟨r, S', T', h7, h8, hr'⟩ := Q_swap (a := (xs (i + 1)).toInt) (c := (xs (i + 2)).toInt) hr (R32x _) (R32x _)
  refine gl_aload (pc := 729) X 1 dL_law_729 rfl rfl ?_
  refine gl_arg (pc := 730) X 0 3 (kk := 1) rfl rfl rfl (by omega) dL_law_730 dL_law_731 dL_law_732 dL_law_733 dL_law_734 ?_
  refine gl_arg (pc := 735) X 0 3 (kk := 2) rfl rfl rfl (by omega) dL_law_735 dL_law_736 dL_law_737 dL_law_738 dL_law_739 ?_
  refine gl_callC (pc := 740) X 2 [] (ct_X7_swap h7) (gV mL_L_80 iM_X7_swap sl_X7_swap in_X7 cd_X7_swap) hd_X7_swap ⟨Nat.le_of_ble_eq_true rfl, Nat.le_of_ble_eq_true rfl⟩ rfl rfl (Nat.le_of_ble_eq_true rfl) dL_law_740 ?_
  refine gl_aload (pc := 743) X 2 dL_law_743 rfl rfl ?_
  refine gl_arg (pc := 744) X 0 3 (kk := 1) rfl rfl rfl (by omega) dL_law_744 dL_law_745 dL_law_746 dL_law_747 dL_law_748 ?_
  refine gl_arg (pc := 749) X 0 3 (kk := 2) rfl rfl rfl (by omega) dL_law_749 dL_law_750 dL_law_751 dL_law_752 dL_law_753 ?_
  refine gl_callM (pc := 754) X 2 [.int (i32 r)] (ct_X8_swap h8) (gV mL_L_83 iM_X8_swap sl_X8_swap in_X8 cd_X8_swap) hd_X8_swap ⟨Nat.le_of_ble_eq_true rfl, Nat.le_of_ble_eq_true rfl⟩ rfl rfl (Nat.le_of_ble_eq_true rfl) dL_law_754 ?_
  exact gl_same (pc := 757) X 2061 dL_law_757 rfl (k S' T' hr')
set_option maxRecDepth 100000 in
theorem lc_16 (X : Cl p s m c D cI cB Z b L xs) {i : Nat} (hi : i + 5 < L) (hr : Rel S T) (k : ∀ S' T' : Mem, Rel S' T' → Gl p l e s m below meth c D cI cB b aC aM Q 2061 [(0, .ref b), (1, .ref (aC 0)), (2, .ref (aM 0)), (3, .int (i32 (i : Int)))] [] S' T') : Gl p l e s m below meth c D cI cB b aC aM Q 762 [(0, .ref b), (1, .ref (aC 0)), (2, .ref (aM 0)), (3, .int (i32 (i : Int)))] [] S T := by
  obtain ⟨r, S', T', h7, h8, hr'⟩ := Q_supply (a := (xs (i + 1)).toInt) hr (R32x _)
  refine gl_aload (pc := 762) X 1 dL_law_762 rfl rfl ?_
  refine gl_arg (pc := 763) X 0 3 (kk := 1) rfl rfl rfl (by omega) dL_law_763 dL_law_764 dL_law_765 dL_law_766 dL_law_767 ?_
  refine gl_callC (pc := 768) X 1 [] (ct_X7_supply h7) (gV mL_L_84 iM_X7_supply sl_X7_supply in_X7 cd_X7_supply) hd_X7_supply ⟨Nat.le_of_ble_eq_true rfl, Nat.le_of_ble_eq_true rfl⟩ rfl rfl (Nat.le_of_ble_eq_true rfl) dL_law_768 ?_
  refine gl_aload (pc := 771) X 2 dL_law_771 rfl rfl ?_
  refine gl_arg (pc := 772) X 0 3 (kk := 1) rfl rfl rfl (by omega) dL_law_772 dL_law_773 dL_law_774 dL_law_775 dL_law_776 ?_
  refine gl_callM (pc := 777) X 1 [.int (i32 r)] (ct_X8_supply h8) (gV mL_L_87 iM_X8_supply sl_X8_supply in_X8 cd_X8_supply) hd_X8_supply ⟨Nat.le_of_ble_eq_true rfl, Nat.le_of_ble_eq_true rfl⟩ rfl rfl (Nat.le_of_ble_eq_true rfl) dL_law_777 ?_
  exact gl_same (pc := 780) X 2061 dL_law_780 rfl (k S' T' hr')
set_option maxRecDepth 100000 in
theorem lc_17 (X : Cl p s m c D cI cB Z b L xs) {i : Nat} (hi : i + 5 < L) (hr : Rel S T) (k : ∀ S' T' : Mem, Rel S' T' → Gl p l e s m below meth c D cI cB b aC aM Q 2061 [(0, .ref b), (1, .ref (aC 0)), (2, .ref (aM 0)), (3, .int (i32 (i : Int)))] [] S' T') : Gl p l e s m below meth c D cI cB b aC aM Q 785 [(0, .ref b), (1, .ref (aC 0)), (2, .ref (aM 0)), (3, .int (i32 (i : Int)))] [] S T := by
  obtain ⟨r, S', T', h7, h8, hr'⟩ := Q_reserve (a := (xs (i + 1)).toInt) hr (R32x _)
  refine gl_aload (pc := 785) X 1 dL_law_785 rfl rfl ?_
  refine gl_arg (pc := 786) X 0 3 (kk := 1) rfl rfl rfl (by omega) dL_law_786 dL_law_787 dL_law_788 dL_law_789 dL_law_790 ?_
  refine gl_callC (pc := 791) X 1 [] (ct_X7_reserve h7) (gV mL_L_88 iM_X7_reserve sl_X7_reserve in_X7 cd_X7_reserve) hd_X7_reserve ⟨Nat.le_of_ble_eq_true rfl, Nat.le_of_ble_eq_true rfl⟩ rfl rfl (Nat.le_of_ble_eq_true rfl) dL_law_791 ?_
  refine gl_aload (pc := 794) X 2 dL_law_794 rfl rfl ?_
  refine gl_arg (pc := 795) X 0 3 (kk := 1) rfl rfl rfl (by omega) dL_law_795 dL_law_796 dL_law_797 dL_law_798 dL_law_799 ?_
  refine gl_callM (pc := 800) X 1 [.int (i32 r)] (ct_X8_reserve h8) (gV mL_L_91 iM_X8_reserve sl_X8_reserve in_X8 cd_X8_reserve) hd_X8_reserve ⟨Nat.le_of_ble_eq_true rfl, Nat.le_of_ble_eq_true rfl⟩ rfl rfl (Nat.le_of_ble_eq_true rfl) dL_law_800 ?_
  exact gl_same (pc := 803) X 2061 dL_law_803 rfl (k S' T' hr')
set_option maxRecDepth 100000 in
theorem lc_18 (X : Cl p s m c D cI cB Z b L xs) {i : Nat} (hi : i + 5 < L) (hr : Rel S T) (k : ∀ S' T' : Mem, Rel S' T' → Gl p l e s m below meth c D cI cB b aC aM Q 2061 [(0, .ref b), (1, .ref (aC 0)), (2, .ref (aM 0)), (3, .int (i32 (i : Int)))] [] S' T') : Gl p l e s m below meth c D cI cB b aC aM Q 808 [(0, .ref b), (1, .ref (aC 0)), (2, .ref (aM 0)), (3, .int (i32 (i : Int)))] [] S T := by
  obtain ⟨r, S', T', h7, h8, hr'⟩ := Q_undo  hr
  refine gl_aload (pc := 808) X 1 dL_law_808 rfl rfl ?_
  refine gl_callC (pc := 809) X 0 [] (ct_X7_undo h7) (gV mL_L_92 iM_X7_undo sl_X7_undo in_X7 cd_X7_undo) hd_X7_undo ⟨Nat.le_of_ble_eq_true rfl, Nat.le_of_ble_eq_true rfl⟩ rfl rfl (Nat.le_of_ble_eq_true rfl) dL_law_809 ?_
  refine gl_aload (pc := 812) X 2 dL_law_812 rfl rfl ?_
  refine gl_callM (pc := 813) X 0 [.int (i32 r)] (ct_X8_undo h8) (gV mL_L_95 iM_X8_undo sl_X8_undo in_X8 cd_X8_undo) hd_X8_undo ⟨Nat.le_of_ble_eq_true rfl, Nat.le_of_ble_eq_true rfl⟩ rfl rfl (Nat.le_of_ble_eq_true rfl) dL_law_813 ?_
  exact gl_same (pc := 816) X 2061 dL_law_816 rfl (k S' T' hr')
set_option maxRecDepth 100000 in
theorem lc_19 (X : Cl p s m c D cI cB Z b L xs) {i : Nat} (hi : i + 5 < L) (hr : Rel S T) (k : ∀ S' T' : Mem, Rel S' T' → Gl p l e s m below meth c D cI cB b aC aM Q 2061 [(0, .ref b), (1, .ref (aC 0)), (2, .ref (aM 0)), (3, .int (i32 (i : Int)))] [] S' T') : Gl p l e s m below meth c D cI cB b aC aM Q 821 [(0, .ref b), (1, .ref (aC 0)), (2, .ref (aM 0)), (3, .int (i32 (i : Int)))] [] S T := by
  obtain ⟨r, S', T', h7, h8, hr'⟩ := Q_of (a := (xs (i + 1)).toInt) (w := (xs (i + 2)).toInt) hr (R32x _) (R32x _)
  refine gl_aload (pc := 821) X 1 dL_law_821 rfl rfl ?_
  refine gl_arg (pc := 822) X 0 3 (kk := 1) rfl rfl rfl (by omega) dL_law_822 dL_law_823 dL_law_824 dL_law_825 dL_law_826 ?_
  refine gl_arg (pc := 827) X 0 3 (kk := 2) rfl rfl rfl (by omega) dL_law_827 dL_law_828 dL_law_829 dL_law_830 dL_law_831 ?_
  refine gl_callC (pc := 832) X 2 [] (ct_X7_of h7) (gV mL_L_96 iM_X7_of sl_X7_of in_X7 cd_X7_of) hd_X7_of ⟨Nat.le_of_ble_eq_true rfl, Nat.le_of_ble_eq_true rfl⟩ rfl rfl (Nat.le_of_ble_eq_true rfl) dL_law_832 ?_
  refine gl_aload (pc := 835) X 2 dL_law_835 rfl rfl ?_
  refine gl_arg (pc := 836) X 0 3 (kk := 1) rfl rfl rfl (by omega) dL_law_836 dL_law_837 dL_law_838 dL_law_839 dL_law_840 ?_
  refine gl_arg (pc := 841) X 0 3 (kk := 2) rfl rfl rfl (by omega) dL_law_841 dL_law_842 dL_law_843 dL_law_844 dL_law_845 ?_
  refine gl_callM (pc := 846) X 2 [.int (i32 r)] (ct_X8_of h8) (gV mL_L_99 iM_X8_of sl_X8_of in_X8 cd_X8_of) hd_X8_of ⟨Nat.le_of_ble_eq_true rfl, Nat.le_of_ble_eq_true rfl⟩ rfl rfl (Nat.le_of_ble_eq_true rfl) dL_law_846 ?_
  exact gl_same (pc := 849) X 2061 dL_law_849 rfl (k S' T' hr')
set_option maxRecDepth 100000 in
theorem lc_20 (X : Cl p s m c D cI cB Z b L xs) {i : Nat} (hi : i + 5 < L) (hr : Rel S T) (k : ∀ S' T' : Mem, Rel S' T' → Gl p l e s m below meth c D cI cB b aC aM Q 2061 [(0, .ref b), (1, .ref (aC 0)), (2, .ref (aM 0)), (3, .int (i32 (i : Int)))] [] S' T') : Gl p l e s m below meth c D cI cB b aC aM Q 854 [(0, .ref b), (1, .ref (aC 0)), (2, .ref (aM 0)), (3, .int (i32 (i : Int)))] [] S T := by
  obtain ⟨r, h7, h8⟩ := Q_valueOf (a := (xs (i + 1)).toInt) (i := (xs (i + 2)).toInt) hr (R32x _) (R32x _)
  refine gl_aload (pc := 854) X 1 dL_law_854 rfl rfl ?_
  refine gl_arg (pc := 855) X 0 3 (kk := 1) rfl rfl rfl (by omega) dL_law_855 dL_law_856 dL_law_857 dL_law_858 dL_law_859 ?_
  refine gl_arg (pc := 860) X 0 3 (kk := 2) rfl rfl rfl (by omega) dL_law_860 dL_law_861 dL_law_862 dL_law_863 dL_law_864 ?_
  refine gl_callC (pc := 865) X 2 [] (ct_X7_valueOf h7) (gV mL_L_100 iM_X7_valueOf sl_X7_valueOf in_X7 cd_X7_valueOf) hd_X7_valueOf ⟨Nat.le_of_ble_eq_true rfl, Nat.le_of_ble_eq_true rfl⟩ rfl rfl (Nat.le_of_ble_eq_true rfl) dL_law_865 ?_
  refine gl_aload (pc := 868) X 2 dL_law_868 rfl rfl ?_
  refine gl_arg (pc := 869) X 0 3 (kk := 1) rfl rfl rfl (by omega) dL_law_869 dL_law_870 dL_law_871 dL_law_872 dL_law_873 ?_
  refine gl_arg (pc := 874) X 0 3 (kk := 2) rfl rfl rfl (by omega) dL_law_874 dL_law_875 dL_law_876 dL_law_877 dL_law_878 ?_
  refine gl_callM (pc := 879) X 2 [.int (i32 r)] (ct_X8_valueOf h8) (gV mL_L_103 iM_X8_valueOf sl_X8_valueOf in_X8 cd_X8_valueOf) hd_X8_valueOf ⟨Nat.le_of_ble_eq_true rfl, Nat.le_of_ble_eq_true rfl⟩ rfl rfl (Nat.le_of_ble_eq_true rfl) dL_law_879 ?_
  exact gl_same (pc := 882) X 2061 dL_law_882 rfl (k S T hr)
set_option maxRecDepth 100000 in
theorem lc_21 (X : Cl p s m c D cI cB Z b L xs) {i : Nat} (hi : i + 5 < L) (hr : Rel S T) (k : ∀ S' T' : Mem, Rel S' T' → Gl p l e s m below meth c D cI cB b aC aM Q 2061 [(0, .ref b), (1, .ref (aC 0)), (2, .ref (aM 0)), (3, .int (i32 (i : Int)))] [] S' T') : Gl p l e s m below meth c D cI cB b aC aM Q 887 [(0, .ref b), (1, .ref (aC 0)), (2, .ref (aM 0)), (3, .int (i32 (i : Int)))] [] S T := by
  obtain ⟨r, S', T', h7, h8, hr'⟩ := Q_unit (a := (xs (i + 1)).toInt) (i := (xs (i + 2)).toInt) hr (R32x _) (R32x _)
  refine gl_aload (pc := 887) X 1 dL_law_887 rfl rfl ?_
  refine gl_arg (pc := 888) X 0 3 (kk := 1) rfl rfl rfl (by omega) dL_law_888 dL_law_889 dL_law_890 dL_law_891 dL_law_892 ?_
  refine gl_arg (pc := 893) X 0 3 (kk := 2) rfl rfl rfl (by omega) dL_law_893 dL_law_894 dL_law_895 dL_law_896 dL_law_897 ?_
  refine gl_callC (pc := 898) X 2 [] (ct_X7_unit h7) (gV mL_L_104 iM_X7_unit sl_X7_unit in_X7 cd_X7_unit) hd_X7_unit ⟨Nat.le_of_ble_eq_true rfl, Nat.le_of_ble_eq_true rfl⟩ rfl rfl (Nat.le_of_ble_eq_true rfl) dL_law_898 ?_
  refine gl_aload (pc := 901) X 2 dL_law_901 rfl rfl ?_
  refine gl_arg (pc := 902) X 0 3 (kk := 1) rfl rfl rfl (by omega) dL_law_902 dL_law_903 dL_law_904 dL_law_905 dL_law_906 ?_
  refine gl_arg (pc := 907) X 0 3 (kk := 2) rfl rfl rfl (by omega) dL_law_907 dL_law_908 dL_law_909 dL_law_910 dL_law_911 ?_
  refine gl_callM (pc := 912) X 2 [.int (i32 r)] (ct_X8_unit h8) (gV mL_L_107 iM_X8_unit sl_X8_unit in_X8 cd_X8_unit) hd_X8_unit ⟨Nat.le_of_ble_eq_true rfl, Nat.le_of_ble_eq_true rfl⟩ rfl rfl (Nat.le_of_ble_eq_true rfl) dL_law_912 ?_
  exact gl_same (pc := 915) X 2061 dL_law_915 rfl (k S' T' hr')
set_option maxRecDepth 100000 in
theorem lc_22 (X : Cl p s m c D cI cB Z b L xs) {i : Nat} (hi : i + 5 < L) (hr : Rel S T) (k : ∀ S' T' : Mem, Rel S' T' → Gl p l e s m below meth c D cI cB b aC aM Q 2061 [(0, .ref b), (1, .ref (aC 0)), (2, .ref (aM 0)), (3, .int (i32 (i : Int)))] [] S' T') : Gl p l e s m below meth c D cI cB b aC aM Q 920 [(0, .ref b), (1, .ref (aC 0)), (2, .ref (aM 0)), (3, .int (i32 (i : Int)))] [] S T := by
  obtain ⟨r, S', T', h7, h8, hr'⟩ := Q_pays (a := (xs (i + 1)).toInt) (k := (xs (i + 2)).toInt) hr (R32x _) (R32x _)
  refine gl_aload (pc := 920) X 1 dL_law_920 rfl rfl ?_
  refine gl_arg (pc := 921) X 0 3 (kk := 1) rfl rfl rfl (by omega) dL_law_921 dL_law_922 dL_law_923 dL_law_924 dL_law_925 ?_
  refine gl_arg (pc := 926) X 0 3 (kk := 2) rfl rfl rfl (by omega) dL_law_926 dL_law_927 dL_law_928 dL_law_929 dL_law_930 ?_
  refine gl_callC (pc := 931) X 2 [] (ct_X7_pays h7) (gV mL_L_108 iM_X7_pays sl_X7_pays in_X7 cd_X7_pays) hd_X7_pays ⟨Nat.le_of_ble_eq_true rfl, Nat.le_of_ble_eq_true rfl⟩ rfl rfl (Nat.le_of_ble_eq_true rfl) dL_law_931 ?_
  refine gl_aload (pc := 934) X 2 dL_law_934 rfl rfl ?_
  refine gl_arg (pc := 935) X 0 3 (kk := 1) rfl rfl rfl (by omega) dL_law_935 dL_law_936 dL_law_937 dL_law_938 dL_law_939 ?_
  refine gl_arg (pc := 940) X 0 3 (kk := 2) rfl rfl rfl (by omega) dL_law_940 dL_law_941 dL_law_942 dL_law_943 dL_law_944 ?_
  refine gl_callM (pc := 945) X 2 [.int (i32 r)] (ct_X8_pays h8) (gV mL_L_111 iM_X8_pays sl_X8_pays in_X8 cd_X8_pays) hd_X8_pays ⟨Nat.le_of_ble_eq_true rfl, Nat.le_of_ble_eq_true rfl⟩ rfl rfl (Nat.le_of_ble_eq_true rfl) dL_law_945 ?_
  exact gl_same (pc := 948) X 2061 dL_law_948 rfl (k S' T' hr')
set_option maxRecDepth 100000 in
theorem lc_23 (X : Cl p s m c D cI cB Z b L xs) {i : Nat} (hi : i + 5 < L) (hr : Rel S T) (k : ∀ S' T' : Mem, Rel S' T' → Gl p l e s m below meth c D cI cB b aC aM Q 2061 [(0, .ref b), (1, .ref (aC 0)), (2, .ref (aM 0)), (3, .int (i32 (i : Int)))] [] S' T') : Gl p l e s m below meth c D cI cB b aC aM Q 953 [(0, .ref b), (1, .ref (aC 0)), (2, .ref (aM 0)), (3, .int (i32 (i : Int)))] [] S T := by
  obtain ⟨r, S', T', h7, h8, hr'⟩ := Q_gain (a := (xs (i + 1)).toInt) (k := (xs (i + 2)).toInt) hr (R32x _) (R32x _)
  refine gl_aload (pc := 953) X 1 dL_law_953 rfl rfl ?_
  refine gl_arg (pc := 954) X 0 3 (kk := 1) rfl rfl rfl (by omega) dL_law_954 dL_law_955 dL_law_956 dL_law_957 dL_law_958 ?_
  refine gl_arg (pc := 959) X 0 3 (kk := 2) rfl rfl rfl (by omega) dL_law_959 dL_law_960 dL_law_961 dL_law_962 dL_law_963 ?_
  refine gl_callC (pc := 964) X 2 [] (ct_X7_gain h7) (gV mL_L_112 iM_X7_gain sl_X7_gain in_X7 cd_X7_gain) hd_X7_gain ⟨Nat.le_of_ble_eq_true rfl, Nat.le_of_ble_eq_true rfl⟩ rfl rfl (Nat.le_of_ble_eq_true rfl) dL_law_964 ?_
  refine gl_aload (pc := 967) X 2 dL_law_967 rfl rfl ?_
  refine gl_arg (pc := 968) X 0 3 (kk := 1) rfl rfl rfl (by omega) dL_law_968 dL_law_969 dL_law_970 dL_law_971 dL_law_972 ?_
  refine gl_arg (pc := 973) X 0 3 (kk := 2) rfl rfl rfl (by omega) dL_law_973 dL_law_974 dL_law_975 dL_law_976 dL_law_977 ?_
  refine gl_callM (pc := 978) X 2 [.int (i32 r)] (ct_X8_gain h8) (gV mL_L_115 iM_X8_gain sl_X8_gain in_X8 cd_X8_gain) hd_X8_gain ⟨Nat.le_of_ble_eq_true rfl, Nat.le_of_ble_eq_true rfl⟩ rfl rfl (Nat.le_of_ble_eq_true rfl) dL_law_978 ?_
  exact gl_same (pc := 981) X 2061 dL_law_981 rfl (k S' T' hr')
set_option maxRecDepth 100000 in
theorem lc_24 (X : Cl p s m c D cI cB Z b L xs) {i : Nat} (hi : i + 5 < L) (hr : Rel S T) (k : ∀ S' T' : Mem, Rel S' T' → Gl p l e s m below meth c D cI cB b aC aM Q 2061 [(0, .ref b), (1, .ref (aC 0)), (2, .ref (aM 0)), (3, .int (i32 (i : Int)))] [] S' T') : Gl p l e s m below meth c D cI cB b aC aM Q 986 [(0, .ref b), (1, .ref (aC 0)), (2, .ref (aM 0)), (3, .int (i32 (i : Int)))] [] S T := by
  obtain ⟨r, S', T', h7, h8, hr'⟩ := Q_at (a := (xs (i + 1)).toInt) (p := (xs (i + 2)).toInt) (w := (xs (i + 3)).toInt) hr (R32x _) (R32x _) (R32x _)
  refine gl_aload (pc := 986) X 1 dL_law_986 rfl rfl ?_
  refine gl_arg (pc := 987) X 0 3 (kk := 1) rfl rfl rfl (by omega) dL_law_987 dL_law_988 dL_law_989 dL_law_990 dL_law_991 ?_
  refine gl_arg (pc := 992) X 0 3 (kk := 2) rfl rfl rfl (by omega) dL_law_992 dL_law_993 dL_law_994 dL_law_995 dL_law_996 ?_
  refine gl_arg (pc := 997) X 0 3 (kk := 3) rfl rfl rfl (by omega) dL_law_997 dL_law_998 dL_law_999 dL_law_1000 dL_law_1001 ?_
  refine gl_callC (pc := 1002) X 3 [] (ct_X7_at h7) (gV mL_L_116 iM_X7_at sl_X7_at in_X7 cd_X7_at) hd_X7_at ⟨Nat.le_of_ble_eq_true rfl, Nat.le_of_ble_eq_true rfl⟩ rfl rfl (Nat.le_of_ble_eq_true rfl) dL_law_1002 ?_
  refine gl_aload (pc := 1005) X 2 dL_law_1005 rfl rfl ?_
  refine gl_arg (pc := 1006) X 0 3 (kk := 1) rfl rfl rfl (by omega) dL_law_1006 dL_law_1007 dL_law_1008 dL_law_1009 dL_law_1010 ?_
  refine gl_arg (pc := 1011) X 0 3 (kk := 2) rfl rfl rfl (by omega) dL_law_1011 dL_law_1012 dL_law_1013 dL_law_1014 dL_law_1015 ?_
  refine gl_arg (pc := 1016) X 0 3 (kk := 3) rfl rfl rfl (by omega) dL_law_1016 dL_law_1017 dL_law_1018 dL_law_1019 dL_law_1020 ?_
  refine gl_callM (pc := 1021) X 3 [.int (i32 r)] (ct_X8_at h8) (gV mL_L_119 iM_X8_at sl_X8_at in_X8 cd_X8_at) hd_X8_at ⟨Nat.le_of_ble_eq_true rfl, Nat.le_of_ble_eq_true rfl⟩ rfl rfl (Nat.le_of_ble_eq_true rfl) dL_law_1021 ?_
  exact gl_same (pc := 1024) X 2061 dL_law_1024 rfl (k S' T' hr')
set_option maxRecDepth 100000 in
theorem lc_25 (X : Cl p s m c D cI cB Z b L xs) {i : Nat} (hi : i + 5 < L) (hr : Rel S T) (k : ∀ S' T' : Mem, Rel S' T' → Gl p l e s m below meth c D cI cB b aC aM Q 2061 [(0, .ref b), (1, .ref (aC 0)), (2, .ref (aM 0)), (3, .int (i32 (i : Int)))] [] S' T') : Gl p l e s m below meth c D cI cB b aC aM Q 1029 [(0, .ref b), (1, .ref (aC 0)), (2, .ref (aM 0)), (3, .int (i32 (i : Int)))] [] S T := by
  obtain ⟨r, S', T', h7, h8, hr'⟩ := Q_result (w := (xs (i + 1)).toInt) hr (R32x _)
  refine gl_aload (pc := 1029) X 1 dL_law_1029 rfl rfl ?_
  refine gl_arg (pc := 1030) X 0 3 (kk := 1) rfl rfl rfl (by omega) dL_law_1030 dL_law_1031 dL_law_1032 dL_law_1033 dL_law_1034 ?_
  refine gl_callC (pc := 1035) X 1 [] (ct_X7_result h7) (gV mL_L_120 iM_X7_result sl_X7_result in_X7 cd_X7_result) hd_X7_result ⟨Nat.le_of_ble_eq_true rfl, Nat.le_of_ble_eq_true rfl⟩ rfl rfl (Nat.le_of_ble_eq_true rfl) dL_law_1035 ?_
  refine gl_aload (pc := 1038) X 2 dL_law_1038 rfl rfl ?_
  refine gl_arg (pc := 1039) X 0 3 (kk := 1) rfl rfl rfl (by omega) dL_law_1039 dL_law_1040 dL_law_1041 dL_law_1042 dL_law_1043 ?_
  refine gl_callM (pc := 1044) X 1 [.int (i32 r)] (ct_X8_result h8) (gV mL_L_123 iM_X8_result sl_X8_result in_X8 cd_X8_result) hd_X8_result ⟨Nat.le_of_ble_eq_true rfl, Nat.le_of_ble_eq_true rfl⟩ rfl rfl (Nat.le_of_ble_eq_true rfl) dL_law_1044 ?_
  exact gl_same (pc := 1047) X 2061 dL_law_1047 rfl (k S' T' hr')
set_option maxRecDepth 100000 in
theorem lc_26 (X : Cl p s m c D cI cB Z b L xs) {i : Nat} (hi : i + 5 < L) (hr : Rel S T) (k : ∀ S' T' : Mem, Rel S' T' → Gl p l e s m below meth c D cI cB b aC aM Q 2061 [(0, .ref b), (1, .ref (aC 0)), (2, .ref (aM 0)), (3, .int (i32 (i : Int)))] [] S' T') : Gl p l e s m below meth c D cI cB b aC aM Q 1052 [(0, .ref b), (1, .ref (aC 0)), (2, .ref (aM 0)), (3, .int (i32 (i : Int)))] [] S T := by
  obtain ⟨r, S', T', h7, h8, hr'⟩ := Q_paid (k := (xs (i + 1)).toInt) hr (R32x _)
  refine gl_aload (pc := 1052) X 1 dL_law_1052 rfl rfl ?_
  refine gl_arg (pc := 1053) X 0 3 (kk := 1) rfl rfl rfl (by omega) dL_law_1053 dL_law_1054 dL_law_1055 dL_law_1056 dL_law_1057 ?_
  refine gl_callC (pc := 1058) X 1 [] (ct_X7_paid h7) (gV mL_L_124 iM_X7_paid sl_X7_paid in_X7 cd_X7_paid) hd_X7_paid ⟨Nat.le_of_ble_eq_true rfl, Nat.le_of_ble_eq_true rfl⟩ rfl rfl (Nat.le_of_ble_eq_true rfl) dL_law_1058 ?_
  refine gl_aload (pc := 1061) X 2 dL_law_1061 rfl rfl ?_
  refine gl_arg (pc := 1062) X 0 3 (kk := 1) rfl rfl rfl (by omega) dL_law_1062 dL_law_1063 dL_law_1064 dL_law_1065 dL_law_1066 ?_
  refine gl_callM (pc := 1067) X 1 [.int (i32 r)] (ct_X8_paid h8) (gV mL_L_127 iM_X8_paid sl_X8_paid in_X8 cd_X8_paid) hd_X8_paid ⟨Nat.le_of_ble_eq_true rfl, Nat.le_of_ble_eq_true rfl⟩ rfl rfl (Nat.le_of_ble_eq_true rfl) dL_law_1067 ?_
  exact gl_same (pc := 1070) X 2061 dL_law_1070 rfl (k S' T' hr')
set_option maxRecDepth 100000 in
theorem lc_27 (X : Cl p s m c D cI cB Z b L xs) {i : Nat} (hi : i + 5 < L) (hr : Rel S T) (k : ∀ S' T' : Mem, Rel S' T' → Gl p l e s m below meth c D cI cB b aC aM Q 2061 [(0, .ref b), (1, .ref (aC 0)), (2, .ref (aM 0)), (3, .int (i32 (i : Int)))] [] S' T') : Gl p l e s m below meth c D cI cB b aC aM Q 1075 [(0, .ref b), (1, .ref (aC 0)), (2, .ref (aM 0)), (3, .int (i32 (i : Int)))] [] S T := by
  obtain ⟨r, h7, h8⟩ := Q_wanted (p := (xs (i + 1)).toInt) hr (R32x _)
  refine gl_aload (pc := 1075) X 1 dL_law_1075 rfl rfl ?_
  refine gl_arg (pc := 1076) X 0 3 (kk := 1) rfl rfl rfl (by omega) dL_law_1076 dL_law_1077 dL_law_1078 dL_law_1079 dL_law_1080 ?_
  refine gl_callC (pc := 1081) X 1 [] (ct_X7_wanted h7) (gV mL_L_128 iM_X7_wanted sl_X7_wanted in_X7 cd_X7_wanted) hd_X7_wanted ⟨Nat.le_of_ble_eq_true rfl, Nat.le_of_ble_eq_true rfl⟩ rfl rfl (Nat.le_of_ble_eq_true rfl) dL_law_1081 ?_
  refine gl_aload (pc := 1084) X 2 dL_law_1084 rfl rfl ?_
  refine gl_arg (pc := 1085) X 0 3 (kk := 1) rfl rfl rfl (by omega) dL_law_1085 dL_law_1086 dL_law_1087 dL_law_1088 dL_law_1089 ?_
  refine gl_callM (pc := 1090) X 1 [.int (i32 r)] (ct_X8_wanted h8) (gV mL_L_131 iM_X8_wanted sl_X8_wanted in_X8 cd_X8_wanted) hd_X8_wanted ⟨Nat.le_of_ble_eq_true rfl, Nat.le_of_ble_eq_true rfl⟩ rfl rfl (Nat.le_of_ble_eq_true rfl) dL_law_1090 ?_
  exact gl_same (pc := 1093) X 2061 dL_law_1093 rfl (k S T hr)
set_option maxRecDepth 100000 in
theorem lc_28 (X : Cl p s m c D cI cB Z b L xs) {i : Nat} (hi : i + 5 < L) (hr : Rel S T) (k : ∀ S' T' : Mem, Rel S' T' → Gl p l e s m below meth c D cI cB b aC aM Q 2061 [(0, .ref b), (1, .ref (aC 0)), (2, .ref (aM 0)), (3, .int (i32 (i : Int)))] [] S' T') : Gl p l e s m below meth c D cI cB b aC aM Q 1098 [(0, .ref b), (1, .ref (aC 0)), (2, .ref (aM 0)), (3, .int (i32 (i : Int)))] [] S T := by
  obtain ⟨r, S', T', h7, h8, hr'⟩ := Q_sold (a := (xs (i + 1)).toInt) (w := (xs (i + 2)).toInt) hr (R32x _) (R32x _)
  refine gl_aload (pc := 1098) X 1 dL_law_1098 rfl rfl ?_
  refine gl_arg (pc := 1099) X 0 3 (kk := 1) rfl rfl rfl (by omega) dL_law_1099 dL_law_1100 dL_law_1101 dL_law_1102 dL_law_1103 ?_
  refine gl_arg (pc := 1104) X 0 3 (kk := 2) rfl rfl rfl (by omega) dL_law_1104 dL_law_1105 dL_law_1106 dL_law_1107 dL_law_1108 ?_
  refine gl_callC (pc := 1109) X 2 [] (ct_X7_sold h7) (gV mL_L_132 iM_X7_sold sl_X7_sold in_X7 cd_X7_sold) hd_X7_sold ⟨Nat.le_of_ble_eq_true rfl, Nat.le_of_ble_eq_true rfl⟩ rfl rfl (Nat.le_of_ble_eq_true rfl) dL_law_1109 ?_
  refine gl_aload (pc := 1112) X 2 dL_law_1112 rfl rfl ?_
  refine gl_arg (pc := 1113) X 0 3 (kk := 1) rfl rfl rfl (by omega) dL_law_1113 dL_law_1114 dL_law_1115 dL_law_1116 dL_law_1117 ?_
  refine gl_arg (pc := 1118) X 0 3 (kk := 2) rfl rfl rfl (by omega) dL_law_1118 dL_law_1119 dL_law_1120 dL_law_1121 dL_law_1122 ?_
  refine gl_callM (pc := 1123) X 2 [.int (i32 r)] (ct_X8_sold h8) (gV mL_L_135 iM_X8_sold sl_X8_sold in_X8 cd_X8_sold) hd_X8_sold ⟨Nat.le_of_ble_eq_true rfl, Nat.le_of_ble_eq_true rfl⟩ rfl rfl (Nat.le_of_ble_eq_true rfl) dL_law_1123 ?_
  exact gl_same (pc := 1126) X 2061 dL_law_1126 rfl (k S' T' hr')
set_option maxRecDepth 100000 in
theorem lc_29 (X : Cl p s m c D cI cB Z b L xs) {i : Nat} (hi : i + 5 < L) (hr : Rel S T) (k : ∀ S' T' : Mem, Rel S' T' → Gl p l e s m below meth c D cI cB b aC aM Q 2061 [(0, .ref b), (1, .ref (aC 0)), (2, .ref (aM 0)), (3, .int (i32 (i : Int)))] [] S' T') : Gl p l e s m below meth c D cI cB b aC aM Q 1131 [(0, .ref b), (1, .ref (aC 0)), (2, .ref (aM 0)), (3, .int (i32 (i : Int)))] [] S T := by
  obtain ⟨r, S', T', h7, h8, hr'⟩ := Q_worth (a := (xs (i + 1)).toInt) (u := (xs (i + 2)).toInt) hr (R32x _) (R32x _)
  refine gl_aload (pc := 1131) X 1 dL_law_1131 rfl rfl ?_
  refine gl_arg (pc := 1132) X 0 3 (kk := 1) rfl rfl rfl (by omega) dL_law_1132 dL_law_1133 dL_law_1134 dL_law_1135 dL_law_1136 ?_
  refine gl_arg (pc := 1137) X 0 3 (kk := 2) rfl rfl rfl (by omega) dL_law_1137 dL_law_1138 dL_law_1139 dL_law_1140 dL_law_1141 ?_
  refine gl_callC (pc := 1142) X 2 [] (ct_X7_worth h7) (gV mL_L_136 iM_X7_worth sl_X7_worth in_X7 cd_X7_worth) hd_X7_worth ⟨Nat.le_of_ble_eq_true rfl, Nat.le_of_ble_eq_true rfl⟩ rfl rfl (Nat.le_of_ble_eq_true rfl) dL_law_1142 ?_
  refine gl_aload (pc := 1145) X 2 dL_law_1145 rfl rfl ?_
  refine gl_arg (pc := 1146) X 0 3 (kk := 1) rfl rfl rfl (by omega) dL_law_1146 dL_law_1147 dL_law_1148 dL_law_1149 dL_law_1150 ?_
  refine gl_arg (pc := 1151) X 0 3 (kk := 2) rfl rfl rfl (by omega) dL_law_1151 dL_law_1152 dL_law_1153 dL_law_1154 dL_law_1155 ?_
  refine gl_callM (pc := 1156) X 2 [.int (i32 r)] (ct_X8_worth h8) (gV mL_L_139 iM_X8_worth sl_X8_worth in_X8 cd_X8_worth) hd_X8_worth ⟨Nat.le_of_ble_eq_true rfl, Nat.le_of_ble_eq_true rfl⟩ rfl rfl (Nat.le_of_ble_eq_true rfl) dL_law_1156 ?_
  exact gl_same (pc := 1159) X 2061 dL_law_1159 rfl (k S' T' hr')
set_option maxRecDepth 100000 in
theorem lc_30 (X : Cl p s m c D cI cB Z b L xs) {i : Nat} (hi : i + 5 < L) (hr : Rel S T) (k : ∀ S' T' : Mem, Rel S' T' → Gl p l e s m below meth c D cI cB b aC aM Q 2061 [(0, .ref b), (1, .ref (aC 0)), (2, .ref (aM 0)), (3, .int (i32 (i : Int)))] [] S' T') : Gl p l e s m below meth c D cI cB b aC aM Q 1164 [(0, .ref b), (1, .ref (aC 0)), (2, .ref (aM 0)), (3, .int (i32 (i : Int)))] [] S T := by
  obtain ⟨r, S', T', h7, h8, hr'⟩ := Q_clinch (a := (xs (i + 1)).toInt) (n := (xs (i + 2)).toInt) (w := (xs (i + 3)).toInt) hr (R32x _) (R32x _) (R32x _)
  refine gl_aload (pc := 1164) X 1 dL_law_1164 rfl rfl ?_
  refine gl_arg (pc := 1165) X 0 3 (kk := 1) rfl rfl rfl (by omega) dL_law_1165 dL_law_1166 dL_law_1167 dL_law_1168 dL_law_1169 ?_
  refine gl_arg (pc := 1170) X 0 3 (kk := 2) rfl rfl rfl (by omega) dL_law_1170 dL_law_1171 dL_law_1172 dL_law_1173 dL_law_1174 ?_
  refine gl_arg (pc := 1175) X 0 3 (kk := 3) rfl rfl rfl (by omega) dL_law_1175 dL_law_1176 dL_law_1177 dL_law_1178 dL_law_1179 ?_
  refine gl_callC (pc := 1180) X 3 [] (ct_X7_clinch h7) (gV mL_L_140 iM_X7_clinch sl_X7_clinch in_X7 cd_X7_clinch) hd_X7_clinch ⟨Nat.le_of_ble_eq_true rfl, Nat.le_of_ble_eq_true rfl⟩ rfl rfl (Nat.le_of_ble_eq_true rfl) dL_law_1180 ?_
  refine gl_aload (pc := 1183) X 2 dL_law_1183 rfl rfl ?_
  refine gl_arg (pc := 1184) X 0 3 (kk := 1) rfl rfl rfl (by omega) dL_law_1184 dL_law_1185 dL_law_1186 dL_law_1187 dL_law_1188 ?_
  refine gl_arg (pc := 1189) X 0 3 (kk := 2) rfl rfl rfl (by omega) dL_law_1189 dL_law_1190 dL_law_1191 dL_law_1192 dL_law_1193 ?_
  refine gl_arg (pc := 1194) X 0 3 (kk := 3) rfl rfl rfl (by omega) dL_law_1194 dL_law_1195 dL_law_1196 dL_law_1197 dL_law_1198 ?_
  refine gl_callM (pc := 1199) X 3 [.int (i32 r)] (ct_X8_clinch h8) (gV mL_L_143 iM_X8_clinch sl_X8_clinch in_X8 cd_X8_clinch) hd_X8_clinch ⟨Nat.le_of_ble_eq_true rfl, Nat.le_of_ble_eq_true rfl⟩ rfl rfl (Nat.le_of_ble_eq_true rfl) dL_law_1199 ?_
  exact gl_same (pc := 1202) X 2061 dL_law_1202 rfl (k S' T' hr')
set_option maxRecDepth 100000 in
theorem lc_31 (X : Cl p s m c D cI cB Z b L xs) {i : Nat} (hi : i + 5 < L) (hr : Rel S T) (k : ∀ S' T' : Mem, Rel S' T' → Gl p l e s m below meth c D cI cB b aC aM Q 2061 [(0, .ref b), (1, .ref (aC 0)), (2, .ref (aM 0)), (3, .int (i32 (i : Int)))] [] S' T') : Gl p l e s m below meth c D cI cB b aC aM Q 1207 [(0, .ref b), (1, .ref (aC 0)), (2, .ref (aM 0)), (3, .int (i32 (i : Int)))] [] S T := by
  obtain ⟨r, S', T', h7, h8, hr'⟩ := Q_dearest (k := (xs (i + 1)).toInt) hr (R32x _)
  refine gl_aload (pc := 1207) X 1 dL_law_1207 rfl rfl ?_
  refine gl_arg (pc := 1208) X 0 3 (kk := 1) rfl rfl rfl (by omega) dL_law_1208 dL_law_1209 dL_law_1210 dL_law_1211 dL_law_1212 ?_
  refine gl_callC (pc := 1213) X 1 [] (ct_X7_dearest h7) (gV mL_L_144 iM_X7_dearest sl_X7_dearest in_X7 cd_X7_dearest) hd_X7_dearest ⟨Nat.le_of_ble_eq_true rfl, Nat.le_of_ble_eq_true rfl⟩ rfl rfl (Nat.le_of_ble_eq_true rfl) dL_law_1213 ?_
  refine gl_aload (pc := 1216) X 2 dL_law_1216 rfl rfl ?_
  refine gl_arg (pc := 1217) X 0 3 (kk := 1) rfl rfl rfl (by omega) dL_law_1217 dL_law_1218 dL_law_1219 dL_law_1220 dL_law_1221 ?_
  refine gl_callM (pc := 1222) X 1 [.int (i32 r)] (ct_X8_dearest h8) (gV mL_L_147 iM_X8_dearest sl_X8_dearest in_X8 cd_X8_dearest) hd_X8_dearest ⟨Nat.le_of_ble_eq_true rfl, Nat.le_of_ble_eq_true rfl⟩ rfl rfl (Nat.le_of_ble_eq_true rfl) dL_law_1222 ?_
  exact gl_same (pc := 1225) X 2061 dL_law_1225 rfl (k S' T' hr')
set_option maxRecDepth 100000 in
theorem lc_32 (X : Cl p s m c D cI cB Z b L xs) {i : Nat} (hi : i + 5 < L) (hr : Rel S T) (k : ∀ S' T' : Mem, Rel S' T' → Gl p l e s m below meth c D cI cB b aC aM Q 2061 [(0, .ref b), (1, .ref (aC 0)), (2, .ref (aM 0)), (3, .int (i32 (i : Int)))] [] S' T') : Gl p l e s m below meth c D cI cB b aC aM Q 1230 [(0, .ref b), (1, .ref (aC 0)), (2, .ref (aM 0)), (3, .int (i32 (i : Int)))] [] S T := by
  obtain ⟨r, S', T', h7, h8, hr'⟩ := Q_perUnit (a := (xs (i + 1)).toInt) (k := (xs (i + 2)).toInt) hr (R32x _) (R32x _)
  refine gl_aload (pc := 1230) X 1 dL_law_1230 rfl rfl ?_
  refine gl_arg (pc := 1231) X 0 3 (kk := 1) rfl rfl rfl (by omega) dL_law_1231 dL_law_1232 dL_law_1233 dL_law_1234 dL_law_1235 ?_
  refine gl_arg (pc := 1236) X 0 3 (kk := 2) rfl rfl rfl (by omega) dL_law_1236 dL_law_1237 dL_law_1238 dL_law_1239 dL_law_1240 ?_
  refine gl_callC (pc := 1241) X 2 [] (ct_X7_perUnit h7) (gV mL_L_148 iM_X7_perUnit sl_X7_perUnit in_X7 cd_X7_perUnit) hd_X7_perUnit ⟨Nat.le_of_ble_eq_true rfl, Nat.le_of_ble_eq_true rfl⟩ rfl rfl (Nat.le_of_ble_eq_true rfl) dL_law_1241 ?_
  refine gl_aload (pc := 1244) X 2 dL_law_1244 rfl rfl ?_
  refine gl_arg (pc := 1245) X 0 3 (kk := 1) rfl rfl rfl (by omega) dL_law_1245 dL_law_1246 dL_law_1247 dL_law_1248 dL_law_1249 ?_
  refine gl_arg (pc := 1250) X 0 3 (kk := 2) rfl rfl rfl (by omega) dL_law_1250 dL_law_1251 dL_law_1252 dL_law_1253 dL_law_1254 ?_
  refine gl_callM (pc := 1255) X 2 [.int (i32 r)] (ct_X8_perUnit h8) (gV mL_L_151 iM_X8_perUnit sl_X8_perUnit in_X8 cd_X8_perUnit) hd_X8_perUnit ⟨Nat.le_of_ble_eq_true rfl, Nat.le_of_ble_eq_true rfl⟩ rfl rfl (Nat.le_of_ble_eq_true rfl) dL_law_1255 ?_
  exact gl_same (pc := 1258) X 2061 dL_law_1258 rfl (k S' T' hr')
set_option maxRecDepth 100000 in
theorem lc_33 (X : Cl p s m c D cI cB Z b L xs) {i : Nat} (hi : i + 5 < L) (hr : Rel S T) (k : ∀ S' T' : Mem, Rel S' T' → Gl p l e s m below meth c D cI cB b aC aM Q 2061 [(0, .ref b), (1, .ref (aC 0)), (2, .ref (aM 0)), (3, .int (i32 (i : Int)))] [] S' T') : Gl p l e s m below meth c D cI cB b aC aM Q 1263 [(0, .ref b), (1, .ref (aC 0)), (2, .ref (aM 0)), (3, .int (i32 (i : Int)))] [] S T := by
  obtain ⟨r, h7, h8⟩ := Q_alike (a := (xs (i + 1)).toInt) (c := (xs (i + 2)).toInt) hr (R32x _) (R32x _)
  refine gl_aload (pc := 1263) X 1 dL_law_1263 rfl rfl ?_
  refine gl_arg (pc := 1264) X 0 3 (kk := 1) rfl rfl rfl (by omega) dL_law_1264 dL_law_1265 dL_law_1266 dL_law_1267 dL_law_1268 ?_
  refine gl_arg (pc := 1269) X 0 3 (kk := 2) rfl rfl rfl (by omega) dL_law_1269 dL_law_1270 dL_law_1271 dL_law_1272 dL_law_1273 ?_
  refine gl_callC (pc := 1274) X 2 [] (ct_X7_alike h7) (gV mL_L_152 iM_X7_alike sl_X7_alike in_X7 cd_X7_alike) hd_X7_alike ⟨Nat.le_of_ble_eq_true rfl, Nat.le_of_ble_eq_true rfl⟩ rfl rfl (Nat.le_of_ble_eq_true rfl) dL_law_1274 ?_
  refine gl_aload (pc := 1277) X 2 dL_law_1277 rfl rfl ?_
  refine gl_arg (pc := 1278) X 0 3 (kk := 1) rfl rfl rfl (by omega) dL_law_1278 dL_law_1279 dL_law_1280 dL_law_1281 dL_law_1282 ?_
  refine gl_arg (pc := 1283) X 0 3 (kk := 2) rfl rfl rfl (by omega) dL_law_1283 dL_law_1284 dL_law_1285 dL_law_1286 dL_law_1287 ?_
  refine gl_callM (pc := 1288) X 2 [.int (i32 r)] (ct_X8_alike h8) (gV mL_L_155 iM_X8_alike sl_X8_alike in_X8 cd_X8_alike) hd_X8_alike ⟨Nat.le_of_ble_eq_true rfl, Nat.le_of_ble_eq_true rfl⟩ rfl rfl (Nat.le_of_ble_eq_true rfl) dL_law_1288 ?_
  exact gl_same (pc := 1291) X 2061 dL_law_1291 rfl (k S T hr)
set_option maxRecDepth 100000 in
theorem lc_34 (X : Cl p s m c D cI cB Z b L xs) {i : Nat} (hi : i + 5 < L) (hr : Rel S T) (k : ∀ S' T' : Mem, Rel S' T' → Gl p l e s m below meth c D cI cB b aC aM Q 2061 [(0, .ref b), (1, .ref (aC 0)), (2, .ref (aM 0)), (3, .int (i32 (i : Int)))] [] S' T') : Gl p l e s m below meth c D cI cB b aC aM Q 1296 [(0, .ref b), (1, .ref (aC 0)), (2, .ref (aM 0)), (3, .int (i32 (i : Int)))] [] S T := by
  obtain ⟨r, S', h7, h8, hr'⟩ := Q_ranked (a := (xs (i + 1)).toInt) (w := (xs (i + 2)).toInt) hr (R32x _) (R32x _)
  refine gl_aload (pc := 1296) X 1 dL_law_1296 rfl rfl ?_
  refine gl_arg (pc := 1297) X 0 3 (kk := 1) rfl rfl rfl (by omega) dL_law_1297 dL_law_1298 dL_law_1299 dL_law_1300 dL_law_1301 ?_
  refine gl_arg (pc := 1302) X 0 3 (kk := 2) rfl rfl rfl (by omega) dL_law_1302 dL_law_1303 dL_law_1304 dL_law_1305 dL_law_1306 ?_
  refine gl_callC (pc := 1307) X 2 [] (ct_X7_ranked h7) (gV mL_L_156 iM_X7_ranked sl_X7_ranked in_X7 cd_X7_ranked) hd_X7_ranked ⟨Nat.le_of_ble_eq_true rfl, Nat.le_of_ble_eq_true rfl⟩ rfl rfl (Nat.le_of_ble_eq_true rfl) dL_law_1307 ?_
  refine gl_aload (pc := 1310) X 2 dL_law_1310 rfl rfl ?_
  refine gl_arg (pc := 1311) X 0 3 (kk := 1) rfl rfl rfl (by omega) dL_law_1311 dL_law_1312 dL_law_1313 dL_law_1314 dL_law_1315 ?_
  refine gl_arg (pc := 1316) X 0 3 (kk := 2) rfl rfl rfl (by omega) dL_law_1316 dL_law_1317 dL_law_1318 dL_law_1319 dL_law_1320 ?_
  refine gl_callM (pc := 1321) X 2 [.int (i32 r)] (ct_X8_ranked h8) (gV mL_L_159 iM_X8_ranked sl_X8_ranked in_X8 cd_X8_ranked) hd_X8_ranked ⟨Nat.le_of_ble_eq_true rfl, Nat.le_of_ble_eq_true rfl⟩ rfl rfl (Nat.le_of_ble_eq_true rfl) dL_law_1321 ?_
  exact gl_same (pc := 1324) X 2061 dL_law_1324 rfl (k S' T hr')
set_option maxRecDepth 100000 in
theorem lc_35 (X : Cl p s m c D cI cB Z b L xs) {i : Nat} (hi : i + 5 < L) (hr : Rel S T) (k : ∀ S' T' : Mem, Rel S' T' → Gl p l e s m below meth c D cI cB b aC aM Q 2061 [(0, .ref b), (1, .ref (aC 0)), (2, .ref (aM 0)), (3, .int (i32 (i : Int)))] [] S' T') : Gl p l e s m below meth c D cI cB b aC aM Q 1329 [(0, .ref b), (1, .ref (aC 0)), (2, .ref (aM 0)), (3, .int (i32 (i : Int)))] [] S T := by
  obtain ⟨r, h7, h8⟩ := Q_priceFor (n := (xs (i + 1)).toInt) hr (R32x _)
  refine gl_aload (pc := 1329) X 1 dL_law_1329 rfl rfl ?_
  refine gl_arg (pc := 1330) X 0 3 (kk := 1) rfl rfl rfl (by omega) dL_law_1330 dL_law_1331 dL_law_1332 dL_law_1333 dL_law_1334 ?_
  refine gl_callC (pc := 1335) X 1 [] (ct_X7_priceFor h7) (gV mL_L_160 iM_X7_priceFor sl_X7_priceFor in_X7 cd_X7_priceFor) hd_X7_priceFor ⟨Nat.le_of_ble_eq_true rfl, Nat.le_of_ble_eq_true rfl⟩ rfl rfl (Nat.le_of_ble_eq_true rfl) dL_law_1335 ?_
  refine gl_aload (pc := 1338) X 2 dL_law_1338 rfl rfl ?_
  refine gl_arg (pc := 1339) X 0 3 (kk := 1) rfl rfl rfl (by omega) dL_law_1339 dL_law_1340 dL_law_1341 dL_law_1342 dL_law_1343 ?_
  refine gl_callM (pc := 1344) X 1 [.int (i32 r)] (ct_X8_priceFor h8) (gV mL_L_163 iM_X8_priceFor sl_X8_priceFor in_X8 cd_X8_priceFor) hd_X8_priceFor ⟨Nat.le_of_ble_eq_true rfl, Nat.le_of_ble_eq_true rfl⟩ rfl rfl (Nat.le_of_ble_eq_true rfl) dL_law_1344 ?_
  exact gl_same (pc := 1347) X 2061 dL_law_1347 rfl (k S T hr)
set_option maxRecDepth 100000 in
theorem lc_36 (X : Cl p s m c D cI cB Z b L xs) {i : Nat} (hi : i + 5 < L) (hr : Rel S T) (k : ∀ S' T' : Mem, Rel S' T' → Gl p l e s m below meth c D cI cB b aC aM Q 2061 [(0, .ref b), (1, .ref (aC 0)), (2, .ref (aM 0)), (3, .int (i32 (i : Int)))] [] S' T') : Gl p l e s m below meth c D cI cB b aC aM Q 1352 [(0, .ref b), (1, .ref (aC 0)), (2, .ref (aM 0)), (3, .int (i32 (i : Int)))] [] S T := by
  obtain ⟨r, h7, h8⟩ := Q_step (n := (xs (i + 1)).toInt) (w := (xs (i + 2)).toInt) hr (R32x _) (R32x _)
  refine gl_aload (pc := 1352) X 1 dL_law_1352 rfl rfl ?_
  refine gl_arg (pc := 1353) X 0 3 (kk := 1) rfl rfl rfl (by omega) dL_law_1353 dL_law_1354 dL_law_1355 dL_law_1356 dL_law_1357 ?_
  refine gl_arg (pc := 1358) X 0 3 (kk := 2) rfl rfl rfl (by omega) dL_law_1358 dL_law_1359 dL_law_1360 dL_law_1361 dL_law_1362 ?_
  refine gl_callC (pc := 1363) X 2 [] (ct_X7_step h7) (gV mL_L_164 iM_X7_step sl_X7_step in_X7 cd_X7_step) hd_X7_step ⟨Nat.le_of_ble_eq_true rfl, Nat.le_of_ble_eq_true rfl⟩ rfl rfl (Nat.le_of_ble_eq_true rfl) dL_law_1363 ?_
  refine gl_aload (pc := 1366) X 2 dL_law_1366 rfl rfl ?_
  refine gl_arg (pc := 1367) X 0 3 (kk := 1) rfl rfl rfl (by omega) dL_law_1367 dL_law_1368 dL_law_1369 dL_law_1370 dL_law_1371 ?_
  refine gl_arg (pc := 1372) X 0 3 (kk := 2) rfl rfl rfl (by omega) dL_law_1372 dL_law_1373 dL_law_1374 dL_law_1375 dL_law_1376 ?_
  refine gl_callM (pc := 1377) X 2 [.int (i32 r)] (ct_X8_step h8) (gV mL_L_167 iM_X8_step sl_X8_step in_X8 cd_X8_step) hd_X8_step ⟨Nat.le_of_ble_eq_true rfl, Nat.le_of_ble_eq_true rfl⟩ rfl rfl (Nat.le_of_ble_eq_true rfl) dL_law_1377 ?_
  exact gl_same (pc := 1380) X 2061 dL_law_1380 rfl (k S T hr)
set_option maxRecDepth 100000 in
theorem lc_37 (X : Cl p s m c D cI cB Z b L xs) {i : Nat} (hi : i + 5 < L) (hr : Rel S T) (k : ∀ S' T' : Mem, Rel S' T' → Gl p l e s m below meth c D cI cB b aC aM Q 2061 [(0, .ref b), (1, .ref (aC 0)), (2, .ref (aM 0)), (3, .int (i32 (i : Int)))] [] S' T') : Gl p l e s m below meth c D cI cB b aC aM Q 1385 [(0, .ref b), (1, .ref (aC 0)), (2, .ref (aM 0)), (3, .int (i32 (i : Int)))] [] S T := by
  obtain ⟨r, S', T', h7, h8, hr'⟩ := Q_envies (a := (xs (i + 1)).toInt) (k := (xs (i + 2)).toInt) hr (R32x _) (R32x _)
  refine gl_aload (pc := 1385) X 1 dL_law_1385 rfl rfl ?_
  refine gl_arg (pc := 1386) X 0 3 (kk := 1) rfl rfl rfl (by omega) dL_law_1386 dL_law_1387 dL_law_1388 dL_law_1389 dL_law_1390 ?_
  refine gl_arg (pc := 1391) X 0 3 (kk := 2) rfl rfl rfl (by omega) dL_law_1391 dL_law_1392 dL_law_1393 dL_law_1394 dL_law_1395 ?_
  refine gl_callC (pc := 1396) X 2 [] (ct_X7_envies h7) (gV mL_L_168 iM_X7_envies sl_X7_envies in_X7 cd_X7_envies) hd_X7_envies ⟨Nat.le_of_ble_eq_true rfl, Nat.le_of_ble_eq_true rfl⟩ rfl rfl (Nat.le_of_ble_eq_true rfl) dL_law_1396 ?_
  refine gl_aload (pc := 1399) X 2 dL_law_1399 rfl rfl ?_
  refine gl_arg (pc := 1400) X 0 3 (kk := 1) rfl rfl rfl (by omega) dL_law_1400 dL_law_1401 dL_law_1402 dL_law_1403 dL_law_1404 ?_
  refine gl_arg (pc := 1405) X 0 3 (kk := 2) rfl rfl rfl (by omega) dL_law_1405 dL_law_1406 dL_law_1407 dL_law_1408 dL_law_1409 ?_
  refine gl_callM (pc := 1410) X 2 [.int (i32 r)] (ct_X8_envies h8) (gV mL_L_171 iM_X8_envies sl_X8_envies in_X8 cd_X8_envies) hd_X8_envies ⟨Nat.le_of_ble_eq_true rfl, Nat.le_of_ble_eq_true rfl⟩ rfl rfl (Nat.le_of_ble_eq_true rfl) dL_law_1410 ?_
  exact gl_same (pc := 1413) X 2061 dL_law_1413 rfl (k S' T' hr')
set_option maxRecDepth 100000 in
theorem lc_38 (X : Cl p s m c D cI cB Z b L xs) {i : Nat} (hi : i + 5 < L) (hr : Rel S T) (k : ∀ S' T' : Mem, Rel S' T' → Gl p l e s m below meth c D cI cB b aC aM Q 2061 [(0, .ref b), (1, .ref (aC 0)), (2, .ref (aM 0)), (3, .int (i32 (i : Int)))] [] S' T') : Gl p l e s m below meth c D cI cB b aC aM Q 1418 [(0, .ref b), (1, .ref (aC 0)), (2, .ref (aM 0)), (3, .int (i32 (i : Int)))] [] S T := by
  obtain ⟨r, S', T', h7, h8, hr'⟩ := Q_blocks (k := (xs (i + 1)).toInt) hr (R32x _)
  refine gl_aload (pc := 1418) X 1 dL_law_1418 rfl rfl ?_
  refine gl_arg (pc := 1419) X 0 3 (kk := 1) rfl rfl rfl (by omega) dL_law_1419 dL_law_1420 dL_law_1421 dL_law_1422 dL_law_1423 ?_
  refine gl_callC (pc := 1424) X 1 [] (ct_X7_blocks h7) (gV mL_L_172 iM_X7_blocks sl_X7_blocks in_X7 cd_X7_blocks) hd_X7_blocks ⟨Nat.le_of_ble_eq_true rfl, Nat.le_of_ble_eq_true rfl⟩ rfl rfl (Nat.le_of_ble_eq_true rfl) dL_law_1424 ?_
  refine gl_aload (pc := 1427) X 2 dL_law_1427 rfl rfl ?_
  refine gl_arg (pc := 1428) X 0 3 (kk := 1) rfl rfl rfl (by omega) dL_law_1428 dL_law_1429 dL_law_1430 dL_law_1431 dL_law_1432 ?_
  refine gl_callM (pc := 1433) X 1 [.int (i32 r)] (ct_X8_blocks h8) (gV mL_L_175 iM_X8_blocks sl_X8_blocks in_X8 cd_X8_blocks) hd_X8_blocks ⟨Nat.le_of_ble_eq_true rfl, Nat.le_of_ble_eq_true rfl⟩ rfl rfl (Nat.le_of_ble_eq_true rfl) dL_law_1433 ?_
  exact gl_same (pc := 1436) X 2061 dL_law_1436 rfl (k S' T' hr')
set_option maxRecDepth 100000 in
theorem lc_39 (X : Cl p s m c D cI cB Z b L xs) {i : Nat} (hi : i + 5 < L) (hr : Rel S T) (k : ∀ S' T' : Mem, Rel S' T' → Gl p l e s m below meth c D cI cB b aC aM Q 2061 [(0, .ref b), (1, .ref (aC 0)), (2, .ref (aM 0)), (3, .int (i32 (i : Int)))] [] S' T') : Gl p l e s m below meth c D cI cB b aC aM Q 1441 [(0, .ref b), (1, .ref (aC 0)), (2, .ref (aM 0)), (3, .int (i32 (i : Int)))] [] S T := by
  obtain ⟨r, h7, h8⟩ := Q_record (a := (xs (i + 1)).toInt) (j := (xs (i + 2)).toInt) hr (R32x _) (R32x _)
  refine gl_aload (pc := 1441) X 1 dL_law_1441 rfl rfl ?_
  refine gl_arg (pc := 1442) X 0 3 (kk := 1) rfl rfl rfl (by omega) dL_law_1442 dL_law_1443 dL_law_1444 dL_law_1445 dL_law_1446 ?_
  refine gl_arg (pc := 1447) X 0 3 (kk := 2) rfl rfl rfl (by omega) dL_law_1447 dL_law_1448 dL_law_1449 dL_law_1450 dL_law_1451 ?_
  refine gl_callC (pc := 1452) X 2 [] (ct_X7_record h7) (gV mL_L_176 iM_X7_record sl_X7_record in_X7 cd_X7_record) hd_X7_record ⟨Nat.le_of_ble_eq_true rfl, Nat.le_of_ble_eq_true rfl⟩ rfl rfl (Nat.le_of_ble_eq_true rfl) dL_law_1452 ?_
  refine gl_aload (pc := 1455) X 2 dL_law_1455 rfl rfl ?_
  refine gl_arg (pc := 1456) X 0 3 (kk := 1) rfl rfl rfl (by omega) dL_law_1456 dL_law_1457 dL_law_1458 dL_law_1459 dL_law_1460 ?_
  refine gl_arg (pc := 1461) X 0 3 (kk := 2) rfl rfl rfl (by omega) dL_law_1461 dL_law_1462 dL_law_1463 dL_law_1464 dL_law_1465 ?_
  refine gl_callM (pc := 1466) X 2 [.int (i32 r)] (ct_X8_record h8) (gV mL_L_179 iM_X8_record sl_X8_record in_X8 cd_X8_record) hd_X8_record ⟨Nat.le_of_ble_eq_true rfl, Nat.le_of_ble_eq_true rfl⟩ rfl rfl (Nat.le_of_ble_eq_true rfl) dL_law_1466 ?_
  exact gl_same (pc := 1469) X 2061 dL_law_1469 rfl (k S T hr)
set_option maxRecDepth 100000 in
theorem lc_40 (X : Cl p s m c D cI cB Z b L xs) {i : Nat} (hi : i + 5 < L) (hr : Rel S T) (k : ∀ S' T' : Mem, Rel S' T' → Gl p l e s m below meth c D cI cB b aC aM Q 2061 [(0, .ref b), (1, .ref (aC 0)), (2, .ref (aM 0)), (3, .int (i32 (i : Int)))] [] S' T') : Gl p l e s m below meth c D cI cB b aC aM Q 1474 [(0, .ref b), (1, .ref (aC 0)), (2, .ref (aM 0)), (3, .int (i32 (i : Int)))] [] S T := by
  obtain ⟨r, S', T', h7, h8, hr'⟩ := Q_bySupply (a := (xs (i + 1)).toInt) (w := (xs (i + 2)).toInt) hr (R32x _) (R32x _)
  refine gl_aload (pc := 1474) X 1 dL_law_1474 rfl rfl ?_
  refine gl_arg (pc := 1475) X 0 3 (kk := 1) rfl rfl rfl (by omega) dL_law_1475 dL_law_1476 dL_law_1477 dL_law_1478 dL_law_1479 ?_
  refine gl_arg (pc := 1480) X 0 3 (kk := 2) rfl rfl rfl (by omega) dL_law_1480 dL_law_1481 dL_law_1482 dL_law_1483 dL_law_1484 ?_
  refine gl_callC (pc := 1485) X 2 [] (ct_X7_bySupply h7) (gV mL_L_180 iM_X7_bySupply sl_X7_bySupply in_X7 cd_X7_bySupply) hd_X7_bySupply ⟨Nat.le_of_ble_eq_true rfl, Nat.le_of_ble_eq_true rfl⟩ rfl rfl (Nat.le_of_ble_eq_true rfl) dL_law_1485 ?_
  refine gl_aload (pc := 1488) X 2 dL_law_1488 rfl rfl ?_
  refine gl_arg (pc := 1489) X 0 3 (kk := 1) rfl rfl rfl (by omega) dL_law_1489 dL_law_1490 dL_law_1491 dL_law_1492 dL_law_1493 ?_
  refine gl_arg (pc := 1494) X 0 3 (kk := 2) rfl rfl rfl (by omega) dL_law_1494 dL_law_1495 dL_law_1496 dL_law_1497 dL_law_1498 ?_
  refine gl_callM (pc := 1499) X 2 [.int (i32 r)] (ct_X8_bySupply h8) (gV mL_L_183 iM_X8_bySupply sl_X8_bySupply in_X8 cd_X8_bySupply) hd_X8_bySupply ⟨Nat.le_of_ble_eq_true rfl, Nat.le_of_ble_eq_true rfl⟩ rfl rfl (Nat.le_of_ble_eq_true rfl) dL_law_1499 ?_
  exact gl_same (pc := 1502) X 2061 dL_law_1502 rfl (k S' T' hr')
set_option maxRecDepth 100000 in
theorem lc_41 (X : Cl p s m c D cI cB Z b L xs) {i : Nat} (hi : i + 5 < L) (hr : Rel S T) (k : ∀ S' T' : Mem, Rel S' T' → Gl p l e s m below meth c D cI cB b aC aM Q 2061 [(0, .ref b), (1, .ref (aC 0)), (2, .ref (aM 0)), (3, .int (i32 (i : Int)))] [] S' T') : Gl p l e s m below meth c D cI cB b aC aM Q 1507 [(0, .ref b), (1, .ref (aC 0)), (2, .ref (aM 0)), (3, .int (i32 (i : Int)))] [] S T := by
  obtain ⟨r, S', T', h7, h8, hr'⟩ := Q_byReserve (a := (xs (i + 1)).toInt) (w := (xs (i + 2)).toInt) hr (R32x _) (R32x _)
  refine gl_aload (pc := 1507) X 1 dL_law_1507 rfl rfl ?_
  refine gl_arg (pc := 1508) X 0 3 (kk := 1) rfl rfl rfl (by omega) dL_law_1508 dL_law_1509 dL_law_1510 dL_law_1511 dL_law_1512 ?_
  refine gl_arg (pc := 1513) X 0 3 (kk := 2) rfl rfl rfl (by omega) dL_law_1513 dL_law_1514 dL_law_1515 dL_law_1516 dL_law_1517 ?_
  refine gl_callC (pc := 1518) X 2 [] (ct_X7_byReserve h7) (gV mL_L_184 iM_X7_byReserve sl_X7_byReserve in_X7 cd_X7_byReserve) hd_X7_byReserve ⟨Nat.le_of_ble_eq_true rfl, Nat.le_of_ble_eq_true rfl⟩ rfl rfl (Nat.le_of_ble_eq_true rfl) dL_law_1518 ?_
  refine gl_aload (pc := 1521) X 2 dL_law_1521 rfl rfl ?_
  refine gl_arg (pc := 1522) X 0 3 (kk := 1) rfl rfl rfl (by omega) dL_law_1522 dL_law_1523 dL_law_1524 dL_law_1525 dL_law_1526 ?_
  refine gl_arg (pc := 1527) X 0 3 (kk := 2) rfl rfl rfl (by omega) dL_law_1527 dL_law_1528 dL_law_1529 dL_law_1530 dL_law_1531 ?_
  refine gl_callM (pc := 1532) X 2 [.int (i32 r)] (ct_X8_byReserve h8) (gV mL_L_187 iM_X8_byReserve sl_X8_byReserve in_X8 cd_X8_byReserve) hd_X8_byReserve ⟨Nat.le_of_ble_eq_true rfl, Nat.le_of_ble_eq_true rfl⟩ rfl rfl (Nat.le_of_ble_eq_true rfl) dL_law_1532 ?_
  exact gl_same (pc := 1535) X 2061 dL_law_1535 rfl (k S' T' hr')
set_option maxRecDepth 100000 in
theorem lc_42 (X : Cl p s m c D cI cB Z b L xs) {i : Nat} (hi : i + 5 < L) (hr : Rel S T) (k : ∀ S' T' : Mem, Rel S' T' → Gl p l e s m below meth c D cI cB b aC aM Q 2061 [(0, .ref b), (1, .ref (aC 0)), (2, .ref (aM 0)), (3, .int (i32 (i : Int)))] [] S' T') : Gl p l e s m below meth c D cI cB b aC aM Q 1540 [(0, .ref b), (1, .ref (aC 0)), (2, .ref (aM 0)), (3, .int (i32 (i : Int)))] [] S T := by
  obtain ⟨r, S', T', h7, h8, hr'⟩ := Q_bestReserve (k := (xs (i + 1)).toInt) hr (R32x _)
  refine gl_aload (pc := 1540) X 1 dL_law_1540 rfl rfl ?_
  refine gl_arg (pc := 1541) X 0 3 (kk := 1) rfl rfl rfl (by omega) dL_law_1541 dL_law_1542 dL_law_1543 dL_law_1544 dL_law_1545 ?_
  refine gl_callC (pc := 1546) X 1 [] (ct_X7_bestReserve h7) (gV mL_L_188 iM_X7_bestReserve sl_X7_bestReserve in_X7 cd_X7_bestReserve) hd_X7_bestReserve ⟨Nat.le_of_ble_eq_true rfl, Nat.le_of_ble_eq_true rfl⟩ rfl rfl (Nat.le_of_ble_eq_true rfl) dL_law_1546 ?_
  refine gl_aload (pc := 1549) X 2 dL_law_1549 rfl rfl ?_
  refine gl_arg (pc := 1550) X 0 3 (kk := 1) rfl rfl rfl (by omega) dL_law_1550 dL_law_1551 dL_law_1552 dL_law_1553 dL_law_1554 ?_
  refine gl_callM (pc := 1555) X 1 [.int (i32 r)] (ct_X8_bestReserve h8) (gV mL_L_191 iM_X8_bestReserve sl_X8_bestReserve in_X8 cd_X8_bestReserve) hd_X8_bestReserve ⟨Nat.le_of_ble_eq_true rfl, Nat.le_of_ble_eq_true rfl⟩ rfl rfl (Nat.le_of_ble_eq_true rfl) dL_law_1555 ?_
  exact gl_same (pc := 1558) X 2061 dL_law_1558 rfl (k S' T' hr')
set_option maxRecDepth 100000 in
theorem lc_43 (X : Cl p s m c D cI cB Z b L xs) {i : Nat} (hi : i + 5 < L) (hr : Rel S T) (k : ∀ S' T' : Mem, Rel S' T' → Gl p l e s m below meth c D cI cB b aC aM Q 2061 [(0, .ref b), (1, .ref (aC 0)), (2, .ref (aM 0)), (3, .int (i32 (i : Int)))] [] S' T') : Gl p l e s m below meth c D cI cB b aC aM Q 1563 [(0, .ref b), (1, .ref (aC 0)), (2, .ref (aM 0)), (3, .int (i32 (i : Int)))] [] S T := by
  obtain ⟨r, S', T', h7, h8, hr'⟩ := Q_unitsWithout (a := (xs (i + 1)).toInt) (c := (xs (i + 2)).toInt) hr (R32x _) (R32x _)
  refine gl_aload (pc := 1563) X 1 dL_law_1563 rfl rfl ?_
  refine gl_arg (pc := 1564) X 0 3 (kk := 1) rfl rfl rfl (by omega) dL_law_1564 dL_law_1565 dL_law_1566 dL_law_1567 dL_law_1568 ?_
  refine gl_arg (pc := 1569) X 0 3 (kk := 2) rfl rfl rfl (by omega) dL_law_1569 dL_law_1570 dL_law_1571 dL_law_1572 dL_law_1573 ?_
  refine gl_callC (pc := 1574) X 2 [] (ct_X7_unitsWithout h7) (gV mL_L_192 iM_X7_unitsWithout sl_X7_unitsWithout in_X7 cd_X7_unitsWithout) hd_X7_unitsWithout ⟨Nat.le_of_ble_eq_true rfl, Nat.le_of_ble_eq_true rfl⟩ rfl rfl (Nat.le_of_ble_eq_true rfl) dL_law_1574 ?_
  refine gl_aload (pc := 1577) X 2 dL_law_1577 rfl rfl ?_
  refine gl_arg (pc := 1578) X 0 3 (kk := 1) rfl rfl rfl (by omega) dL_law_1578 dL_law_1579 dL_law_1580 dL_law_1581 dL_law_1582 ?_
  refine gl_arg (pc := 1583) X 0 3 (kk := 2) rfl rfl rfl (by omega) dL_law_1583 dL_law_1584 dL_law_1585 dL_law_1586 dL_law_1587 ?_
  refine gl_callM (pc := 1588) X 2 [.int (i32 r)] (ct_X8_unitsWithout h8) (gV mL_L_195 iM_X8_unitsWithout sl_X8_unitsWithout in_X8 cd_X8_unitsWithout) hd_X8_unitsWithout ⟨Nat.le_of_ble_eq_true rfl, Nat.le_of_ble_eq_true rfl⟩ rfl rfl (Nat.le_of_ble_eq_true rfl) dL_law_1588 ?_
  exact gl_same (pc := 1591) X 2061 dL_law_1591 rfl (k S' T' hr')
set_option maxRecDepth 100000 in
theorem lc_44 (X : Cl p s m c D cI cB Z b L xs) {i : Nat} (hi : i + 5 < L) (hr : Rel S T) (k : ∀ S' T' : Mem, Rel S' T' → Gl p l e s m below meth c D cI cB b aC aM Q 2061 [(0, .ref b), (1, .ref (aC 0)), (2, .ref (aM 0)), (3, .int (i32 (i : Int)))] [] S' T') : Gl p l e s m below meth c D cI cB b aC aM Q 1596 [(0, .ref b), (1, .ref (aC 0)), (2, .ref (aM 0)), (3, .int (i32 (i : Int)))] [] S T := by
  obtain ⟨r, S', T', h7, h8, hr'⟩ := Q_paidWithout (a := (xs (i + 1)).toInt) (k := (xs (i + 2)).toInt) hr (R32x _) (R32x _)
  refine gl_aload (pc := 1596) X 1 dL_law_1596 rfl rfl ?_
  refine gl_arg (pc := 1597) X 0 3 (kk := 1) rfl rfl rfl (by omega) dL_law_1597 dL_law_1598 dL_law_1599 dL_law_1600 dL_law_1601 ?_
  refine gl_arg (pc := 1602) X 0 3 (kk := 2) rfl rfl rfl (by omega) dL_law_1602 dL_law_1603 dL_law_1604 dL_law_1605 dL_law_1606 ?_
  refine gl_callC (pc := 1607) X 2 [] (ct_X7_paidWithout h7) (gV mL_L_196 iM_X7_paidWithout sl_X7_paidWithout in_X7 cd_X7_paidWithout) hd_X7_paidWithout ⟨Nat.le_of_ble_eq_true rfl, Nat.le_of_ble_eq_true rfl⟩ rfl rfl (Nat.le_of_ble_eq_true rfl) dL_law_1607 ?_
  refine gl_aload (pc := 1610) X 2 dL_law_1610 rfl rfl ?_
  refine gl_arg (pc := 1611) X 0 3 (kk := 1) rfl rfl rfl (by omega) dL_law_1611 dL_law_1612 dL_law_1613 dL_law_1614 dL_law_1615 ?_
  refine gl_arg (pc := 1616) X 0 3 (kk := 2) rfl rfl rfl (by omega) dL_law_1616 dL_law_1617 dL_law_1618 dL_law_1619 dL_law_1620 ?_
  refine gl_callM (pc := 1621) X 2 [.int (i32 r)] (ct_X8_paidWithout h8) (gV mL_L_199 iM_X8_paidWithout sl_X8_paidWithout in_X8 cd_X8_paidWithout) hd_X8_paidWithout ⟨Nat.le_of_ble_eq_true rfl, Nat.le_of_ble_eq_true rfl⟩ rfl rfl (Nat.le_of_ble_eq_true rfl) dL_law_1621 ?_
  exact gl_same (pc := 1624) X 2061 dL_law_1624 rfl (k S' T' hr')
set_option maxRecDepth 100000 in
theorem lc_45 (X : Cl p s m c D cI cB Z b L xs) {i : Nat} (hi : i + 5 < L) (hr : Rel S T) (k : ∀ S' T' : Mem, Rel S' T' → Gl p l e s m below meth c D cI cB b aC aM Q 2061 [(0, .ref b), (1, .ref (aC 0)), (2, .ref (aM 0)), (3, .int (i32 (i : Int)))] [] S' T') : Gl p l e s m below meth c D cI cB b aC aM Q 1629 [(0, .ref b), (1, .ref (aC 0)), (2, .ref (aM 0)), (3, .int (i32 (i : Int)))] [] S T := by
  obtain ⟨r, S', T', h7, h8, hr'⟩ := Q_pivot  hr
  refine gl_aload (pc := 1629) X 1 dL_law_1629 rfl rfl ?_
  refine gl_callC (pc := 1630) X 0 [] (ct_X7_pivot h7) (gV mL_L_200 iM_X7_pivot sl_X7_pivot in_X7 cd_X7_pivot) hd_X7_pivot ⟨Nat.le_of_ble_eq_true rfl, Nat.le_of_ble_eq_true rfl⟩ rfl rfl (Nat.le_of_ble_eq_true rfl) dL_law_1630 ?_
  refine gl_aload (pc := 1633) X 2 dL_law_1633 rfl rfl ?_
  refine gl_callM (pc := 1634) X 0 [.int (i32 r)] (ct_X8_pivot h8) (gV mL_L_203 iM_X8_pivot sl_X8_pivot in_X8 cd_X8_pivot) hd_X8_pivot ⟨Nat.le_of_ble_eq_true rfl, Nat.le_of_ble_eq_true rfl⟩ rfl rfl (Nat.le_of_ble_eq_true rfl) dL_law_1634 ?_
  exact gl_same (pc := 1637) X 2061 dL_law_1637 rfl (k S' T' hr')
set_option maxRecDepth 100000 in
theorem lc_46 (X : Cl p s m c D cI cB Z b L xs) {i : Nat} (hi : i + 5 < L) (hr : Rel S T) (k : ∀ S' T' : Mem, Rel S' T' → Gl p l e s m below meth c D cI cB b aC aM Q 2061 [(0, .ref b), (1, .ref (aC 0)), (2, .ref (aM 0)), (3, .int (i32 (i : Int)))] [] S' T') : Gl p l e s m below meth c D cI cB b aC aM Q 1642 [(0, .ref b), (1, .ref (aC 0)), (2, .ref (aM 0)), (3, .int (i32 (i : Int)))] [] S T := by
  obtain ⟨r, S', T', h7, h8, hr'⟩ := Q_tells (a := (xs (i + 1)).toInt) (k := (xs (i + 2)).toInt) (n := (xs (i + 3)).toInt) hr (R32x _) (R32x _) (R32x _)
  refine gl_aload (pc := 1642) X 1 dL_law_1642 rfl rfl ?_
  refine gl_arg (pc := 1643) X 0 3 (kk := 1) rfl rfl rfl (by omega) dL_law_1643 dL_law_1644 dL_law_1645 dL_law_1646 dL_law_1647 ?_
  refine gl_arg (pc := 1648) X 0 3 (kk := 2) rfl rfl rfl (by omega) dL_law_1648 dL_law_1649 dL_law_1650 dL_law_1651 dL_law_1652 ?_
  refine gl_arg (pc := 1653) X 0 3 (kk := 3) rfl rfl rfl (by omega) dL_law_1653 dL_law_1654 dL_law_1655 dL_law_1656 dL_law_1657 ?_
  refine gl_callC (pc := 1658) X 3 [] (ct_X7_tells h7) (gV mL_L_204 iM_X7_tells sl_X7_tells in_X7 cd_X7_tells) hd_X7_tells ⟨Nat.le_of_ble_eq_true rfl, Nat.le_of_ble_eq_true rfl⟩ rfl rfl (Nat.le_of_ble_eq_true rfl) dL_law_1658 ?_
  refine gl_aload (pc := 1661) X 2 dL_law_1661 rfl rfl ?_
  refine gl_arg (pc := 1662) X 0 3 (kk := 1) rfl rfl rfl (by omega) dL_law_1662 dL_law_1663 dL_law_1664 dL_law_1665 dL_law_1666 ?_
  refine gl_arg (pc := 1667) X 0 3 (kk := 2) rfl rfl rfl (by omega) dL_law_1667 dL_law_1668 dL_law_1669 dL_law_1670 dL_law_1671 ?_
  refine gl_arg (pc := 1672) X 0 3 (kk := 3) rfl rfl rfl (by omega) dL_law_1672 dL_law_1673 dL_law_1674 dL_law_1675 dL_law_1676 ?_
  refine gl_callM (pc := 1677) X 3 [.int (i32 r)] (ct_X8_tells h8) (gV mL_L_207 iM_X8_tells sl_X8_tells in_X8 cd_X8_tells) hd_X8_tells ⟨Nat.le_of_ble_eq_true rfl, Nat.le_of_ble_eq_true rfl⟩ rfl rfl (Nat.le_of_ble_eq_true rfl) dL_law_1677 ?_
  exact gl_same (pc := 1680) X 2061 dL_law_1680 rfl (k S' T' hr')
set_option maxRecDepth 100000 in
theorem lc_47 (X : Cl p s m c D cI cB Z b L xs) {i : Nat} (hi : i + 5 < L) (hr : Rel S T) (k : ∀ S' T' : Mem, Rel S' T' → Gl p l e s m below meth c D cI cB b aC aM Q 2061 [(0, .ref b), (1, .ref (aC 0)), (2, .ref (aM 0)), (3, .int (i32 (i : Int)))] [] S' T') : Gl p l e s m below meth c D cI cB b aC aM Q 1685 [(0, .ref b), (1, .ref (aC 0)), (2, .ref (aM 0)), (3, .int (i32 (i : Int)))] [] S T := by
  obtain ⟨r, S', T', h7, h8, hr'⟩ := Q_bestTells (a := (xs (i + 1)).toInt) (k := (xs (i + 2)).toInt) hr (R32x _) (R32x _)
  refine gl_aload (pc := 1685) X 1 dL_law_1685 rfl rfl ?_
  refine gl_arg (pc := 1686) X 0 3 (kk := 1) rfl rfl rfl (by omega) dL_law_1686 dL_law_1687 dL_law_1688 dL_law_1689 dL_law_1690 ?_
  refine gl_arg (pc := 1691) X 0 3 (kk := 2) rfl rfl rfl (by omega) dL_law_1691 dL_law_1692 dL_law_1693 dL_law_1694 dL_law_1695 ?_
  refine gl_callC (pc := 1696) X 2 [] (ct_X7_bestTells h7) (gV mL_L_208 iM_X7_bestTells sl_X7_bestTells in_X7 cd_X7_bestTells) hd_X7_bestTells ⟨Nat.le_of_ble_eq_true rfl, Nat.le_of_ble_eq_true rfl⟩ rfl rfl (Nat.le_of_ble_eq_true rfl) dL_law_1696 ?_
  refine gl_aload (pc := 1699) X 2 dL_law_1699 rfl rfl ?_
  refine gl_arg (pc := 1700) X 0 3 (kk := 1) rfl rfl rfl (by omega) dL_law_1700 dL_law_1701 dL_law_1702 dL_law_1703 dL_law_1704 ?_
  refine gl_arg (pc := 1705) X 0 3 (kk := 2) rfl rfl rfl (by omega) dL_law_1705 dL_law_1706 dL_law_1707 dL_law_1708 dL_law_1709 ?_
  refine gl_callM (pc := 1710) X 2 [.int (i32 r)] (ct_X8_bestTells h8) (gV mL_L_211 iM_X8_bestTells sl_X8_bestTells in_X8 cd_X8_bestTells) hd_X8_bestTells ⟨Nat.le_of_ble_eq_true rfl, Nat.le_of_ble_eq_true rfl⟩ rfl rfl (Nat.le_of_ble_eq_true rfl) dL_law_1710 ?_
  exact gl_same (pc := 1713) X 2061 dL_law_1713 rfl (k S' T' hr')
set_option maxRecDepth 100000 in
theorem lc_48 (X : Cl p s m c D cI cB Z b L xs) {i : Nat} (hi : i + 5 < L) (hr : Rel S T) (k : ∀ S' T' : Mem, Rel S' T' → Gl p l e s m below meth c D cI cB b aC aM Q 2061 [(0, .ref b), (1, .ref (aC 0)), (2, .ref (aM 0)), (3, .int (i32 (i : Int)))] [] S' T') : Gl p l e s m below meth c D cI cB b aC aM Q 1718 [(0, .ref b), (1, .ref (aC 0)), (2, .ref (aM 0)), (3, .int (i32 (i : Int)))] [] S T := by
  obtain ⟨r, S', T', h7, h8, hr'⟩ := Q_hides (a := (xs (i + 1)).toInt) (k := (xs (i + 2)).toInt) (n := (xs (i + 3)).toInt) hr (R32x _) (R32x _) (R32x _)
  refine gl_aload (pc := 1718) X 1 dL_law_1718 rfl rfl ?_
  refine gl_arg (pc := 1719) X 0 3 (kk := 1) rfl rfl rfl (by omega) dL_law_1719 dL_law_1720 dL_law_1721 dL_law_1722 dL_law_1723 ?_
  refine gl_arg (pc := 1724) X 0 3 (kk := 2) rfl rfl rfl (by omega) dL_law_1724 dL_law_1725 dL_law_1726 dL_law_1727 dL_law_1728 ?_
  refine gl_arg (pc := 1729) X 0 3 (kk := 3) rfl rfl rfl (by omega) dL_law_1729 dL_law_1730 dL_law_1731 dL_law_1732 dL_law_1733 ?_
  refine gl_callC (pc := 1734) X 3 [] (ct_X7_hides h7) (gV mL_L_212 iM_X7_hides sl_X7_hides in_X7 cd_X7_hides) hd_X7_hides ⟨Nat.le_of_ble_eq_true rfl, Nat.le_of_ble_eq_true rfl⟩ rfl rfl (Nat.le_of_ble_eq_true rfl) dL_law_1734 ?_
  refine gl_aload (pc := 1737) X 2 dL_law_1737 rfl rfl ?_
  refine gl_arg (pc := 1738) X 0 3 (kk := 1) rfl rfl rfl (by omega) dL_law_1738 dL_law_1739 dL_law_1740 dL_law_1741 dL_law_1742 ?_
  refine gl_arg (pc := 1743) X 0 3 (kk := 2) rfl rfl rfl (by omega) dL_law_1743 dL_law_1744 dL_law_1745 dL_law_1746 dL_law_1747 ?_
  refine gl_arg (pc := 1748) X 0 3 (kk := 3) rfl rfl rfl (by omega) dL_law_1748 dL_law_1749 dL_law_1750 dL_law_1751 dL_law_1752 ?_
  refine gl_callM (pc := 1753) X 3 [.int (i32 r)] (ct_X8_hides h8) (gV mL_L_215 iM_X8_hides sl_X8_hides in_X8 cd_X8_hides) hd_X8_hides ⟨Nat.le_of_ble_eq_true rfl, Nat.le_of_ble_eq_true rfl⟩ rfl rfl (Nat.le_of_ble_eq_true rfl) dL_law_1753 ?_
  exact gl_same (pc := 1756) X 2061 dL_law_1756 rfl (k S' T' hr')
set_option maxRecDepth 100000 in
theorem lc_49 (X : Cl p s m c D cI cB Z b L xs) {i : Nat} (hi : i + 5 < L) (hr : Rel S T) (k : ∀ S' T' : Mem, Rel S' T' → Gl p l e s m below meth c D cI cB b aC aM Q 2061 [(0, .ref b), (1, .ref (aC 0)), (2, .ref (aM 0)), (3, .int (i32 (i : Int)))] [] S' T') : Gl p l e s m below meth c D cI cB b aC aM Q 1761 [(0, .ref b), (1, .ref (aC 0)), (2, .ref (aM 0)), (3, .int (i32 (i : Int)))] [] S T := by
  obtain ⟨r, S', T', h7, h8, hr'⟩ := Q_bestHides (a := (xs (i + 1)).toInt) (k := (xs (i + 2)).toInt) hr (R32x _) (R32x _)
  refine gl_aload (pc := 1761) X 1 dL_law_1761 rfl rfl ?_
  refine gl_arg (pc := 1762) X 0 3 (kk := 1) rfl rfl rfl (by omega) dL_law_1762 dL_law_1763 dL_law_1764 dL_law_1765 dL_law_1766 ?_
  refine gl_arg (pc := 1767) X 0 3 (kk := 2) rfl rfl rfl (by omega) dL_law_1767 dL_law_1768 dL_law_1769 dL_law_1770 dL_law_1771 ?_
  refine gl_callC (pc := 1772) X 2 [] (ct_X7_bestHides h7) (gV mL_L_216 iM_X7_bestHides sl_X7_bestHides in_X7 cd_X7_bestHides) hd_X7_bestHides ⟨Nat.le_of_ble_eq_true rfl, Nat.le_of_ble_eq_true rfl⟩ rfl rfl (Nat.le_of_ble_eq_true rfl) dL_law_1772 ?_
  refine gl_aload (pc := 1775) X 2 dL_law_1775 rfl rfl ?_
  refine gl_arg (pc := 1776) X 0 3 (kk := 1) rfl rfl rfl (by omega) dL_law_1776 dL_law_1777 dL_law_1778 dL_law_1779 dL_law_1780 ?_
  refine gl_arg (pc := 1781) X 0 3 (kk := 2) rfl rfl rfl (by omega) dL_law_1781 dL_law_1782 dL_law_1783 dL_law_1784 dL_law_1785 ?_
  refine gl_callM (pc := 1786) X 2 [.int (i32 r)] (ct_X8_bestHides h8) (gV mL_L_219 iM_X8_bestHides sl_X8_bestHides in_X8 cd_X8_bestHides) hd_X8_bestHides ⟨Nat.le_of_ble_eq_true rfl, Nat.le_of_ble_eq_true rfl⟩ rfl rfl (Nat.le_of_ble_eq_true rfl) dL_law_1786 ?_
  exact gl_same (pc := 1789) X 2061 dL_law_1789 rfl (k S' T' hr')
set_option maxRecDepth 100000 in
theorem lc_50 (X : Cl p s m c D cI cB Z b L xs) {i : Nat} (hi : i + 5 < L) (hr : Rel S T) (k : ∀ S' T' : Mem, Rel S' T' → Gl p l e s m below meth c D cI cB b aC aM Q 2061 [(0, .ref b), (1, .ref (aC 0)), (2, .ref (aM 0)), (3, .int (i32 (i : Int)))] [] S' T') : Gl p l e s m below meth c D cI cB b aC aM Q 1794 [(0, .ref b), (1, .ref (aC 0)), (2, .ref (aM 0)), (3, .int (i32 (i : Int)))] [] S T := by
  obtain ⟨r, S', T', h7, h8, hr'⟩ := Q_inTwo (a := (xs (i + 1)).toInt) (k := (xs (i + 2)).toInt) hr (R32x _) (R32x _)
  refine gl_aload (pc := 1794) X 1 dL_law_1794 rfl rfl ?_
  refine gl_arg (pc := 1795) X 0 3 (kk := 1) rfl rfl rfl (by omega) dL_law_1795 dL_law_1796 dL_law_1797 dL_law_1798 dL_law_1799 ?_
  refine gl_arg (pc := 1800) X 0 3 (kk := 2) rfl rfl rfl (by omega) dL_law_1800 dL_law_1801 dL_law_1802 dL_law_1803 dL_law_1804 ?_
  refine gl_callC (pc := 1805) X 2 [] (ct_X7_inTwo h7) (gV mL_L_220 iM_X7_inTwo sl_X7_inTwo in_X7 cd_X7_inTwo) hd_X7_inTwo ⟨Nat.le_of_ble_eq_true rfl, Nat.le_of_ble_eq_true rfl⟩ rfl rfl (Nat.le_of_ble_eq_true rfl) dL_law_1805 ?_
  refine gl_aload (pc := 1808) X 2 dL_law_1808 rfl rfl ?_
  refine gl_arg (pc := 1809) X 0 3 (kk := 1) rfl rfl rfl (by omega) dL_law_1809 dL_law_1810 dL_law_1811 dL_law_1812 dL_law_1813 ?_
  refine gl_arg (pc := 1814) X 0 3 (kk := 2) rfl rfl rfl (by omega) dL_law_1814 dL_law_1815 dL_law_1816 dL_law_1817 dL_law_1818 ?_
  refine gl_callM (pc := 1819) X 2 [.int (i32 r)] (ct_X8_inTwo h8) (gV mL_L_223 iM_X8_inTwo sl_X8_inTwo in_X8 cd_X8_inTwo) hd_X8_inTwo ⟨Nat.le_of_ble_eq_true rfl, Nat.le_of_ble_eq_true rfl⟩ rfl rfl (Nat.le_of_ble_eq_true rfl) dL_law_1819 ?_
  exact gl_same (pc := 1822) X 2061 dL_law_1822 rfl (k S' T' hr')
set_option maxRecDepth 100000 in
theorem lc_51 (X : Cl p s m c D cI cB Z b L xs) {i : Nat} (hi : i + 5 < L) (hr : Rel S T) (k : ∀ S' T' : Mem, Rel S' T' → Gl p l e s m below meth c D cI cB b aC aM Q 2061 [(0, .ref b), (1, .ref (aC 0)), (2, .ref (aM 0)), (3, .int (i32 (i : Int)))] [] S' T') : Gl p l e s m below meth c D cI cB b aC aM Q 1827 [(0, .ref b), (1, .ref (aC 0)), (2, .ref (aM 0)), (3, .int (i32 (i : Int)))] [] S T := by
  obtain ⟨r, S', T', h7, h8, hr'⟩ := Q_splitGain (a := (xs (i + 1)).toInt) (m := (xs (i + 2)).toInt) (k := (xs (i + 3)).toInt) hr (R32x _) (R32x _) (R32x _)
  refine gl_aload (pc := 1827) X 1 dL_law_1827 rfl rfl ?_
  refine gl_arg (pc := 1828) X 0 3 (kk := 1) rfl rfl rfl (by omega) dL_law_1828 dL_law_1829 dL_law_1830 dL_law_1831 dL_law_1832 ?_
  refine gl_arg (pc := 1833) X 0 3 (kk := 2) rfl rfl rfl (by omega) dL_law_1833 dL_law_1834 dL_law_1835 dL_law_1836 dL_law_1837 ?_
  refine gl_arg (pc := 1838) X 0 3 (kk := 3) rfl rfl rfl (by omega) dL_law_1838 dL_law_1839 dL_law_1840 dL_law_1841 dL_law_1842 ?_
  refine gl_callC (pc := 1843) X 3 [] (ct_X7_splitGain h7) (gV mL_L_224 iM_X7_splitGain sl_X7_splitGain in_X7 cd_X7_splitGain) hd_X7_splitGain ⟨Nat.le_of_ble_eq_true rfl, Nat.le_of_ble_eq_true rfl⟩ rfl rfl (Nat.le_of_ble_eq_true rfl) dL_law_1843 ?_
  refine gl_aload (pc := 1846) X 2 dL_law_1846 rfl rfl ?_
  refine gl_arg (pc := 1847) X 0 3 (kk := 1) rfl rfl rfl (by omega) dL_law_1847 dL_law_1848 dL_law_1849 dL_law_1850 dL_law_1851 ?_
  refine gl_arg (pc := 1852) X 0 3 (kk := 2) rfl rfl rfl (by omega) dL_law_1852 dL_law_1853 dL_law_1854 dL_law_1855 dL_law_1856 ?_
  refine gl_arg (pc := 1857) X 0 3 (kk := 3) rfl rfl rfl (by omega) dL_law_1857 dL_law_1858 dL_law_1859 dL_law_1860 dL_law_1861 ?_
  refine gl_callM (pc := 1862) X 3 [.int (i32 r)] (ct_X8_splitGain h8) (gV mL_L_227 iM_X8_splitGain sl_X8_splitGain in_X8 cd_X8_splitGain) hd_X8_splitGain ⟨Nat.le_of_ble_eq_true rfl, Nat.le_of_ble_eq_true rfl⟩ rfl rfl (Nat.le_of_ble_eq_true rfl) dL_law_1862 ?_
  exact gl_same (pc := 1865) X 2061 dL_law_1865 rfl (k S' T' hr')
set_option maxRecDepth 100000 in
theorem lc_52 (X : Cl p s m c D cI cB Z b L xs) {i : Nat} (hi : i + 5 < L) (hr : Rel S T) (k : ∀ S' T' : Mem, Rel S' T' → Gl p l e s m below meth c D cI cB b aC aM Q 2061 [(0, .ref b), (1, .ref (aC 0)), (2, .ref (aM 0)), (3, .int (i32 (i : Int)))] [] S' T') : Gl p l e s m below meth c D cI cB b aC aM Q 1870 [(0, .ref b), (1, .ref (aC 0)), (2, .ref (aM 0)), (3, .int (i32 (i : Int)))] [] S T := by
  obtain ⟨r, S', T', h7, h8, hr'⟩ := Q_reserveFor (n := (xs (i + 1)).toInt) hr (R32x _)
  refine gl_aload (pc := 1870) X 1 dL_law_1870 rfl rfl ?_
  refine gl_arg (pc := 1871) X 0 3 (kk := 1) rfl rfl rfl (by omega) dL_law_1871 dL_law_1872 dL_law_1873 dL_law_1874 dL_law_1875 ?_
  refine gl_callC (pc := 1876) X 1 [] (ct_X7_reserveFor h7) (gV mL_L_228 iM_X7_reserveFor sl_X7_reserveFor in_X7 cd_X7_reserveFor) hd_X7_reserveFor ⟨Nat.le_of_ble_eq_true rfl, Nat.le_of_ble_eq_true rfl⟩ rfl rfl (Nat.le_of_ble_eq_true rfl) dL_law_1876 ?_
  refine gl_aload (pc := 1879) X 2 dL_law_1879 rfl rfl ?_
  refine gl_arg (pc := 1880) X 0 3 (kk := 1) rfl rfl rfl (by omega) dL_law_1880 dL_law_1881 dL_law_1882 dL_law_1883 dL_law_1884 ?_
  refine gl_callM (pc := 1885) X 1 [.int (i32 r)] (ct_X8_reserveFor h8) (gV mL_L_231 iM_X8_reserveFor sl_X8_reserveFor in_X8 cd_X8_reserveFor) hd_X8_reserveFor ⟨Nat.le_of_ble_eq_true rfl, Nat.le_of_ble_eq_true rfl⟩ rfl rfl (Nat.le_of_ble_eq_true rfl) dL_law_1885 ?_
  exact gl_same (pc := 1888) X 2061 dL_law_1888 rfl (k S' T' hr')
set_option maxRecDepth 100000 in
theorem lc_53 (X : Cl p s m c D cI cB Z b L xs) {i : Nat} (hi : i + 5 < L) (hr : Rel S T) (k : ∀ S' T' : Mem, Rel S' T' → Gl p l e s m below meth c D cI cB b aC aM Q 2061 [(0, .ref b), (1, .ref (aC 0)), (2, .ref (aM 0)), (3, .int (i32 (i : Int)))] [] S' T') : Gl p l e s m below meth c D cI cB b aC aM Q 1893 [(0, .ref b), (1, .ref (aC 0)), (2, .ref (aM 0)), (3, .int (i32 (i : Int)))] [] S T := by
  obtain ⟨r, S', T', h7, h8, hr'⟩ := Q_collude (a := (xs (i + 1)).toInt) (c := (xs (i + 2)).toInt) (k := (xs (i + 3)).toInt) hr (R32x _) (R32x _) (R32x _)
  refine gl_aload (pc := 1893) X 1 dL_law_1893 rfl rfl ?_
  refine gl_arg (pc := 1894) X 0 3 (kk := 1) rfl rfl rfl (by omega) dL_law_1894 dL_law_1895 dL_law_1896 dL_law_1897 dL_law_1898 ?_
  refine gl_arg (pc := 1899) X 0 3 (kk := 2) rfl rfl rfl (by omega) dL_law_1899 dL_law_1900 dL_law_1901 dL_law_1902 dL_law_1903 ?_
  refine gl_arg (pc := 1904) X 0 3 (kk := 3) rfl rfl rfl (by omega) dL_law_1904 dL_law_1905 dL_law_1906 dL_law_1907 dL_law_1908 ?_
  refine gl_callC (pc := 1909) X 3 [] (ct_X7_collude h7) (gV mL_L_232 iM_X7_collude sl_X7_collude in_X7 cd_X7_collude) hd_X7_collude ⟨Nat.le_of_ble_eq_true rfl, Nat.le_of_ble_eq_true rfl⟩ rfl rfl (Nat.le_of_ble_eq_true rfl) dL_law_1909 ?_
  refine gl_aload (pc := 1912) X 2 dL_law_1912 rfl rfl ?_
  refine gl_arg (pc := 1913) X 0 3 (kk := 1) rfl rfl rfl (by omega) dL_law_1913 dL_law_1914 dL_law_1915 dL_law_1916 dL_law_1917 ?_
  refine gl_arg (pc := 1918) X 0 3 (kk := 2) rfl rfl rfl (by omega) dL_law_1918 dL_law_1919 dL_law_1920 dL_law_1921 dL_law_1922 ?_
  refine gl_arg (pc := 1923) X 0 3 (kk := 3) rfl rfl rfl (by omega) dL_law_1923 dL_law_1924 dL_law_1925 dL_law_1926 dL_law_1927 ?_
  refine gl_callM (pc := 1928) X 3 [.int (i32 r)] (ct_X8_collude h8) (gV mL_L_235 iM_X8_collude sl_X8_collude in_X8 cd_X8_collude) hd_X8_collude ⟨Nat.le_of_ble_eq_true rfl, Nat.le_of_ble_eq_true rfl⟩ rfl rfl (Nat.le_of_ble_eq_true rfl) dL_law_1928 ?_
  exact gl_same (pc := 1931) X 2061 dL_law_1931 rfl (k S' T' hr')
set_option maxRecDepth 100000 in
theorem lc_54 (X : Cl p s m c D cI cB Z b L xs) {i : Nat} (hi : i + 5 < L) (hr : Rel S T) (k : ∀ S' T' : Mem, Rel S' T' → Gl p l e s m below meth c D cI cB b aC aM Q 2061 [(0, .ref b), (1, .ref (aC 0)), (2, .ref (aM 0)), (3, .int (i32 (i : Int)))] [] S' T') : Gl p l e s m below meth c D cI cB b aC aM Q 1936 [(0, .ref b), (1, .ref (aC 0)), (2, .ref (aM 0)), (3, .int (i32 (i : Int)))] [] S T := by
  obtain ⟨r, S', T', h7, h8, hr'⟩ := Q_supplyFor (p := (xs (i + 1)).toInt) hr (R32x _)
  refine gl_aload (pc := 1936) X 1 dL_law_1936 rfl rfl ?_
  refine gl_arg (pc := 1937) X 0 3 (kk := 1) rfl rfl rfl (by omega) dL_law_1937 dL_law_1938 dL_law_1939 dL_law_1940 dL_law_1941 ?_
  refine gl_callC (pc := 1942) X 1 [] (ct_X7_supplyFor h7) (gV mL_L_236 iM_X7_supplyFor sl_X7_supplyFor in_X7 cd_X7_supplyFor) hd_X7_supplyFor ⟨Nat.le_of_ble_eq_true rfl, Nat.le_of_ble_eq_true rfl⟩ rfl rfl (Nat.le_of_ble_eq_true rfl) dL_law_1942 ?_
  refine gl_aload (pc := 1945) X 2 dL_law_1945 rfl rfl ?_
  refine gl_arg (pc := 1946) X 0 3 (kk := 1) rfl rfl rfl (by omega) dL_law_1946 dL_law_1947 dL_law_1948 dL_law_1949 dL_law_1950 ?_
  refine gl_callM (pc := 1951) X 1 [.int (i32 r)] (ct_X8_supplyFor h8) (gV mL_L_239 iM_X8_supplyFor sl_X8_supplyFor in_X8 cd_X8_supplyFor) hd_X8_supplyFor ⟨Nat.le_of_ble_eq_true rfl, Nat.le_of_ble_eq_true rfl⟩ rfl rfl (Nat.le_of_ble_eq_true rfl) dL_law_1951 ?_
  exact gl_same (pc := 1954) X 2061 dL_law_1954 rfl (k S' T' hr')
set_option maxRecDepth 100000 in
theorem lc_55 (X : Cl p s m c D cI cB Z b L xs) {i : Nat} (hi : i + 5 < L) (hr : Rel S T) (k : ∀ S' T' : Mem, Rel S' T' → Gl p l e s m below meth c D cI cB b aC aM Q 2061 [(0, .ref b), (1, .ref (aC 0)), (2, .ref (aM 0)), (3, .int (i32 (i : Int)))] [] S' T') : Gl p l e s m below meth c D cI cB b aC aM Q 1959 [(0, .ref b), (1, .ref (aC 0)), (2, .ref (aM 0)), (3, .int (i32 (i : Int)))] [] S T := by
  obtain ⟨r, S', T', h7, h8, hr'⟩ := Q_valueFor (a := (xs (i + 1)).toInt) hr (R32x _)
  refine gl_aload (pc := 1959) X 1 dL_law_1959 rfl rfl ?_
  refine gl_arg (pc := 1960) X 0 3 (kk := 1) rfl rfl rfl (by omega) dL_law_1960 dL_law_1961 dL_law_1962 dL_law_1963 dL_law_1964 ?_
  refine gl_callC (pc := 1965) X 1 [] (ct_X7_valueFor h7) (gV mL_L_240 iM_X7_valueFor sl_X7_valueFor in_X7 cd_X7_valueFor) hd_X7_valueFor ⟨Nat.le_of_ble_eq_true rfl, Nat.le_of_ble_eq_true rfl⟩ rfl rfl (Nat.le_of_ble_eq_true rfl) dL_law_1965 ?_
  refine gl_aload (pc := 1968) X 2 dL_law_1968 rfl rfl ?_
  refine gl_arg (pc := 1969) X 0 3 (kk := 1) rfl rfl rfl (by omega) dL_law_1969 dL_law_1970 dL_law_1971 dL_law_1972 dL_law_1973 ?_
  refine gl_callM (pc := 1974) X 1 [.int (i32 r)] (ct_X8_valueFor h8) (gV mL_L_243 iM_X8_valueFor sl_X8_valueFor in_X8 cd_X8_valueFor) hd_X8_valueFor ⟨Nat.le_of_ble_eq_true rfl, Nat.le_of_ble_eq_true rfl⟩ rfl rfl (Nat.le_of_ble_eq_true rfl) dL_law_1974 ?_
  exact gl_same (pc := 1977) X 2061 dL_law_1977 rfl (k S' T' hr')
set_option maxRecDepth 100000 in
theorem lc_56 (X : Cl p s m c D cI cB Z b L xs) {i : Nat} (hi : i + 5 < L) (hr : Rel S T) (k : ∀ S' T' : Mem, Rel S' T' → Gl p l e s m below meth c D cI cB b aC aM Q 2061 [(0, .ref b), (1, .ref (aC 0)), (2, .ref (aM 0)), (3, .int (i32 (i : Int)))] [] S' T') : Gl p l e s m below meth c D cI cB b aC aM Q 1982 [(0, .ref b), (1, .ref (aC 0)), (2, .ref (aM 0)), (3, .int (i32 (i : Int)))] [] S T := by
  obtain ⟨r, S', T', h7, h8, hr'⟩ := Q_spell (w := (xs (i + 1)).toInt) hr (R32x _)
  refine gl_aload (pc := 1982) X 1 dL_law_1982 rfl rfl ?_
  refine gl_arg (pc := 1983) X 0 3 (kk := 1) rfl rfl rfl (by omega) dL_law_1983 dL_law_1984 dL_law_1985 dL_law_1986 dL_law_1987 ?_
  refine gl_callC (pc := 1988) X 1 [] (ct_X7_spell h7) (gV mL_L_244 iM_X7_spell sl_X7_spell in_X7 cd_X7_spell) hd_X7_spell ⟨Nat.le_of_ble_eq_true rfl, Nat.le_of_ble_eq_true rfl⟩ rfl rfl (Nat.le_of_ble_eq_true rfl) dL_law_1988 ?_
  refine gl_aload (pc := 1991) X 2 dL_law_1991 rfl rfl ?_
  refine gl_arg (pc := 1992) X 0 3 (kk := 1) rfl rfl rfl (by omega) dL_law_1992 dL_law_1993 dL_law_1994 dL_law_1995 dL_law_1996 ?_
  refine gl_callM (pc := 1997) X 1 [.int (i32 r)] (ct_X8_spell h8) (gV mL_L_247 iM_X8_spell sl_X8_spell in_X8 cd_X8_spell) hd_X8_spell ⟨Nat.le_of_ble_eq_true rfl, Nat.le_of_ble_eq_true rfl⟩ rfl rfl (Nat.le_of_ble_eq_true rfl) dL_law_1997 ?_
  exact gl_same (pc := 2000) X 2061 dL_law_2000 rfl (k S' T' hr')
set_option maxRecDepth 100000 in
theorem lc_57 (X : Cl p s m c D cI cB Z b L xs) {i : Nat} (hi : i + 5 < L) (hr : Rel S T) (k : ∀ S' T' : Mem, Rel S' T' → Gl p l e s m below meth c D cI cB b aC aM Q 2061 [(0, .ref b), (1, .ref (aC 0)), (2, .ref (aM 0)), (3, .int (i32 (i : Int)))] [] S' T') : Gl p l e s m below meth c D cI cB b aC aM Q 2005 [(0, .ref b), (1, .ref (aC 0)), (2, .ref (aM 0)), (3, .int (i32 (i : Int)))] [] S T := by
  obtain ⟨r, S', T', h7, h8, hr'⟩ := Q_report (k := (xs (i + 1)).toInt) (w := (xs (i + 2)).toInt) hr (R32x _) (R32x _)
  refine gl_aload (pc := 2005) X 1 dL_law_2005 rfl rfl ?_
  refine gl_arg (pc := 2006) X 0 3 (kk := 1) rfl rfl rfl (by omega) dL_law_2006 dL_law_2007 dL_law_2008 dL_law_2009 dL_law_2010 ?_
  refine gl_arg (pc := 2011) X 0 3 (kk := 2) rfl rfl rfl (by omega) dL_law_2011 dL_law_2012 dL_law_2013 dL_law_2014 dL_law_2015 ?_
  refine gl_callC (pc := 2016) X 2 [] (ct_X7_report h7) (gV mL_L_248 iM_X7_report sl_X7_report in_X7 cd_X7_report) hd_X7_report ⟨Nat.le_of_ble_eq_true rfl, Nat.le_of_ble_eq_true rfl⟩ rfl rfl (Nat.le_of_ble_eq_true rfl) dL_law_2016 ?_
  refine gl_aload (pc := 2019) X 2 dL_law_2019 rfl rfl ?_
  refine gl_arg (pc := 2020) X 0 3 (kk := 1) rfl rfl rfl (by omega) dL_law_2020 dL_law_2021 dL_law_2022 dL_law_2023 dL_law_2024 ?_
  refine gl_arg (pc := 2025) X 0 3 (kk := 2) rfl rfl rfl (by omega) dL_law_2025 dL_law_2026 dL_law_2027 dL_law_2028 dL_law_2029 ?_
  refine gl_callM (pc := 2030) X 2 [.int (i32 r)] (ct_X8_report h8) (gV mL_L_251 iM_X8_report sl_X8_report in_X8 cd_X8_report) hd_X8_report ⟨Nat.le_of_ble_eq_true rfl, Nat.le_of_ble_eq_true rfl⟩ rfl rfl (Nat.le_of_ble_eq_true rfl) dL_law_2030 ?_
  exact gl_same (pc := 2033) X 2061 dL_law_2033 rfl (k S' T' hr')
set_option maxRecDepth 100000 in
theorem lc_58 (X : Cl p s m c D cI cB Z b L xs) {i : Nat} (hi : i + 5 < L) (hr : Rel S T) (k : ∀ S' T' : Mem, Rel S' T' → Gl p l e s m below meth c D cI cB b aC aM Q 2061 [(0, .ref b), (1, .ref (aC 0)), (2, .ref (aM 0)), (3, .int (i32 (i : Int)))] [] S' T') : Gl p l e s m below meth c D cI cB b aC aM Q 2038 [(0, .ref b), (1, .ref (aC 0)), (2, .ref (aM 0)), (3, .int (i32 (i : Int)))] [] S T := by
  obtain ⟨r, S', h7, h8, hr'⟩ := Q_count (w := (xs (i + 1)).toInt) hr (R32x _)
  refine gl_aload (pc := 2038) X 1 dL_law_2038 rfl rfl ?_
  refine gl_arg (pc := 2039) X 0 3 (kk := 1) rfl rfl rfl (by omega) dL_law_2039 dL_law_2040 dL_law_2041 dL_law_2042 dL_law_2043 ?_
  refine gl_callC (pc := 2044) X 1 [] (ct_X7_count h7) (gV mL_L_252 iM_X7_count sl_X7_count in_X7 cd_X7_count) hd_X7_count ⟨Nat.le_of_ble_eq_true rfl, Nat.le_of_ble_eq_true rfl⟩ rfl rfl (Nat.le_of_ble_eq_true rfl) dL_law_2044 ?_
  refine gl_aload (pc := 2047) X 2 dL_law_2047 rfl rfl ?_
  refine gl_arg (pc := 2048) X 0 3 (kk := 1) rfl rfl rfl (by omega) dL_law_2048 dL_law_2049 dL_law_2050 dL_law_2051 dL_law_2052 ?_
  refine gl_callM (pc := 2053) X 1 [.int (i32 r)] (ct_X8_count h8) (gV mL_L_255 iM_X8_count sl_X8_count in_X8 cd_X8_count) hd_X8_count ⟨Nat.le_of_ble_eq_true rfl, Nat.le_of_ble_eq_true rfl⟩ rfl rfl (Nat.le_of_ble_eq_true rfl) dL_law_2053 ?_
  exact gl_same (pc := 2056) X 2061 dL_law_2056 rfl (k S' T hr')
end LC
