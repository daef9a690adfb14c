-- the law's cases, by program (wip/whole/gen/gen89.py)
section LCASES
variable {p : Program} {l : Launch} {e : Env} {s : State} {m : MethodId} {below : List Frame} {meth : Method} {c : Code} {H : Heap} {Q : State → Prop}
variable {D : va_G} {cA : Nat → ClassId} {st : Nat → Nat} {b L i : Nat} {xs : Nat → Int32} {ls : Array Slot} {mc mr : Mm}
abbrev LEnd (p : Program) (l : Launch) (e : Env) (s : State) (m : MethodId) (below : List Frame) (meth : Method) (c : Code) (b : Nat) (D : va_G) (cA : Nat → ClassId) (st : Nat → Nat) (ls : Array Slot) (Q : State → Prop) : Prop := ∀ (H1 : Heap) (mc1 mr1 : Mm), LSt D cA s st mc1 mr1 H1 → W p l e room_1 s m #[Value.ref b] below meth c H1 [] 188 6654 Q (F0 m 1745 ls [])
def fdx (a b : Int32) : Int64 := (a.toInt64 <<< ((32 : Int32).toInt64 &&& 63)) ||| (b.toInt64 &&& 4294967295)
theorem lc_0 (X : LX D cA st p s m c b L xs) (hL : L ≤ 2560) (hi : i + 5 ≤ L) (hl : lv_has ls 4 (lvL s st b i)) (h : LSt D cA s st mc mr H) (kk : LEnd p l e s m below meth c b D cA st ls Q) : W p l e room_1 s m #[Value.ref b] below meth c H [] 188 6654 Q (F0 m 252 ls []) := by
  have hx := X.1
  have hb := X.2.1
  have hown := X.2.2.2.1
  have hts := X.2.2.2.2.1
  obtain ⟨hO, hPc, hPr, hRR⟩ := h
  obtain ⟨r, mc1, mr1, e1, e2, hRR⟩ := op_set ((xs (i + 1))) ((xs (i + 2))) ((xs (i + 3))) ((xs (i + 4))) mc mr hRR
  refine lv_aload_n hx hb dL_law_252 rfl (lv_at hl 2 rfl) ?_
  refine l_arg (jn := 1) X hO hl hi hL (by decide) dL_law_253 dL_law_254 dL_law_255 (by decide) dL_law_256 dL_law_257 ?_
  refine l_arg (jn := 2) X hO hl hi hL (by decide) dL_law_258 dL_law_259 dL_law_260 (by decide) dL_law_261 dL_law_262 ?_
  refine l_arg (jn := 3) X hO hl hi hL (by decide) dL_law_263 dL_law_264 dL_law_265 (by decide) dL_law_266 dL_law_267 ?_
  refine l_arg (jn := 4) X hO hl hi hL (by decide) dL_law_268 dL_law_269 dL_law_270 (by decide) dL_law_271 dL_law_272 ?_
  refine l_C (As := [.int (xs (i + 1)), .int (xs (i + 2)), .int (xs (i + 3)), .int (xs (i + 4))]) (rest := []) X hO hPc hPr (tX11_set aC_inj e1) wt_2_141 wt_2_142 wt_2_143 wt_2_144 rfl hy_X11_set ⟨rfl, rfl⟩ ⟨(Nat.le_of_ble_eq_true rfl), (Nat.le_of_ble_eq_true rfl)⟩ rfl hl.1 rfl (Nat.le_of_ble_eq_true rfl) dL_law_273 (fun H hO hPc hPr => ?_)
  refine lv_aload_n hx hb dL_law_276 rfl (lv_at hl 1 rfl) ?_
  refine l_arg (jn := 1) X hO hl hi hL (by decide) dL_law_277 dL_law_278 dL_law_279 (by decide) dL_law_280 dL_law_281 ?_
  refine l_arg (jn := 2) X hO hl hi hL (by decide) dL_law_282 dL_law_283 dL_law_284 (by decide) dL_law_285 dL_law_286 ?_
  refine l_arg (jn := 3) X hO hl hi hL (by decide) dL_law_287 dL_law_288 dL_law_289 (by decide) dL_law_290 dL_law_291 ?_
  refine l_arg (jn := 4) X hO hl hi hL (by decide) dL_law_292 dL_law_293 dL_law_294 (by decide) dL_law_295 dL_law_296 ?_
  refine l_R (As := [.int (xs (i + 1)), .int (xs (i + 2)), .int (xs (i + 3)), .int (xs (i + 4))]) (rest := [.int r]) X hO hPc hPr (tX12_set aR_inj e2) wt_6_50 wt_6_51 wt_6_52 wt_6_53 rfl hy_X12_set ⟨rfl, rfl⟩ ⟨(Nat.le_of_ble_eq_true rfl), (Nat.le_of_ble_eq_true rfl)⟩ rfl hl.1 rfl (Nat.le_of_ble_eq_true rfl) dL_law_297 (fun H hO hPc hPr => ?_)
  refine lv_icmp_eq (tgt := 1745) hx hb dL_law_300 (by decide) (fun _ => ?_) (fun c => absurd rfl c)
  exact kk H mc1 mr1 ⟨hO, hPc, hPr, hRR⟩
theorem lc_1 (X : LX D cA st p s m c b L xs) (hL : L ≤ 2560) (hi : i + 5 ≤ L) (hl : lv_has ls 4 (lvL s st b i)) (h : LSt D cA s st mc mr H) (kk : LEnd p l e s m below meth c b D cA st ls Q) : W p l e room_1 s m #[Value.ref b] below meth c H [] 188 6654 Q (F0 m 305 ls []) := by
  have hx := X.1
  have hb := X.2.1
  have hown := X.2.2.2.1
  have hts := X.2.2.2.2.1
  obtain ⟨hO, hPc, hPr, hRR⟩ := h
  obtain ⟨r, mc1, mr1, e1, e2, hRR⟩ := op_setOf ((xs (i + 1))) ((xs (i + 2))) mc mr hRR
  refine lv_aload_n hx hb dL_law_305 rfl (lv_at hl 2 rfl) ?_
  refine l_arg (jn := 1) X hO hl hi hL (by decide) dL_law_306 dL_law_307 dL_law_308 (by decide) dL_law_309 dL_law_310 ?_
  refine l_arg (jn := 2) X hO hl hi hL (by decide) dL_law_311 dL_law_312 dL_law_313 (by decide) dL_law_314 dL_law_315 ?_
  refine l_C (As := [.int (xs (i + 1)), .int (xs (i + 2))]) (rest := []) X hO hPc hPr (tX11_setOf aC_inj e1) wt_2_156 wt_2_157 wt_2_158 wt_2_159 rfl hy_X11_setOf ⟨rfl, rfl⟩ ⟨(Nat.le_of_ble_eq_true rfl), (Nat.le_of_ble_eq_true rfl)⟩ rfl hl.1 rfl (Nat.le_of_ble_eq_true rfl) dL_law_316 (fun H hO hPc hPr => ?_)
  refine lv_aload_n hx hb dL_law_319 rfl (lv_at hl 1 rfl) ?_
  refine l_arg (jn := 1) X hO hl hi hL (by decide) dL_law_320 dL_law_321 dL_law_322 (by decide) dL_law_323 dL_law_324 ?_
  refine l_arg (jn := 2) X hO hl hi hL (by decide) dL_law_325 dL_law_326 dL_law_327 (by decide) dL_law_328 dL_law_329 ?_
  refine l_R (As := [.int (xs (i + 1)), .int (xs (i + 2))]) (rest := [.int r]) X hO hPc hPr (tX12_setOf aR_inj e2) wt_6_63 wt_6_64 wt_6_65 wt_6_66 rfl hy_X12_setOf ⟨rfl, rfl⟩ ⟨(Nat.le_of_ble_eq_true rfl), (Nat.le_of_ble_eq_true rfl)⟩ rfl hl.1 rfl (Nat.le_of_ble_eq_true rfl) dL_law_330 (fun H hO hPc hPr => ?_)
  refine lv_icmp_eq (tgt := 1745) hx hb dL_law_333 (by decide) (fun _ => ?_) (fun c => absurd rfl c)
  exact kk H mc1 mr1 ⟨hO, hPc, hPr, hRR⟩
theorem lc_2 (X : LX D cA st p s m c b L xs) (hL : L ≤ 2560) (hi : i + 5 ≤ L) (hl : lv_has ls 4 (lvL s st b i)) (h : LSt D cA s st mc mr H) (kk : LEnd p l e s m below meth c b D cA st ls Q) : W p l e room_1 s m #[Value.ref b] below meth c H [] 188 6654 Q (F0 m 338 ls []) := by
  have hx := X.1
  have hb := X.2.1
  have hown := X.2.2.2.1
  have hts := X.2.2.2.2.1
  obtain ⟨hO, hPc, hPr, hRR⟩ := h
  obtain ⟨r, mc1, mr1, e1, e2, hRR⟩ := op_change ((xs (i + 1))) ((xs (i + 2))) ((xs (i + 3))) mc mr hRR
  refine lv_aload_n hx hb dL_law_338 rfl (lv_at hl 2 rfl) ?_
  refine l_arg (jn := 1) X hO hl hi hL (by decide) dL_law_339 dL_law_340 dL_law_341 (by decide) dL_law_342 dL_law_343 ?_
  refine l_arg (jn := 2) X hO hl hi hL (by decide) dL_law_344 dL_law_345 dL_law_346 (by decide) dL_law_347 dL_law_348 ?_
  refine l_arg (jn := 3) X hO hl hi hL (by decide) dL_law_349 dL_law_350 dL_law_351 (by decide) dL_law_352 dL_law_353 ?_
  refine l_C (As := [.int (xs (i + 1)), .int (xs (i + 2)), .int (xs (i + 3))]) (rest := []) X hO hPc hPr (tX11_change aC_inj e1) wt_3_28 wt_3_29 wt_3_30 wt_3_31 rfl hy_X11_change ⟨rfl, rfl⟩ ⟨(Nat.le_of_ble_eq_true rfl), (Nat.le_of_ble_eq_true rfl)⟩ rfl hl.1 rfl (Nat.le_of_ble_eq_true rfl) dL_law_354 (fun H hO hPc hPr => ?_)
  refine lv_aload_n hx hb dL_law_357 rfl (lv_at hl 1 rfl) ?_
  refine l_arg (jn := 1) X hO hl hi hL (by decide) dL_law_358 dL_law_359 dL_law_360 (by decide) dL_law_361 dL_law_362 ?_
  refine l_arg (jn := 2) X hO hl hi hL (by decide) dL_law_363 dL_law_364 dL_law_365 (by decide) dL_law_366 dL_law_367 ?_
  refine l_arg (jn := 3) X hO hl hi hL (by decide) dL_law_368 dL_law_369 dL_law_370 (by decide) dL_law_371 dL_law_372 ?_
  refine l_R (As := [.int (xs (i + 1)), .int (xs (i + 2)), .int (xs (i + 3))]) (rest := [.int r]) X hO hPc hPr (tX12_change aR_inj e2) wt_6_108 wt_6_109 wt_6_110 wt_6_111 rfl hy_X12_change ⟨rfl, rfl⟩ ⟨(Nat.le_of_ble_eq_true rfl), (Nat.le_of_ble_eq_true rfl)⟩ rfl hl.1 rfl (Nat.le_of_ble_eq_true rfl) dL_law_373 (fun H hO hPc hPr => ?_)
  refine lv_icmp_eq (tgt := 1745) hx hb dL_law_376 (by decide) (fun _ => ?_) (fun c => absurd rfl c)
  exact kk H mc1 mr1 ⟨hO, hPc, hPr, hRR⟩
theorem lc_3 (X : LX D cA st p s m c b L xs) (hL : L ≤ 2560) (hi : i + 5 ≤ L) (hl : lv_has ls 4 (lvL s st b i)) (h : LSt D cA s st mc mr H) (kk : LEnd p l e s m below meth c b D cA st ls Q) : W p l e room_1 s m #[Value.ref b] below meth c H [] 188 6654 Q (F0 m 381 ls []) := by
  have hx := X.1
  have hb := X.2.1
  have hown := X.2.2.2.1
  have hts := X.2.2.2.2.1
  obtain ⟨hO, hPc, hPr, hRR⟩ := h
  obtain ⟨r, mc1, mr1, e1, e2, hRR⟩ := op_remake ((xs (i + 1))) ((xs (i + 2))) mc mr hRR
  refine lv_aload_n hx hb dL_law_381 rfl (lv_at hl 2 rfl) ?_
  refine l_arg (jn := 1) X hO hl hi hL (by decide) dL_law_382 dL_law_383 dL_law_384 (by decide) dL_law_385 dL_law_386 ?_
  refine l_arg (jn := 2) X hO hl hi hL (by decide) dL_law_387 dL_law_388 dL_law_389 (by decide) dL_law_390 dL_law_391 ?_
  refine l_C (As := [.int (xs (i + 1)), .int (xs (i + 2))]) (rest := []) X hO hPc hPr (tX11_remake aC_inj e1) wt_3_36 wt_3_37 wt_3_38 wt_3_39 rfl hy_X11_remake ⟨rfl, rfl⟩ ⟨(Nat.le_of_ble_eq_true rfl), (Nat.le_of_ble_eq_true rfl)⟩ rfl hl.1 rfl (Nat.le_of_ble_eq_true rfl) dL_law_392 (fun H hO hPc hPr => ?_)
  refine lv_aload_n hx hb dL_law_395 rfl (lv_at hl 1 rfl) ?_
  refine l_arg (jn := 1) X hO hl hi hL (by decide) dL_law_396 dL_law_397 dL_law_398 (by decide) dL_law_399 dL_law_400 ?_
  refine l_arg (jn := 2) X hO hl hi hL (by decide) dL_law_401 dL_law_402 dL_law_403 (by decide) dL_law_404 dL_law_405 ?_
  refine l_R (As := [.int (xs (i + 1)), .int (xs (i + 2))]) (rest := [.int r]) X hO hPc hPr (tX12_remake aR_inj e2) wt_6_117 wt_6_118 wt_6_119 wt_6_120 rfl hy_X12_remake ⟨rfl, rfl⟩ ⟨(Nat.le_of_ble_eq_true rfl), (Nat.le_of_ble_eq_true rfl)⟩ rfl hl.1 rfl (Nat.le_of_ble_eq_true rfl) dL_law_406 (fun H hO hPc hPr => ?_)
  refine lv_icmp_eq (tgt := 1745) hx hb dL_law_409 (by decide) (fun _ => ?_) (fun c => absurd rfl c)
  exact kk H mc1 mr1 ⟨hO, hPc, hPr, hRR⟩
theorem lc_4 (X : LX D cA st p s m c b L xs) (hL : L ≤ 2560) (hi : i + 5 ≤ L) (hl : lv_has ls 4 (lvL s st b i)) (h : LSt D cA s st mc mr H) (kk : LEnd p l e s m below meth c b D cA st ls Q) : W p l e room_1 s m #[Value.ref b] below meth c H [] 188 6654 Q (F0 m 414 ls []) := by
  have hx := X.1
  have hb := X.2.1
  have hown := X.2.2.2.1
  have hts := X.2.2.2.2.1
  obtain ⟨hO, hPc, hPr, hRR⟩ := h
  obtain ⟨r, mc1, mr1, e1, e2, hRR⟩ := op_machine ((xs (i + 1))) ((xs (i + 2))) ((xs (i + 3))) mc mr hRR
  refine lv_aload_n hx hb dL_law_414 rfl (lv_at hl 2 rfl) ?_
  refine l_arg (jn := 1) X hO hl hi hL (by decide) dL_law_415 dL_law_416 dL_law_417 (by decide) dL_law_418 dL_law_419 ?_
  refine l_arg (jn := 2) X hO hl hi hL (by decide) dL_law_420 dL_law_421 dL_law_422 (by decide) dL_law_423 dL_law_424 ?_
  refine l_arg (jn := 3) X hO hl hi hL (by decide) dL_law_425 dL_law_426 dL_law_427 (by decide) dL_law_428 dL_law_429 ?_
  refine l_C (As := [.int (xs (i + 1)), .int (xs (i + 2)), .int (xs (i + 3))]) (rest := []) X hO hPc hPr (tX11_machine aC_inj e1) wt_3_40 wt_3_41 wt_3_42 wt_3_43 rfl hy_X11_machine ⟨rfl, rfl⟩ ⟨(Nat.le_of_ble_eq_true rfl), (Nat.le_of_ble_eq_true rfl)⟩ rfl hl.1 rfl (Nat.le_of_ble_eq_true rfl) dL_law_430 (fun H hO hPc hPr => ?_)
  refine lv_aload_n hx hb dL_law_433 rfl (lv_at hl 1 rfl) ?_
  refine l_arg (jn := 1) X hO hl hi hL (by decide) dL_law_434 dL_law_435 dL_law_436 (by decide) dL_law_437 dL_law_438 ?_
  refine l_arg (jn := 2) X hO hl hi hL (by decide) dL_law_439 dL_law_440 dL_law_441 (by decide) dL_law_442 dL_law_443 ?_
  refine l_arg (jn := 3) X hO hl hi hL (by decide) dL_law_444 dL_law_445 dL_law_446 (by decide) dL_law_447 dL_law_448 ?_
  refine l_R (As := [.int (xs (i + 1)), .int (xs (i + 2)), .int (xs (i + 3))]) (rest := [.int r]) X hO hPc hPr (tX12_machine aR_inj e2) wt_6_121 wt_6_122 wt_6_123 wt_6_124 rfl hy_X12_machine ⟨rfl, rfl⟩ ⟨(Nat.le_of_ble_eq_true rfl), (Nat.le_of_ble_eq_true rfl)⟩ rfl hl.1 rfl (Nat.le_of_ble_eq_true rfl) dL_law_449 (fun H hO hPc hPr => ?_)
  refine lv_icmp_eq (tgt := 1745) hx hb dL_law_452 (by decide) (fun _ => ?_) (fun c => absurd rfl c)
  exact kk H mc1 mr1 ⟨hO, hPc, hPr, hRR⟩
theorem lc_5 (X : LX D cA st p s m c b L xs) (hL : L ≤ 2560) (hi : i + 5 ≤ L) (hl : lv_has ls 4 (lvL s st b i)) (h : LSt D cA s st mc mr H) (kk : LEnd p l e s m below meth c b D cA st ls Q) : W p l e room_1 s m #[Value.ref b] below meth c H [] 188 6654 Q (F0 m 457 ls []) := by
  have hx := X.1
  have hb := X.2.1
  have hown := X.2.2.2.1
  have hts := X.2.2.2.2.1
  obtain ⟨hO, hPc, hPr, hRR⟩ := h
  obtain ⟨r, mc1, mr1, e1, e2, hRR⟩ := op_machineOf ((xs (i + 1))) ((xs (i + 2))) mc mr hRR
  refine lv_aload_n hx hb dL_law_457 rfl (lv_at hl 2 rfl) ?_
  refine l_arg (jn := 1) X hO hl hi hL (by decide) dL_law_458 dL_law_459 dL_law_460 (by decide) dL_law_461 dL_law_462 ?_
  refine l_arg (jn := 2) X hO hl hi hL (by decide) dL_law_463 dL_law_464 dL_law_465 (by decide) dL_law_466 dL_law_467 ?_
  refine l_C (As := [.int (xs (i + 1)), .int (xs (i + 2))]) (rest := []) X hO hPc hPr (tX11_machineOf aC_inj e1) wt_3_49 wt_3_50 wt_3_51 wt_3_52 rfl hy_X11_machineOf ⟨rfl, rfl⟩ ⟨(Nat.le_of_ble_eq_true rfl), (Nat.le_of_ble_eq_true rfl)⟩ rfl hl.1 rfl (Nat.le_of_ble_eq_true rfl) dL_law_468 (fun H hO hPc hPr => ?_)
  refine lv_aload_n hx hb dL_law_471 rfl (lv_at hl 1 rfl) ?_
  refine l_arg (jn := 1) X hO hl hi hL (by decide) dL_law_472 dL_law_473 dL_law_474 (by decide) dL_law_475 dL_law_476 ?_
  refine l_arg (jn := 2) X hO hl hi hL (by decide) dL_law_477 dL_law_478 dL_law_479 (by decide) dL_law_480 dL_law_481 ?_
  refine l_R (As := [.int (xs (i + 1)), .int (xs (i + 2))]) (rest := [.int r]) X hO hPc hPr (tX12_machineOf aR_inj e2) wt_6_126 wt_6_127 wt_6_128 wt_6_129 rfl hy_X12_machineOf ⟨rfl, rfl⟩ ⟨(Nat.le_of_ble_eq_true rfl), (Nat.le_of_ble_eq_true rfl)⟩ rfl hl.1 rfl (Nat.le_of_ble_eq_true rfl) dL_law_482 (fun H hO hPc hPr => ?_)
  refine lv_icmp_eq (tgt := 1745) hx hb dL_law_485 (by decide) (fun _ => ?_) (fun c => absurd rfl c)
  exact kk H mc1 mr1 ⟨hO, hPc, hPr, hRR⟩
theorem lc_6 (X : LX D cA st p s m c b L xs) (hL : L ≤ 2560) (hi : i + 5 ≤ L) (hl : lv_has ls 4 (lvL s st b i)) (h : LSt D cA s st mc mr H) (kk : LEnd p l e s m below meth c b D cA st ls Q) : W p l e room_1 s m #[Value.ref b] below meth c H [] 188 6654 Q (F0 m 490 ls []) := by
  have hx := X.1
  have hb := X.2.1
  have hown := X.2.2.2.1
  have hts := X.2.2.2.2.1
  obtain ⟨hO, hPc, hPr, hRR⟩ := h
  obtain ⟨r, mc1, mr1, e1, e2, hRR⟩ := op_tire ((xs (i + 1))) ((xs (i + 2))) mc mr hRR
  refine lv_aload_n hx hb dL_law_490 rfl (lv_at hl 2 rfl) ?_
  refine l_arg (jn := 1) X hO hl hi hL (by decide) dL_law_491 dL_law_492 dL_law_493 (by decide) dL_law_494 dL_law_495 ?_
  refine l_arg (jn := 2) X hO hl hi hL (by decide) dL_law_496 dL_law_497 dL_law_498 (by decide) dL_law_499 dL_law_500 ?_
  refine l_C (As := [.int (xs (i + 1)), .int (xs (i + 2))]) (rest := []) X hO hPc hPr (tX11_tire aC_inj e1) wt_3_53 wt_3_54 wt_3_55 wt_3_56 rfl hy_X11_tire ⟨rfl, rfl⟩ ⟨(Nat.le_of_ble_eq_true rfl), (Nat.le_of_ble_eq_true rfl)⟩ rfl hl.1 rfl (Nat.le_of_ble_eq_true rfl) dL_law_501 (fun H hO hPc hPr => ?_)
  refine lv_aload_n hx hb dL_law_504 rfl (lv_at hl 1 rfl) ?_
  refine l_arg (jn := 1) X hO hl hi hL (by decide) dL_law_505 dL_law_506 dL_law_507 (by decide) dL_law_508 dL_law_509 ?_
  refine l_arg (jn := 2) X hO hl hi hL (by decide) dL_law_510 dL_law_511 dL_law_512 (by decide) dL_law_513 dL_law_514 ?_
  refine l_R (As := [.int (xs (i + 1)), .int (xs (i + 2))]) (rest := [.int r]) X hO hPc hPr (tX12_tire aR_inj e2) wt_6_130 wt_6_131 wt_6_132 wt_6_133 rfl hy_X12_tire ⟨rfl, rfl⟩ ⟨(Nat.le_of_ble_eq_true rfl), (Nat.le_of_ble_eq_true rfl)⟩ rfl hl.1 rfl (Nat.le_of_ble_eq_true rfl) dL_law_515 (fun H hO hPc hPr => ?_)
  refine lv_icmp_eq (tgt := 1745) hx hb dL_law_518 (by decide) (fun _ => ?_) (fun c => absurd rfl c)
  exact kk H mc1 mr1 ⟨hO, hPc, hPr, hRR⟩
theorem lc_7 (X : LX D cA st p s m c b L xs) (hL : L ≤ 2560) (hi : i + 5 ≤ L) (hl : lv_has ls 4 (lvL s st b i)) (h : LSt D cA s st mc mr H) (kk : LEnd p l e s m below meth c b D cA st ls Q) : W p l e room_1 s m #[Value.ref b] below meth c H [] 188 6654 Q (F0 m 523 ls []) := by
  have hx := X.1
  have hb := X.2.1
  have hown := X.2.2.2.1
  have hts := X.2.2.2.2.1
  obtain ⟨hO, hPc, hPr, hRR⟩ := h
  obtain ⟨r, mc1, mr1, e1, e2, hRR⟩ := op_ends ((xs (i + 1))) mc mr hRR
  refine lv_aload_n hx hb dL_law_523 rfl (lv_at hl 2 rfl) ?_
  refine l_arg (jn := 1) X hO hl hi hL (by decide) dL_law_524 dL_law_525 dL_law_526 (by decide) dL_law_527 dL_law_528 ?_
  refine l_C (As := [.int (xs (i + 1))]) (rest := []) X hO hPc hPr (tX11_ends aC_inj e1) wt_3_57 wt_3_58 wt_3_59 wt_3_60 rfl hy_X11_ends ⟨rfl, rfl⟩ ⟨(Nat.le_of_ble_eq_true rfl), (Nat.le_of_ble_eq_true rfl)⟩ rfl hl.1 rfl (Nat.le_of_ble_eq_true rfl) dL_law_529 (fun H hO hPc hPr => ?_)
  refine lv_aload_n hx hb dL_law_532 rfl (lv_at hl 1 rfl) ?_
  refine l_arg (jn := 1) X hO hl hi hL (by decide) dL_law_533 dL_law_534 dL_law_535 (by decide) dL_law_536 dL_law_537 ?_
  refine l_R (As := [.int (xs (i + 1))]) (rest := [.int r]) X hO hPc hPr (tX12_ends aR_inj e2) wt_6_134 wt_6_135 wt_6_136 wt_6_137 rfl hy_X12_ends ⟨rfl, rfl⟩ ⟨(Nat.le_of_ble_eq_true rfl), (Nat.le_of_ble_eq_true rfl)⟩ rfl hl.1 rfl (Nat.le_of_ble_eq_true rfl) dL_law_538 (fun H hO hPc hPr => ?_)
  refine lv_icmp_eq (tgt := 1745) hx hb dL_law_541 (by decide) (fun _ => ?_) (fun c => absurd rfl c)
  exact kk H mc1 mr1 ⟨hO, hPc, hPr, hRR⟩
theorem lc_8 (X : LX D cA st p s m c b L xs) (hL : L ≤ 2560) (hi : i + 5 ≤ L) (hl : lv_has ls 4 (lvL s st b i)) (h : LSt D cA s st mc mr H) (kk : LEnd p l e s m below meth c b D cA st ls Q) : W p l e room_1 s m #[Value.ref b] below meth c H [] 188 6654 Q (F0 m 546 ls []) := by
  have hx := X.1
  have hb := X.2.1
  have hown := X.2.2.2.1
  have hts := X.2.2.2.2.1
  obtain ⟨hO, hPc, hPr, hRR⟩ := h
  obtain ⟨r, mc1, mr1, e1, e2, hRR⟩ := op_anew  mc mr hRR
  refine lv_aload_n hx hb dL_law_546 rfl (lv_at hl 2 rfl) ?_
  refine l_C (As := []) (rest := []) X hO hPc hPr (tX11_anew aC_inj e1) wt_3_61 wt_3_62 wt_3_63 wt_3_64 rfl hy_X11_anew ⟨rfl, rfl⟩ ⟨(Nat.le_of_ble_eq_true rfl), (Nat.le_of_ble_eq_true rfl)⟩ rfl hl.1 rfl (Nat.le_of_ble_eq_true rfl) dL_law_547 (fun H hO hPc hPr => ?_)
  refine lv_aload_n hx hb dL_law_550 rfl (lv_at hl 1 rfl) ?_
  refine l_R (As := []) (rest := [.int r]) X hO hPc hPr (tX12_anew aR_inj e2) wt_6_139 wt_6_140 wt_6_141 wt_6_142 rfl hy_X12_anew ⟨rfl, rfl⟩ ⟨(Nat.le_of_ble_eq_true rfl), (Nat.le_of_ble_eq_true rfl)⟩ rfl hl.1 rfl (Nat.le_of_ble_eq_true rfl) dL_law_551 (fun H hO hPc hPr => ?_)
  refine lv_icmp_eq (tgt := 1745) hx hb dL_law_554 (by decide) (fun _ => ?_) (fun c => absurd rfl c)
  exact kk H mc1 mr1 ⟨hO, hPc, hPr, hRR⟩
theorem lc_9 (X : LX D cA st p s m c b L xs) (hL : L ≤ 2560) (hi : i + 5 ≤ L) (hl : lv_has ls 4 (lvL s st b i)) (h : LSt D cA s st mc mr H) (kk : LEnd p l e s m below meth c b D cA st ls Q) : W p l e room_1 s m #[Value.ref b] below meth c H [] 188 6654 Q (F0 m 559 ls []) := by
  have hx := X.1
  have hb := X.2.1
  have hown := X.2.2.2.1
  have hts := X.2.2.2.2.1
  obtain ⟨hO, hPc, hPr, hRR⟩ := h
  obtain ⟨r, mc1, mr1, e1, e2, hRR⟩ := op_state ((xs (i + 1))) mc mr hRR
  refine lv_aload_n hx hb dL_law_559 rfl (lv_at hl 2 rfl) ?_
  refine l_arg (jn := 1) X hO hl hi hL (by decide) dL_law_560 dL_law_561 dL_law_562 (by decide) dL_law_563 dL_law_564 ?_
  refine l_C (As := [.int (xs (i + 1))]) (rest := []) X hO hPc hPr (tX11_state aC_inj e1) wt_3_69 wt_3_70 wt_3_71 wt_3_72 rfl hy_X11_state ⟨rfl, rfl⟩ ⟨(Nat.le_of_ble_eq_true rfl), (Nat.le_of_ble_eq_true rfl)⟩ rfl hl.1 rfl (Nat.le_of_ble_eq_true rfl) dL_law_565 (fun H hO hPc hPr => ?_)
  refine lv_aload_n hx hb dL_law_568 rfl (lv_at hl 1 rfl) ?_
  refine l_arg (jn := 1) X hO hl hi hL (by decide) dL_law_569 dL_law_570 dL_law_571 (by decide) dL_law_572 dL_law_573 ?_
  refine l_R (As := [.int (xs (i + 1))]) (rest := [.int r]) X hO hPc hPr (tX12_state aR_inj e2) wt_6_143 wt_6_144 wt_6_145 wt_6_146 rfl hy_X12_state ⟨rfl, rfl⟩ ⟨(Nat.le_of_ble_eq_true rfl), (Nat.le_of_ble_eq_true rfl)⟩ rfl hl.1 rfl (Nat.le_of_ble_eq_true rfl) dL_law_574 (fun H hO hPc hPr => ?_)
  refine lv_icmp_eq (tgt := 1745) hx hb dL_law_577 (by decide) (fun _ => ?_) (fun c => absurd rfl c)
  exact kk H mc1 mr1 ⟨hO, hPc, hPr, hRR⟩
theorem lc_10 (X : LX D cA st p s m c b L xs) (hL : L ≤ 2560) (hi : i + 5 ≤ L) (hl : lv_has ls 4 (lvL s st b i)) (h : LSt D cA s st mc mr H) (kk : LEnd p l e s m below meth c b D cA st ls Q) : W p l e room_1 s m #[Value.ref b] below meth c H [] 188 6654 Q (F0 m 582 ls []) := by
  have hx := X.1
  have hb := X.2.1
  have hown := X.2.2.2.1
  have hts := X.2.2.2.2.1
  obtain ⟨hO, hPc, hPr, hRR⟩ := h
  obtain ⟨r, mc1, mr1, e1, e2, hRR⟩ := op_feed ((fdx (xs (i + 1)) (xs (i + 2)))) ((xs (i + 3))) mc mr hRR
  refine lv_aload_n hx hb dL_law_582 rfl (lv_at hl 2 rfl) ?_
  refine l_arg (jn := 1) X hO hl hi hL (by decide) dL_law_583 dL_law_584 dL_law_585 (by decide) dL_law_586 dL_law_587 ?_
  refine lv_i2l hx hb dL_law_588 rfl ?_
  refine lv_bipush (v := 32) hx hb dL_law_589 (by decide) ?_
  refine lv_lshl hx hb dL_law_591 rfl ?_
  refine l_arg (jn := 2) X hO hl hi hL (by decide) dL_law_592 dL_law_593 dL_law_594 (by decide) dL_law_595 dL_law_596 ?_
  refine lv_i2l hx hb dL_law_597 rfl ?_
  refine lv_ldc2 hx hb hown (hts _ wt_8_69) dL_law_598 ?_
  refine lv_land hx hb dL_law_601 ?_
  refine lv_lor hx hb dL_law_602 ?_
  refine l_arg (jn := 3) X hO hl hi hL (by decide) dL_law_603 dL_law_604 dL_law_605 (by decide) dL_law_606 dL_law_607 ?_
  refine l_C (As := [.long (fdx (xs (i + 1)) (xs (i + 2))), .int (xs (i + 3))]) (rest := []) X hO hPc hPr (tX11_feed aC_inj e1) wt_3_81 wt_3_82 wt_3_83 wt_3_84 rfl hy_X11_feed ⟨rfl, rfl⟩ ⟨(Nat.le_of_ble_eq_true rfl), (Nat.le_of_ble_eq_true rfl)⟩ rfl hl.1 rfl (Nat.le_of_ble_eq_true rfl) dL_law_608 (fun H hO hPc hPr => ?_)
  refine lv_aload_n hx hb dL_law_611 rfl (lv_at hl 1 rfl) ?_
  refine l_arg (jn := 1) X hO hl hi hL (by decide) dL_law_612 dL_law_613 dL_law_614 (by decide) dL_law_615 dL_law_616 ?_
  refine lv_i2l hx hb dL_law_617 rfl ?_
  refine lv_bipush (v := 32) hx hb dL_law_618 (by decide) ?_
  refine lv_lshl hx hb dL_law_620 rfl ?_
  refine l_arg (jn := 2) X hO hl hi hL (by decide) dL_law_621 dL_law_622 dL_law_623 (by decide) dL_law_624 dL_law_625 ?_
  refine lv_i2l hx hb dL_law_626 rfl ?_
  refine lv_ldc2 hx hb hown (hts _ wt_8_69) dL_law_627 ?_
  refine lv_land hx hb dL_law_630 ?_
  refine lv_lor hx hb dL_law_631 ?_
  refine l_arg (jn := 3) X hO hl hi hL (by decide) dL_law_632 dL_law_633 dL_law_634 (by decide) dL_law_635 dL_law_636 ?_
  refine l_R (As := [.long (fdx (xs (i + 1)) (xs (i + 2))), .int (xs (i + 3))]) (rest := [.int r]) X hO hPc hPr (tX12_feed aR_inj e2) wt_6_155 wt_6_156 wt_6_157 wt_6_158 rfl hy_X12_feed ⟨rfl, rfl⟩ ⟨(Nat.le_of_ble_eq_true rfl), (Nat.le_of_ble_eq_true rfl)⟩ rfl hl.1 rfl (Nat.le_of_ble_eq_true rfl) dL_law_637 (fun H hO hPc hPr => ?_)
  refine lv_icmp_eq (tgt := 1745) hx hb dL_law_640 (by decide) (fun _ => ?_) (fun c => absurd rfl c)
  exact kk H mc1 mr1 ⟨hO, hPc, hPr, hRR⟩
theorem lc_11 (X : LX D cA st p s m c b L xs) (hL : L ≤ 2560) (hi : i + 5 ≤ L) (hl : lv_has ls 4 (lvL s st b i)) (h : LSt D cA s st mc mr H) (kk : LEnd p l e s m below meth c b D cA st ls Q) : W p l e room_1 s m #[Value.ref b] below meth c H [] 188 6654 Q (F0 m 645 ls []) := by
  have hx := X.1
  have hb := X.2.1
  have hown := X.2.2.2.1
  have hts := X.2.2.2.2.1
  obtain ⟨hO, hPc, hPr, hRR⟩ := h
  obtain ⟨r, mc1, mr1, e1, e2, hRR⟩ := op_rules  mc mr hRR
  refine lv_aload_n hx hb dL_law_645 rfl (lv_at hl 2 rfl) ?_
  refine l_C (As := []) (rest := []) X hO hPc hPr (tX11_rules aC_inj e1) wt_3_85 wt_3_86 wt_3_87 wt_3_88 rfl hy_X11_rules ⟨rfl, rfl⟩ ⟨(Nat.le_of_ble_eq_true rfl), (Nat.le_of_ble_eq_true rfl)⟩ rfl hl.1 rfl (Nat.le_of_ble_eq_true rfl) dL_law_646 (fun H hO hPc hPr => ?_)
  refine lv_aload_n hx hb dL_law_649 rfl (lv_at hl 1 rfl) ?_
  refine l_R (As := []) (rest := [.int r]) X hO hPc hPr (tX12_rules aR_inj e2) wt_6_160 wt_6_161 wt_6_162 wt_6_163 rfl hy_X12_rules ⟨rfl, rfl⟩ ⟨(Nat.le_of_ble_eq_true rfl), (Nat.le_of_ble_eq_true rfl)⟩ rfl hl.1 rfl (Nat.le_of_ble_eq_true rfl) dL_law_650 (fun H hO hPc hPr => ?_)
  refine lv_icmp_eq (tgt := 1745) hx hb dL_law_653 (by decide) (fun _ => ?_) (fun c => absurd rfl c)
  exact kk H mc1 mr1 ⟨hO, hPc, hPr, hRR⟩
theorem lc_12 (X : LX D cA st p s m c b L xs) (hL : L ≤ 2560) (hi : i + 5 ≤ L) (hl : lv_has ls 4 (lvL s st b i)) (h : LSt D cA s st mc mr H) (kk : LEnd p l e s m below meth c b D cA st ls Q) : W p l e room_1 s m #[Value.ref b] below meth c H [] 188 6654 Q (F0 m 658 ls []) := by
  have hx := X.1
  have hb := X.2.1
  have hown := X.2.2.2.1
  have hts := X.2.2.2.2.1
  obtain ⟨hO, hPc, hPr, hRR⟩ := h
  obtain ⟨r, mc1, mr1, e1, e2, hRR⟩ := op_minute  mc mr hRR
  refine lv_aload_n hx hb dL_law_658 rfl (lv_at hl 2 rfl) ?_
  refine l_C (As := []) (rest := []) X hO hPc hPr (tX11_minute aC_inj e1) wt_3_209 wt_3_210 wt_3_211 wt_3_212 rfl hy_X11_minute ⟨rfl, rfl⟩ ⟨(Nat.le_of_ble_eq_true rfl), (Nat.le_of_ble_eq_true rfl)⟩ rfl hl.1 rfl (Nat.le_of_ble_eq_true rfl) dL_law_659 (fun H hO hPc hPr => ?_)
  refine lv_aload_n hx hb dL_law_662 rfl (lv_at hl 1 rfl) ?_
  refine l_R (As := []) (rest := [.int r]) X hO hPc hPr (tX12_minute aR_inj e2) wt_6_238 wt_6_239 wt_7_0 wt_7_1 rfl hy_X12_minute ⟨rfl, rfl⟩ ⟨(Nat.le_of_ble_eq_true rfl), (Nat.le_of_ble_eq_true rfl)⟩ rfl hl.1 rfl (Nat.le_of_ble_eq_true rfl) dL_law_663 (fun H hO hPc hPr => ?_)
  refine lv_icmp_eq (tgt := 1745) hx hb dL_law_666 (by decide) (fun _ => ?_) (fun c => absurd rfl c)
  exact kk H mc1 mr1 ⟨hO, hPc, hPr, hRR⟩
theorem lc_13 (X : LX D cA st p s m c b L xs) (hL : L ≤ 2560) (hi : i + 5 ≤ L) (hl : lv_has ls 4 (lvL s st b i)) (h : LSt D cA s st mc mr H) (kk : LEnd p l e s m below meth c b D cA st ls Q) : W p l e room_1 s m #[Value.ref b] below meth c H [] 188 6654 Q (F0 m 671 ls []) := by
  have hx := X.1
  have hb := X.2.1
  have hown := X.2.2.2.1
  have hts := X.2.2.2.2.1
  obtain ⟨hO, hPc, hPr, hRR⟩ := h
  obtain ⟨r, mc1, mr1, e1, e2, hRR⟩ := op_on ((xs (i + 1))) mc mr hRR
  refine lv_aload_n hx hb dL_law_671 rfl (lv_at hl 2 rfl) ?_
  refine l_arg (jn := 1) X hO hl hi hL (by decide) dL_law_672 dL_law_673 dL_law_674 (by decide) dL_law_675 dL_law_676 ?_
  refine l_C (As := [.int (xs (i + 1))]) (rest := []) X hO hPc hPr (tX11_on aC_inj e1) wt_3_238 wt_3_239 wt_4_0 wt_4_1 rfl hy_X11_on ⟨rfl, rfl⟩ ⟨(Nat.le_of_ble_eq_true rfl), (Nat.le_of_ble_eq_true rfl)⟩ rfl hl.1 rfl (Nat.le_of_ble_eq_true rfl) dL_law_677 (fun H hO hPc hPr => ?_)
  refine lv_aload_n hx hb dL_law_680 rfl (lv_at hl 1 rfl) ?_
  refine l_arg (jn := 1) X hO hl hi hL (by decide) dL_law_681 dL_law_682 dL_law_683 (by decide) dL_law_684 dL_law_685 ?_
  refine l_R (As := [.int (xs (i + 1))]) (rest := [.int r]) X hO hPc hPr (tX12_on aR_inj e2) wt_7_20 wt_7_21 wt_7_22 wt_7_23 rfl hy_X12_on ⟨rfl, rfl⟩ ⟨(Nat.le_of_ble_eq_true rfl), (Nat.le_of_ble_eq_true rfl)⟩ rfl hl.1 rfl (Nat.le_of_ble_eq_true rfl) dL_law_686 (fun H hO hPc hPr => ?_)
  refine lv_icmp_eq (tgt := 1745) hx hb dL_law_689 (by decide) (fun _ => ?_) (fun c => absurd rfl c)
  exact kk H mc1 mr1 ⟨hO, hPc, hPr, hRR⟩
theorem lc_14 (X : LX D cA st p s m c b L xs) (hL : L ≤ 2560) (hi : i + 5 ≤ L) (hl : lv_has ls 4 (lvL s st b i)) (h : LSt D cA s st mc mr H) (kk : LEnd p l e s m below meth c b D cA st ls Q) : W p l e room_1 s m #[Value.ref b] below meth c H [] 188 6654 Q (F0 m 694 ls []) := by
  have hx := X.1
  have hb := X.2.1
  have hown := X.2.2.2.1
  have hts := X.2.2.2.2.1
  obtain ⟨hO, hPc, hPr, hRR⟩ := h
  obtain ⟨r, mc1, mr1, e1, e2, hRR⟩ := op_when ((xs (i + 1))) mc mr hRR
  refine lv_aload_n hx hb dL_law_694 rfl (lv_at hl 2 rfl) ?_
  refine l_arg (jn := 1) X hO hl hi hL (by decide) dL_law_695 dL_law_696 dL_law_697 (by decide) dL_law_698 dL_law_699 ?_
  refine l_C (As := [.int (xs (i + 1))]) (rest := []) X hO hPc hPr (tX11_when aC_inj e1) wt_4_18 wt_4_19 wt_4_20 wt_4_21 rfl hy_X11_when ⟨rfl, rfl⟩ ⟨(Nat.le_of_ble_eq_true rfl), (Nat.le_of_ble_eq_true rfl)⟩ rfl hl.1 rfl (Nat.le_of_ble_eq_true rfl) dL_law_700 (fun H hO hPc hPr => ?_)
  refine lv_aload_n hx hb dL_law_703 rfl (lv_at hl 1 rfl) ?_
  refine l_arg (jn := 1) X hO hl hi hL (by decide) dL_law_704 dL_law_705 dL_law_706 (by decide) dL_law_707 dL_law_708 ?_
  refine l_R (As := [.int (xs (i + 1))]) (rest := [.int r]) X hO hPc hPr (tX12_when aR_inj e2) wt_7_36 wt_7_37 wt_7_38 wt_7_39 rfl hy_X12_when ⟨rfl, rfl⟩ ⟨(Nat.le_of_ble_eq_true rfl), (Nat.le_of_ble_eq_true rfl)⟩ rfl hl.1 rfl (Nat.le_of_ble_eq_true rfl) dL_law_709 (fun H hO hPc hPr => ?_)
  refine lv_icmp_eq (tgt := 1745) hx hb dL_law_712 (by decide) (fun _ => ?_) (fun c => absurd rfl c)
  exact kk H mc1 mr1 ⟨hO, hPc, hPr, hRR⟩
theorem lc_15 (X : LX D cA st p s m c b L xs) (hL : L ≤ 2560) (hi : i + 5 ≤ L) (hl : lv_has ls 4 (lvL s st b i)) (h : LSt D cA s st mc mr H) (kk : LEnd p l e s m below meth c b D cA st ls Q) : W p l e room_1 s m #[Value.ref b] below meth c H [] 188 6654 Q (F0 m 717 ls []) := by
  have hx := X.1
  have hb := X.2.1
  have hown := X.2.2.2.1
  have hts := X.2.2.2.2.1
  obtain ⟨hO, hPc, hPr, hRR⟩ := h
  obtain ⟨r, mc1, mr1, e1, e2, hRR⟩ := op_weightFor ((xs (i + 1))) mc mr hRR
  refine lv_aload_n hx hb dL_law_717 rfl (lv_at hl 2 rfl) ?_
  refine l_arg (jn := 1) X hO hl hi hL (by decide) dL_law_718 dL_law_719 dL_law_720 (by decide) dL_law_721 dL_law_722 ?_
  refine l_C (As := [.int (xs (i + 1))]) (rest := []) X hO hPc hPr (tX11_weightFor aC_inj e1) wt_4_22 wt_4_23 wt_4_24 wt_4_25 rfl hy_X11_weightFor ⟨rfl, rfl⟩ ⟨(Nat.le_of_ble_eq_true rfl), (Nat.le_of_ble_eq_true rfl)⟩ rfl hl.1 rfl (Nat.le_of_ble_eq_true rfl) dL_law_723 (fun H hO hPc hPr => ?_)
  refine lv_aload_n hx hb dL_law_726 rfl (lv_at hl 1 rfl) ?_
  refine l_arg (jn := 1) X hO hl hi hL (by decide) dL_law_727 dL_law_728 dL_law_729 (by decide) dL_law_730 dL_law_731 ?_
  refine l_R (As := [.int (xs (i + 1))]) (rest := [.int r]) X hO hPc hPr (tX12_weightFor aR_inj e2) wt_7_40 wt_7_41 wt_7_42 wt_7_43 rfl hy_X12_weightFor ⟨rfl, rfl⟩ ⟨(Nat.le_of_ble_eq_true rfl), (Nat.le_of_ble_eq_true rfl)⟩ rfl hl.1 rfl (Nat.le_of_ble_eq_true rfl) dL_law_732 (fun H hO hPc hPr => ?_)
  refine lv_icmp_eq (tgt := 1745) hx hb dL_law_735 (by decide) (fun _ => ?_) (fun c => absurd rfl c)
  exact kk H mc1 mr1 ⟨hO, hPc, hPr, hRR⟩
theorem lc_16 (X : LX D cA st p s m c b L xs) (hL : L ≤ 2560) (hi : i + 5 ≤ L) (hl : lv_has ls 4 (lvL s st b i)) (h : LSt D cA s st mc mr H) (kk : LEnd p l e s m below meth c b D cA st ls Q) : W p l e room_1 s m #[Value.ref b] below meth c H [] 188 6654 Q (F0 m 740 ls []) := by
  have hx := X.1
  have hb := X.2.1
  have hown := X.2.2.2.1
  have hts := X.2.2.2.2.1
  obtain ⟨hO, hPc, hPr, hRR⟩ := h
  obtain ⟨r, mc1, mr1, e1, e2, hRR⟩ := op_machineFor ((xs (i + 1))) mc mr hRR
  refine lv_aload_n hx hb dL_law_740 rfl (lv_at hl 2 rfl) ?_
  refine l_arg (jn := 1) X hO hl hi hL (by decide) dL_law_741 dL_law_742 dL_law_743 (by decide) dL_law_744 dL_law_745 ?_
  refine l_C (As := [.int (xs (i + 1))]) (rest := []) X hO hPc hPr (tX11_machineFor aC_inj e1) wt_4_30 wt_4_31 wt_4_32 wt_4_33 rfl hy_X11_machineFor ⟨rfl, rfl⟩ ⟨(Nat.le_of_ble_eq_true rfl), (Nat.le_of_ble_eq_true rfl)⟩ rfl hl.1 rfl (Nat.le_of_ble_eq_true rfl) dL_law_746 (fun H hO hPc hPr => ?_)
  refine lv_aload_n hx hb dL_law_749 rfl (lv_at hl 1 rfl) ?_
  refine l_arg (jn := 1) X hO hl hi hL (by decide) dL_law_750 dL_law_751 dL_law_752 (by decide) dL_law_753 dL_law_754 ?_
  refine l_R (As := [.int (xs (i + 1))]) (rest := [.int r]) X hO hPc hPr (tX12_machineFor aR_inj e2) wt_7_48 wt_7_49 wt_7_50 wt_7_51 rfl hy_X12_machineFor ⟨rfl, rfl⟩ ⟨(Nat.le_of_ble_eq_true rfl), (Nat.le_of_ble_eq_true rfl)⟩ rfl hl.1 rfl (Nat.le_of_ble_eq_true rfl) dL_law_755 (fun H hO hPc hPr => ?_)
  refine lv_icmp_eq (tgt := 1745) hx hb dL_law_758 (by decide) (fun _ => ?_) (fun c => absurd rfl c)
  exact kk H mc1 mr1 ⟨hO, hPc, hPr, hRR⟩
theorem lc_17 (X : LX D cA st p s m c b L xs) (hL : L ≤ 2560) (hi : i + 5 ≤ L) (hl : lv_has ls 4 (lvL s st b i)) (h : LSt D cA s st mc mr H) (kk : LEnd p l e s m below meth c b D cA st ls Q) : W p l e room_1 s m #[Value.ref b] below meth c H [] 188 6654 Q (F0 m 763 ls []) := by
  have hx := X.1
  have hb := X.2.1
  have hown := X.2.2.2.1
  have hts := X.2.2.2.2.1
  obtain ⟨hO, hPc, hPr, hRR⟩ := h
  obtain ⟨r, mc1, mr1, e1, e2, hRR⟩ := op_gather ((xs (i + 1))) mc mr hRR
  refine lv_aload_n hx hb dL_law_763 rfl (lv_at hl 2 rfl) ?_
  refine l_arg (jn := 1) X hO hl hi hL (by decide) dL_law_764 dL_law_765 dL_law_766 (by decide) dL_law_767 dL_law_768 ?_
  refine l_C (As := [.int (xs (i + 1))]) (rest := []) X hO hPc hPr (tX11_gather aC_inj e1) wt_4_34 wt_4_35 wt_4_36 wt_4_37 rfl hy_X11_gather ⟨rfl, rfl⟩ ⟨(Nat.le_of_ble_eq_true rfl), (Nat.le_of_ble_eq_true rfl)⟩ rfl hl.1 rfl (Nat.le_of_ble_eq_true rfl) dL_law_769 (fun H hO hPc hPr => ?_)
  refine lv_aload_n hx hb dL_law_772 rfl (lv_at hl 1 rfl) ?_
  refine l_arg (jn := 1) X hO hl hi hL (by decide) dL_law_773 dL_law_774 dL_law_775 (by decide) dL_law_776 dL_law_777 ?_
  refine l_R (As := [.int (xs (i + 1))]) (rest := [.int r]) X hO hPc hPr (tX12_gather aR_inj e2) wt_7_52 wt_7_53 wt_7_54 wt_7_55 rfl hy_X12_gather ⟨rfl, rfl⟩ ⟨(Nat.le_of_ble_eq_true rfl), (Nat.le_of_ble_eq_true rfl)⟩ rfl hl.1 rfl (Nat.le_of_ble_eq_true rfl) dL_law_778 (fun H hO hPc hPr => ?_)
  refine lv_icmp_eq (tgt := 1745) hx hb dL_law_781 (by decide) (fun _ => ?_) (fun c => absurd rfl c)
  exact kk H mc1 mr1 ⟨hO, hPc, hPr, hRR⟩
theorem lc_18 (X : LX D cA st p s m c b L xs) (hL : L ≤ 2560) (hi : i + 5 ≤ L) (hl : lv_has ls 4 (lvL s st b i)) (h : LSt D cA s st mc mr H) (kk : LEnd p l e s m below meth c b D cA st ls Q) : W p l e room_1 s m #[Value.ref b] below meth c H [] 188 6654 Q (F0 m 786 ls []) := by
  have hx := X.1
  have hb := X.2.1
  have hown := X.2.2.2.1
  have hts := X.2.2.2.2.1
  obtain ⟨hO, hPc, hPr, hRR⟩ := h
  obtain ⟨r, mc1, mr1, e1, e2, hRR⟩ := op_gathered ((xs (i + 1))) ((xs (i + 2))) mc mr hRR
  refine lv_aload_n hx hb dL_law_786 rfl (lv_at hl 2 rfl) ?_
  refine l_arg (jn := 1) X hO hl hi hL (by decide) dL_law_787 dL_law_788 dL_law_789 (by decide) dL_law_790 dL_law_791 ?_
  refine l_arg (jn := 2) X hO hl hi hL (by decide) dL_law_792 dL_law_793 dL_law_794 (by decide) dL_law_795 dL_law_796 ?_
  refine l_C (As := [.int (xs (i + 1)), .int (xs (i + 2))]) (rest := []) X hO hPc hPr (tX11_gathered aC_inj e1) wt_4_64 wt_4_65 wt_4_66 wt_4_67 rfl hy_X11_gathered ⟨rfl, rfl⟩ ⟨(Nat.le_of_ble_eq_true rfl), (Nat.le_of_ble_eq_true rfl)⟩ rfl hl.1 rfl (Nat.le_of_ble_eq_true rfl) dL_law_797 (fun H hO hPc hPr => ?_)
  refine lv_aload_n hx hb dL_law_800 rfl (lv_at hl 1 rfl) ?_
  refine l_arg (jn := 1) X hO hl hi hL (by decide) dL_law_801 dL_law_802 dL_law_803 (by decide) dL_law_804 dL_law_805 ?_
  refine l_arg (jn := 2) X hO hl hi hL (by decide) dL_law_806 dL_law_807 dL_law_808 (by decide) dL_law_809 dL_law_810 ?_
  refine l_R (As := [.int (xs (i + 1)), .int (xs (i + 2))]) (rest := [.int r]) X hO hPc hPr (tX12_gathered aR_inj e2) wt_7_68 wt_7_69 wt_7_70 wt_7_71 rfl hy_X12_gathered ⟨rfl, rfl⟩ ⟨(Nat.le_of_ble_eq_true rfl), (Nat.le_of_ble_eq_true rfl)⟩ rfl hl.1 rfl (Nat.le_of_ble_eq_true rfl) dL_law_811 (fun H hO hPc hPr => ?_)
  refine lv_icmp_eq (tgt := 1745) hx hb dL_law_814 (by decide) (fun _ => ?_) (fun c => absurd rfl c)
  exact kk H mc1 mr1 ⟨hO, hPc, hPr, hRR⟩
theorem lc_19 (X : LX D cA st p s m c b L xs) (hL : L ≤ 2560) (hi : i + 5 ≤ L) (hl : lv_has ls 4 (lvL s st b i)) (h : LSt D cA s st mc mr H) (kk : LEnd p l e s m below meth c b D cA st ls Q) : W p l e room_1 s m #[Value.ref b] below meth c H [] 188 6654 Q (F0 m 819 ls []) := by
  have hx := X.1
  have hb := X.2.1
  have hown := X.2.2.2.1
  have hts := X.2.2.2.2.1
  obtain ⟨hO, hPc, hPr, hRR⟩ := h
  obtain ⟨r, mc1, mr1, e1, e2, hRR⟩ := op_free ((xs (i + 1))) ((xs (i + 2))) mc mr hRR
  refine lv_aload_n hx hb dL_law_819 rfl (lv_at hl 2 rfl) ?_
  refine l_arg (jn := 1) X hO hl hi hL (by decide) dL_law_820 dL_law_821 dL_law_822 (by decide) dL_law_823 dL_law_824 ?_
  refine l_arg (jn := 2) X hO hl hi hL (by decide) dL_law_825 dL_law_826 dL_law_827 (by decide) dL_law_828 dL_law_829 ?_
  refine l_C (As := [.int (xs (i + 1)), .int (xs (i + 2))]) (rest := []) X hO hPc hPr (tX11_free aC_inj e1) wt_4_79 wt_4_80 wt_4_81 wt_4_82 rfl hy_X11_free ⟨rfl, rfl⟩ ⟨(Nat.le_of_ble_eq_true rfl), (Nat.le_of_ble_eq_true rfl)⟩ rfl hl.1 rfl (Nat.le_of_ble_eq_true rfl) dL_law_830 (fun H hO hPc hPr => ?_)
  refine lv_aload_n hx hb dL_law_833 rfl (lv_at hl 1 rfl) ?_
  refine l_arg (jn := 1) X hO hl hi hL (by decide) dL_law_834 dL_law_835 dL_law_836 (by decide) dL_law_837 dL_law_838 ?_
  refine l_arg (jn := 2) X hO hl hi hL (by decide) dL_law_839 dL_law_840 dL_law_841 (by decide) dL_law_842 dL_law_843 ?_
  refine l_R (As := [.int (xs (i + 1)), .int (xs (i + 2))]) (rest := [.int r]) X hO hPc hPr (tX12_free aR_inj e2) wt_7_72 wt_7_73 wt_7_74 wt_7_75 rfl hy_X12_free ⟨rfl, rfl⟩ ⟨(Nat.le_of_ble_eq_true rfl), (Nat.le_of_ble_eq_true rfl)⟩ rfl hl.1 rfl (Nat.le_of_ble_eq_true rfl) dL_law_844 (fun H hO hPc hPr => ?_)
  refine lv_icmp_eq (tgt := 1745) hx hb dL_law_847 (by decide) (fun _ => ?_) (fun c => absurd rfl c)
  exact kk H mc1 mr1 ⟨hO, hPc, hPr, hRR⟩
theorem lc_20 (X : LX D cA st p s m c b L xs) (hL : L ≤ 2560) (hi : i + 5 ≤ L) (hl : lv_has ls 4 (lvL s st b i)) (h : LSt D cA s st mc mr H) (kk : LEnd p l e s m below meth c b D cA st ls Q) : W p l e room_1 s m #[Value.ref b] below meth c H [] 188 6654 Q (F0 m 852 ls []) := by
  have hx := X.1
  have hb := X.2.1
  have hown := X.2.2.2.1
  have hts := X.2.2.2.2.1
  obtain ⟨hO, hPc, hPr, hRR⟩ := h
  obtain ⟨r, mc1, mr1, e1, e2, hRR⟩ := op_busiest ((xs (i + 1))) mc mr hRR
  refine lv_aload_n hx hb dL_law_852 rfl (lv_at hl 2 rfl) ?_
  refine l_arg (jn := 1) X hO hl hi hL (by decide) dL_law_853 dL_law_854 dL_law_855 (by decide) dL_law_856 dL_law_857 ?_
  refine l_C (As := [.int (xs (i + 1))]) (rest := []) X hO hPc hPr (tX11_busiest aC_inj e1) wt_4_83 wt_4_84 wt_4_85 wt_4_86 rfl hy_X11_busiest ⟨rfl, rfl⟩ ⟨(Nat.le_of_ble_eq_true rfl), (Nat.le_of_ble_eq_true rfl)⟩ rfl hl.1 rfl (Nat.le_of_ble_eq_true rfl) dL_law_858 (fun H hO hPc hPr => ?_)
  refine lv_aload_n hx hb dL_law_861 rfl (lv_at hl 1 rfl) ?_
  refine l_arg (jn := 1) X hO hl hi hL (by decide) dL_law_862 dL_law_863 dL_law_864 (by decide) dL_law_865 dL_law_866 ?_
  refine l_R (As := [.int (xs (i + 1))]) (rest := [.int r]) X hO hPc hPr (tX12_busiest aR_inj e2) wt_7_76 wt_7_77 wt_7_78 wt_7_79 rfl hy_X12_busiest ⟨rfl, rfl⟩ ⟨(Nat.le_of_ble_eq_true rfl), (Nat.le_of_ble_eq_true rfl)⟩ rfl hl.1 rfl (Nat.le_of_ble_eq_true rfl) dL_law_867 (fun H hO hPc hPr => ?_)
  refine lv_icmp_eq (tgt := 1745) hx hb dL_law_870 (by decide) (fun _ => ?_) (fun c => absurd rfl c)
  exact kk H mc1 mr1 ⟨hO, hPc, hPr, hRR⟩
theorem lc_21 (X : LX D cA st p s m c b L xs) (hL : L ≤ 2560) (hi : i + 5 ≤ L) (hl : lv_has ls 4 (lvL s st b i)) (h : LSt D cA s st mc mr H) (kk : LEnd p l e s m below meth c b D cA st ls Q) : W p l e room_1 s m #[Value.ref b] below meth c H [] 188 6654 Q (F0 m 875 ls []) := by
  have hx := X.1
  have hb := X.2.1
  have hown := X.2.2.2.1
  have hts := X.2.2.2.2.1
  obtain ⟨hO, hPc, hPr, hRR⟩ := h
  obtain ⟨r, mc1, mr1, e1, e2, hRR⟩ := op_best2 ((xs (i + 1))) mc mr hRR
  refine lv_aload_n hx hb dL_law_875 rfl (lv_at hl 2 rfl) ?_
  refine l_arg (jn := 1) X hO hl hi hL (by decide) dL_law_876 dL_law_877 dL_law_878 (by decide) dL_law_879 dL_law_880 ?_
  refine l_C (As := [.int (xs (i + 1))]) (rest := []) X hO hPc hPr (tX11_best aC_inj e1) wt_4_91 wt_4_92 wt_4_93 wt_4_94 rfl hy_X11_best ⟨rfl, rfl⟩ ⟨(Nat.le_of_ble_eq_true rfl), (Nat.le_of_ble_eq_true rfl)⟩ rfl hl.1 rfl (Nat.le_of_ble_eq_true rfl) dL_law_881 (fun H hO hPc hPr => ?_)
  refine lv_aload_n hx hb dL_law_884 rfl (lv_at hl 1 rfl) ?_
  refine l_arg (jn := 1) X hO hl hi hL (by decide) dL_law_885 dL_law_886 dL_law_887 (by decide) dL_law_888 dL_law_889 ?_
  refine l_R (As := [.int (xs (i + 1))]) (rest := [.int r]) X hO hPc hPr (tX12_best aR_inj e2) wt_7_84 wt_7_85 wt_7_86 wt_7_87 rfl hy_X12_best ⟨rfl, rfl⟩ ⟨(Nat.le_of_ble_eq_true rfl), (Nat.le_of_ble_eq_true rfl)⟩ rfl hl.1 rfl (Nat.le_of_ble_eq_true rfl) dL_law_890 (fun H hO hPc hPr => ?_)
  refine lv_icmp_eq (tgt := 1745) hx hb dL_law_893 (by decide) (fun _ => ?_) (fun c => absurd rfl c)
  exact kk H mc1 mr1 ⟨hO, hPc, hPr, hRR⟩
theorem lc_22 (X : LX D cA st p s m c b L xs) (hL : L ≤ 2560) (hi : i + 5 ≤ L) (hl : lv_has ls 4 (lvL s st b i)) (h : LSt D cA s st mc mr H) (kk : LEnd p l e s m below meth c b D cA st ls Q) : W p l e room_1 s m #[Value.ref b] below meth c H [] 188 6654 Q (F0 m 898 ls []) := by
  have hx := X.1
  have hb := X.2.1
  have hown := X.2.2.2.1
  have hts := X.2.2.2.2.1
  obtain ⟨hO, hPc, hPr, hRR⟩ := h
  obtain ⟨r, mc1, mr1, e1, e2, hRR⟩ := op_ith ((xs (i + 1))) ((xs (i + 2))) mc mr hRR
  refine lv_aload_n hx hb dL_law_898 rfl (lv_at hl 2 rfl) ?_
  refine l_arg (jn := 1) X hO hl hi hL (by decide) dL_law_899 dL_law_900 dL_law_901 (by decide) dL_law_902 dL_law_903 ?_
  refine l_arg (jn := 2) X hO hl hi hL (by decide) dL_law_904 dL_law_905 dL_law_906 (by decide) dL_law_907 dL_law_908 ?_
  refine l_C (As := [.int (xs (i + 1)), .int (xs (i + 2))]) (rest := []) X hO hPc hPr (tX11_ith aC_inj e1) wt_4_115 wt_4_116 wt_4_117 wt_4_118 rfl hy_X11_ith ⟨rfl, rfl⟩ ⟨(Nat.le_of_ble_eq_true rfl), (Nat.le_of_ble_eq_true rfl)⟩ rfl hl.1 rfl (Nat.le_of_ble_eq_true rfl) dL_law_909 (fun H hO hPc hPr => ?_)
  refine lv_aload_n hx hb dL_law_912 rfl (lv_at hl 1 rfl) ?_
  refine l_arg (jn := 1) X hO hl hi hL (by decide) dL_law_913 dL_law_914 dL_law_915 (by decide) dL_law_916 dL_law_917 ?_
  refine l_arg (jn := 2) X hO hl hi hL (by decide) dL_law_918 dL_law_919 dL_law_920 (by decide) dL_law_921 dL_law_922 ?_
  refine l_R (As := [.int (xs (i + 1)), .int (xs (i + 2))]) (rest := [.int r]) X hO hPc hPr (tX12_ith aR_inj e2) wt_7_99 wt_7_100 wt_7_101 wt_7_102 rfl hy_X12_ith ⟨rfl, rfl⟩ ⟨(Nat.le_of_ble_eq_true rfl), (Nat.le_of_ble_eq_true rfl)⟩ rfl hl.1 rfl (Nat.le_of_ble_eq_true rfl) dL_law_923 (fun H hO hPc hPr => ?_)
  refine lv_icmp_eq (tgt := 1745) hx hb dL_law_926 (by decide) (fun _ => ?_) (fun c => absurd rfl c)
  exact kk H mc1 mr1 ⟨hO, hPc, hPr, hRR⟩
theorem lc_23 (X : LX D cA st p s m c b L xs) (hL : L ≤ 2560) (hi : i + 5 ≤ L) (hl : lv_has ls 4 (lvL s st b i)) (h : LSt D cA s st mc mr H) (kk : LEnd p l e s m below meth c b D cA st ls Q) : W p l e room_1 s m #[Value.ref b] below meth c H [] 188 6654 Q (F0 m 931 ls []) := by
  have hx := X.1
  have hb := X.2.1
  have hown := X.2.2.2.1
  have hts := X.2.2.2.2.1
  obtain ⟨hO, hPc, hPr, hRR⟩ := h
  obtain ⟨r, mc1, mr1, e1, e2, hRR⟩ := op_ways ((xs (i + 1))) mc mr hRR
  refine lv_aload_n hx hb dL_law_931 rfl (lv_at hl 2 rfl) ?_
  refine l_arg (jn := 1) X hO hl hi hL (by decide) dL_law_932 dL_law_933 dL_law_934 (by decide) dL_law_935 dL_law_936 ?_
  refine l_C (As := [.int (xs (i + 1))]) (rest := []) X hO hPc hPr (tX11_ways aC_inj e1) wt_4_119 wt_4_120 wt_4_121 wt_4_122 rfl hy_X11_ways ⟨rfl, rfl⟩ ⟨(Nat.le_of_ble_eq_true rfl), (Nat.le_of_ble_eq_true rfl)⟩ rfl hl.1 rfl (Nat.le_of_ble_eq_true rfl) dL_law_937 (fun H hO hPc hPr => ?_)
  refine lv_aload_n hx hb dL_law_940 rfl (lv_at hl 1 rfl) ?_
  refine l_arg (jn := 1) X hO hl hi hL (by decide) dL_law_941 dL_law_942 dL_law_943 (by decide) dL_law_944 dL_law_945 ?_
  refine l_R (As := [.int (xs (i + 1))]) (rest := [.int r]) X hO hPc hPr (tX12_ways aR_inj e2) wt_7_104 wt_7_105 wt_7_106 wt_7_107 rfl hy_X12_ways ⟨rfl, rfl⟩ ⟨(Nat.le_of_ble_eq_true rfl), (Nat.le_of_ble_eq_true rfl)⟩ rfl hl.1 rfl (Nat.le_of_ble_eq_true rfl) dL_law_946 (fun H hO hPc hPr => ?_)
  refine lv_icmp_eq (tgt := 1745) hx hb dL_law_949 (by decide) (fun _ => ?_) (fun c => absurd rfl c)
  exact kk H mc1 mr1 ⟨hO, hPc, hPr, hRR⟩
theorem lc_24 (X : LX D cA st p s m c b L xs) (hL : L ≤ 2560) (hi : i + 5 ≤ L) (hl : lv_has ls 4 (lvL s st b i)) (h : LSt D cA s st mc mr H) (kk : LEnd p l e s m below meth c b D cA st ls Q) : W p l e room_1 s m #[Value.ref b] below meth c H [] 188 6654 Q (F0 m 954 ls []) := by
  have hx := X.1
  have hb := X.2.1
  have hown := X.2.2.2.1
  have hts := X.2.2.2.2.1
  obtain ⟨hO, hPc, hPr, hRR⟩ := h
  obtain ⟨r, mc1, mr1, e1, e2, hRR⟩ := op_train ((xs (i + 1))) ((xs (i + 2))) mc mr hRR
  refine lv_aload_n hx hb dL_law_954 rfl (lv_at hl 2 rfl) ?_
  refine l_arg (jn := 1) X hO hl hi hL (by decide) dL_law_955 dL_law_956 dL_law_957 (by decide) dL_law_958 dL_law_959 ?_
  refine l_arg (jn := 2) X hO hl hi hL (by decide) dL_law_960 dL_law_961 dL_law_962 (by decide) dL_law_963 dL_law_964 ?_
  refine l_C (As := [.int (xs (i + 1)), .int (xs (i + 2))]) (rest := []) X hO hPc hPr (tX11_train aC_inj e1) wt_4_123 wt_4_124 wt_4_125 wt_4_126 rfl hy_X11_train ⟨rfl, rfl⟩ ⟨(Nat.le_of_ble_eq_true rfl), (Nat.le_of_ble_eq_true rfl)⟩ rfl hl.1 rfl (Nat.le_of_ble_eq_true rfl) dL_law_965 (fun H hO hPc hPr => ?_)
  refine lv_aload_n hx hb dL_law_968 rfl (lv_at hl 1 rfl) ?_
  refine l_arg (jn := 1) X hO hl hi hL (by decide) dL_law_969 dL_law_970 dL_law_971 (by decide) dL_law_972 dL_law_973 ?_
  refine l_arg (jn := 2) X hO hl hi hL (by decide) dL_law_974 dL_law_975 dL_law_976 (by decide) dL_law_977 dL_law_978 ?_
  refine l_R (As := [.int (xs (i + 1)), .int (xs (i + 2))]) (rest := [.int r]) X hO hPc hPr (tX12_train aR_inj e2) wt_7_108 wt_7_109 wt_7_110 wt_7_111 rfl hy_X12_train ⟨rfl, rfl⟩ ⟨(Nat.le_of_ble_eq_true rfl), (Nat.le_of_ble_eq_true rfl)⟩ rfl hl.1 rfl (Nat.le_of_ble_eq_true rfl) dL_law_979 (fun H hO hPc hPr => ?_)
  refine lv_icmp_eq (tgt := 1745) hx hb dL_law_982 (by decide) (fun _ => ?_) (fun c => absurd rfl c)
  exact kk H mc1 mr1 ⟨hO, hPc, hPr, hRR⟩
theorem lc_25 (X : LX D cA st p s m c b L xs) (hL : L ≤ 2560) (hi : i + 5 ≤ L) (hl : lv_has ls 4 (lvL s st b i)) (h : LSt D cA s st mc mr H) (kk : LEnd p l e s m below meth c b D cA st ls Q) : W p l e room_1 s m #[Value.ref b] below meth c H [] 188 6654 Q (F0 m 987 ls []) := by
  have hx := X.1
  have hb := X.2.1
  have hown := X.2.2.2.1
  have hts := X.2.2.2.2.1
  obtain ⟨hO, hPc, hPr, hRR⟩ := h
  obtain ⟨r, mc1, mr1, e1, e2, hRR⟩ := op_bars ((xs (i + 1))) ((xs (i + 2))) mc mr hRR
  refine lv_aload_n hx hb dL_law_987 rfl (lv_at hl 2 rfl) ?_
  refine l_arg (jn := 1) X hO hl hi hL (by decide) dL_law_988 dL_law_989 dL_law_990 (by decide) dL_law_991 dL_law_992 ?_
  refine l_arg (jn := 2) X hO hl hi hL (by decide) dL_law_993 dL_law_994 dL_law_995 (by decide) dL_law_996 dL_law_997 ?_
  refine l_C (As := [.int (xs (i + 1)), .int (xs (i + 2))]) (rest := []) X hO hPc hPr (tX11_bars aC_inj e1) wt_4_127 wt_4_128 wt_4_129 wt_4_130 rfl hy_X11_bars ⟨rfl, rfl⟩ ⟨(Nat.le_of_ble_eq_true rfl), (Nat.le_of_ble_eq_true rfl)⟩ rfl hl.1 rfl (Nat.le_of_ble_eq_true rfl) dL_law_998 (fun H hO hPc hPr => ?_)
  refine lv_aload_n hx hb dL_law_1001 rfl (lv_at hl 1 rfl) ?_
  refine l_arg (jn := 1) X hO hl hi hL (by decide) dL_law_1002 dL_law_1003 dL_law_1004 (by decide) dL_law_1005 dL_law_1006 ?_
  refine l_arg (jn := 2) X hO hl hi hL (by decide) dL_law_1007 dL_law_1008 dL_law_1009 (by decide) dL_law_1010 dL_law_1011 ?_
  refine l_R (As := [.int (xs (i + 1)), .int (xs (i + 2))]) (rest := [.int r]) X hO hPc hPr (tX12_bars aR_inj e2) wt_7_112 wt_7_113 wt_7_114 wt_7_115 rfl hy_X12_bars ⟨rfl, rfl⟩ ⟨(Nat.le_of_ble_eq_true rfl), (Nat.le_of_ble_eq_true rfl)⟩ rfl hl.1 rfl (Nat.le_of_ble_eq_true rfl) dL_law_1012 (fun H hO hPc hPr => ?_)
  refine lv_icmp_eq (tgt := 1745) hx hb dL_law_1015 (by decide) (fun _ => ?_) (fun c => absurd rfl c)
  exact kk H mc1 mr1 ⟨hO, hPc, hPr, hRR⟩
theorem lc_26 (X : LX D cA st p s m c b L xs) (hL : L ≤ 2560) (hi : i + 5 ≤ L) (hl : lv_has ls 4 (lvL s st b i)) (h : LSt D cA s st mc mr H) (kk : LEnd p l e s m below meth c b D cA st ls Q) : W p l e room_1 s m #[Value.ref b] below meth c H [] 188 6654 Q (F0 m 1020 ls []) := by
  have hx := X.1
  have hb := X.2.1
  have hown := X.2.2.2.1
  have hts := X.2.2.2.2.1
  obtain ⟨hO, hPc, hPr, hRR⟩ := h
  obtain ⟨r, mc1, mr1, e1, e2, hRR⟩ := op_game ((xs (i + 1))) mc mr hRR
  refine lv_aload_n hx hb dL_law_1020 rfl (lv_at hl 2 rfl) ?_
  refine l_arg (jn := 1) X hO hl hi hL (by decide) dL_law_1021 dL_law_1022 dL_law_1023 (by decide) dL_law_1024 dL_law_1025 ?_
  refine l_C (As := [.int (xs (i + 1))]) (rest := []) X hO hPc hPr (tX11_game aC_inj e1) wt_4_132 wt_4_133 wt_4_134 wt_4_135 rfl hy_X11_game ⟨rfl, rfl⟩ ⟨(Nat.le_of_ble_eq_true rfl), (Nat.le_of_ble_eq_true rfl)⟩ rfl hl.1 rfl (Nat.le_of_ble_eq_true rfl) dL_law_1026 (fun H hO hPc hPr => ?_)
  refine lv_aload_n hx hb dL_law_1029 rfl (lv_at hl 1 rfl) ?_
  refine l_arg (jn := 1) X hO hl hi hL (by decide) dL_law_1030 dL_law_1031 dL_law_1032 (by decide) dL_law_1033 dL_law_1034 ?_
  refine l_R (As := [.int (xs (i + 1))]) (rest := [.int r]) X hO hPc hPr (tX12_game aR_inj e2) wt_7_116 wt_7_117 wt_7_118 wt_7_119 rfl hy_X12_game ⟨rfl, rfl⟩ ⟨(Nat.le_of_ble_eq_true rfl), (Nat.le_of_ble_eq_true rfl)⟩ rfl hl.1 rfl (Nat.le_of_ble_eq_true rfl) dL_law_1035 (fun H hO hPc hPr => ?_)
  refine lv_icmp_eq (tgt := 1745) hx hb dL_law_1038 (by decide) (fun _ => ?_) (fun c => absurd rfl c)
  exact kk H mc1 mr1 ⟨hO, hPc, hPr, hRR⟩
theorem lc_27 (X : LX D cA st p s m c b L xs) (hL : L ≤ 2560) (hi : i + 5 ≤ L) (hl : lv_has ls 4 (lvL s st b i)) (h : LSt D cA s st mc mr H) (kk : LEnd p l e s m below meth c b D cA st ls Q) : W p l e room_1 s m #[Value.ref b] below meth c H [] 188 6654 Q (F0 m 1043 ls []) := by
  have hx := X.1
  have hb := X.2.1
  have hown := X.2.2.2.1
  have hts := X.2.2.2.2.1
  obtain ⟨hO, hPc, hPr, hRR⟩ := h
  obtain ⟨r, mc1, mr1, e1, e2, hRR⟩ := op_play ((xs (i + 1))) mc mr hRR
  refine lv_aload_n hx hb dL_law_1043 rfl (lv_at hl 2 rfl) ?_
  refine l_arg (jn := 1) X hO hl hi hL (by decide) dL_law_1044 dL_law_1045 dL_law_1046 (by decide) dL_law_1047 dL_law_1048 ?_
  refine l_C (As := [.int (xs (i + 1))]) (rest := []) X hO hPc hPr (tX11_play aC_inj e1) wt_4_144 wt_4_145 wt_4_146 wt_4_147 rfl hy_X11_play ⟨rfl, rfl⟩ ⟨(Nat.le_of_ble_eq_true rfl), (Nat.le_of_ble_eq_true rfl)⟩ rfl hl.1 rfl (Nat.le_of_ble_eq_true rfl) dL_law_1049 (fun H hO hPc hPr => ?_)
  refine lv_aload_n hx hb dL_law_1052 rfl (lv_at hl 1 rfl) ?_
  refine l_arg (jn := 1) X hO hl hi hL (by decide) dL_law_1053 dL_law_1054 dL_law_1055 (by decide) dL_law_1056 dL_law_1057 ?_
  refine l_R (As := [.int (xs (i + 1))]) (rest := [.int r]) X hO hPc hPr (tX12_play aR_inj e2) wt_7_124 wt_7_125 wt_7_126 wt_7_127 rfl hy_X12_play ⟨rfl, rfl⟩ ⟨(Nat.le_of_ble_eq_true rfl), (Nat.le_of_ble_eq_true rfl)⟩ rfl hl.1 rfl (Nat.le_of_ble_eq_true rfl) dL_law_1058 (fun H hO hPc hPr => ?_)
  refine lv_icmp_eq (tgt := 1745) hx hb dL_law_1061 (by decide) (fun _ => ?_) (fun c => absurd rfl c)
  exact kk H mc1 mr1 ⟨hO, hPc, hPr, hRR⟩
theorem lc_28 (X : LX D cA st p s m c b L xs) (hL : L ≤ 2560) (hi : i + 5 ≤ L) (hl : lv_has ls 4 (lvL s st b i)) (h : LSt D cA s st mc mr H) (kk : LEnd p l e s m below meth c b D cA st ls Q) : W p l e room_1 s m #[Value.ref b] below meth c H [] 188 6654 Q (F0 m 1066 ls []) := by
  have hx := X.1
  have hb := X.2.1
  have hown := X.2.2.2.1
  have hts := X.2.2.2.2.1
  obtain ⟨hO, hPc, hPr, hRR⟩ := h
  obtain ⟨r, mc1, mr1, e1, e2, hRR⟩ := op_report ((xs (i + 1))) ((xs (i + 2))) ((xs (i + 3))) mc mr hRR
  refine lv_aload_n hx hb dL_law_1066 rfl (lv_at hl 2 rfl) ?_
  refine l_arg (jn := 1) X hO hl hi hL (by decide) dL_law_1067 dL_law_1068 dL_law_1069 (by decide) dL_law_1070 dL_law_1071 ?_
  refine l_arg (jn := 2) X hO hl hi hL (by decide) dL_law_1072 dL_law_1073 dL_law_1074 (by decide) dL_law_1075 dL_law_1076 ?_
  refine l_arg (jn := 3) X hO hl hi hL (by decide) dL_law_1077 dL_law_1078 dL_law_1079 (by decide) dL_law_1080 dL_law_1081 ?_
  refine l_C (As := [.int (xs (i + 1)), .int (xs (i + 2)), .int (xs (i + 3))]) (rest := []) X hO hPc hPr (tX11_report aC_inj e1) wt_4_148 wt_4_149 wt_4_150 wt_4_151 rfl hy_X11_report ⟨rfl, rfl⟩ ⟨(Nat.le_of_ble_eq_true rfl), (Nat.le_of_ble_eq_true rfl)⟩ rfl hl.1 rfl (Nat.le_of_ble_eq_true rfl) dL_law_1082 (fun H hO hPc hPr => ?_)
  refine lv_aload_n hx hb dL_law_1085 rfl (lv_at hl 1 rfl) ?_
  refine l_arg (jn := 1) X hO hl hi hL (by decide) dL_law_1086 dL_law_1087 dL_law_1088 (by decide) dL_law_1089 dL_law_1090 ?_
  refine l_arg (jn := 2) X hO hl hi hL (by decide) dL_law_1091 dL_law_1092 dL_law_1093 (by decide) dL_law_1094 dL_law_1095 ?_
  refine l_arg (jn := 3) X hO hl hi hL (by decide) dL_law_1096 dL_law_1097 dL_law_1098 (by decide) dL_law_1099 dL_law_1100 ?_
  refine l_R (As := [.int (xs (i + 1)), .int (xs (i + 2)), .int (xs (i + 3))]) (rest := [.int r]) X hO hPc hPr (tX12_report aR_inj e2) wt_7_128 wt_7_129 wt_7_130 wt_7_131 rfl hy_X12_report ⟨rfl, rfl⟩ ⟨(Nat.le_of_ble_eq_true rfl), (Nat.le_of_ble_eq_true rfl)⟩ rfl hl.1 rfl (Nat.le_of_ble_eq_true rfl) dL_law_1101 (fun H hO hPc hPr => ?_)
  refine lv_icmp_eq (tgt := 1745) hx hb dL_law_1104 (by decide) (fun _ => ?_) (fun c => absurd rfl c)
  exact kk H mc1 mr1 ⟨hO, hPc, hPr, hRR⟩
theorem lc_29 (X : LX D cA st p s m c b L xs) (hL : L ≤ 2560) (hi : i + 5 ≤ L) (hl : lv_has ls 4 (lvL s st b i)) (h : LSt D cA s st mc mr H) (kk : LEnd p l e s m below meth c b D cA st ls Q) : W p l e room_1 s m #[Value.ref b] below meth c H [] 188 6654 Q (F0 m 1109 ls []) := by
  have hx := X.1
  have hb := X.2.1
  have hown := X.2.2.2.1
  have hts := X.2.2.2.2.1
  obtain ⟨hO, hPc, hPr, hRR⟩ := h
  obtain ⟨r, mc1, mr1, e1, e2, hRR⟩ := op_forget  mc mr hRR
  refine lv_aload_n hx hb dL_law_1109 rfl (lv_at hl 2 rfl) ?_
  refine l_C (As := []) (rest := []) X hO hPc hPr (tX11_forget aC_inj e1) wt_4_156 wt_4_157 wt_4_158 wt_4_159 rfl hy_X11_forget ⟨rfl, rfl⟩ ⟨(Nat.le_of_ble_eq_true rfl), (Nat.le_of_ble_eq_true rfl)⟩ rfl hl.1 rfl (Nat.le_of_ble_eq_true rfl) dL_law_1110 (fun H hO hPc hPr => ?_)
  refine lv_aload_n hx hb dL_law_1113 rfl (lv_at hl 1 rfl) ?_
  refine l_R (As := []) (rest := [.int r]) X hO hPc hPr (tX12_forget aR_inj e2) wt_7_133 wt_7_134 wt_7_135 wt_7_136 rfl hy_X12_forget ⟨rfl, rfl⟩ ⟨(Nat.le_of_ble_eq_true rfl), (Nat.le_of_ble_eq_true rfl)⟩ rfl hl.1 rfl (Nat.le_of_ble_eq_true rfl) dL_law_1114 (fun H hO hPc hPr => ?_)
  refine lv_icmp_eq (tgt := 1745) hx hb dL_law_1117 (by decide) (fun _ => ?_) (fun c => absurd rfl c)
  exact kk H mc1 mr1 ⟨hO, hPc, hPr, hRR⟩
theorem lc_30 (X : LX D cA st p s m c b L xs) (hL : L ≤ 2560) (hi : i + 5 ≤ L) (hl : lv_has ls 4 (lvL s st b i)) (h : LSt D cA s st mc mr H) (kk : LEnd p l e s m below meth c b D cA st ls Q) : W p l e room_1 s m #[Value.ref b] below meth c H [] 188 6654 Q (F0 m 1122 ls []) := by
  have hx := X.1
  have hb := X.2.1
  have hown := X.2.2.2.1
  have hts := X.2.2.2.2.1
  obtain ⟨hO, hPc, hPr, hRR⟩ := h
  obtain ⟨r, mc1, mr1, e1, e2, hRR⟩ := op_span ((xs (i + 1))) mc mr hRR
  refine lv_aload_n hx hb dL_law_1122 rfl (lv_at hl 2 rfl) ?_
  refine l_arg (jn := 1) X hO hl hi hL (by decide) dL_law_1123 dL_law_1124 dL_law_1125 (by decide) dL_law_1126 dL_law_1127 ?_
  refine l_C (As := [.int (xs (i + 1))]) (rest := []) X hO hPc hPr (tX11_span aC_inj e1) wt_4_160 wt_4_161 wt_4_162 wt_4_163 rfl hy_X11_span ⟨rfl, rfl⟩ ⟨(Nat.le_of_ble_eq_true rfl), (Nat.le_of_ble_eq_true rfl)⟩ rfl hl.1 rfl (Nat.le_of_ble_eq_true rfl) dL_law_1128 (fun H hO hPc hPr => ?_)
  refine lv_aload_n hx hb dL_law_1131 rfl (lv_at hl 1 rfl) ?_
  refine l_arg (jn := 1) X hO hl hi hL (by decide) dL_law_1132 dL_law_1133 dL_law_1134 (by decide) dL_law_1135 dL_law_1136 ?_
  refine l_R (As := [.int (xs (i + 1))]) (rest := [.int r]) X hO hPc hPr (tX12_span aR_inj e2) wt_7_137 wt_7_138 wt_7_139 wt_7_140 rfl hy_X12_span ⟨rfl, rfl⟩ ⟨(Nat.le_of_ble_eq_true rfl), (Nat.le_of_ble_eq_true rfl)⟩ rfl hl.1 rfl (Nat.le_of_ble_eq_true rfl) dL_law_1137 (fun H hO hPc hPr => ?_)
  refine lv_icmp_eq (tgt := 1745) hx hb dL_law_1140 (by decide) (fun _ => ?_) (fun c => absurd rfl c)
  exact kk H mc1 mr1 ⟨hO, hPc, hPr, hRR⟩
theorem lc_31 (X : LX D cA st p s m c b L xs) (hL : L ≤ 2560) (hi : i + 5 ≤ L) (hl : lv_has ls 4 (lvL s st b i)) (h : LSt D cA s st mc mr H) (kk : LEnd p l e s m below meth c b D cA st ls Q) : W p l e room_1 s m #[Value.ref b] below meth c H [] 188 6654 Q (F0 m 1145 ls []) := by
  have hx := X.1
  have hb := X.2.1
  have hown := X.2.2.2.1
  have hts := X.2.2.2.2.1
  obtain ⟨hO, hPc, hPr, hRR⟩ := h
  obtain ⟨r, mc1, mr1, e1, e2, hRR⟩ := op_liar  mc mr hRR
  refine lv_aload_n hx hb dL_law_1145 rfl (lv_at hl 2 rfl) ?_
  refine l_C (As := []) (rest := []) X hO hPc hPr (tX11_liar aC_inj e1) wt_4_176 wt_4_177 wt_4_178 wt_4_179 rfl hy_X11_liar ⟨rfl, rfl⟩ ⟨(Nat.le_of_ble_eq_true rfl), (Nat.le_of_ble_eq_true rfl)⟩ rfl hl.1 rfl (Nat.le_of_ble_eq_true rfl) dL_law_1146 (fun H hO hPc hPr => ?_)
  refine lv_aload_n hx hb dL_law_1149 rfl (lv_at hl 1 rfl) ?_
  refine l_R (As := []) (rest := [.int r]) X hO hPc hPr (tX12_liar aR_inj e2) wt_7_149 wt_7_150 wt_7_151 wt_7_152 rfl hy_X12_liar ⟨rfl, rfl⟩ ⟨(Nat.le_of_ble_eq_true rfl), (Nat.le_of_ble_eq_true rfl)⟩ rfl hl.1 rfl (Nat.le_of_ble_eq_true rfl) dL_law_1150 (fun H hO hPc hPr => ?_)
  refine lv_icmp_eq (tgt := 1745) hx hb dL_law_1153 (by decide) (fun _ => ?_) (fun c => absurd rfl c)
  exact kk H mc1 mr1 ⟨hO, hPc, hPr, hRR⟩
theorem lc_32 (X : LX D cA st p s m c b L xs) (hL : L ≤ 2560) (hi : i + 5 ≤ L) (hl : lv_has ls 4 (lvL s st b i)) (h : LSt D cA s st mc mr H) (kk : LEnd p l e s m below meth c b D cA st ls Q) : W p l e room_1 s m #[Value.ref b] below meth c H [] 188 6654 Q (F0 m 1158 ls []) := by
  have hx := X.1
  have hb := X.2.1
  have hown := X.2.2.2.1
  have hts := X.2.2.2.2.1
  obtain ⟨hO, hPc, hPr, hRR⟩ := h
  obtain ⟨r, mc1, mr1, e1, e2, hRR⟩ := op_seed ((xs (i + 1))) mc mr hRR
  refine lv_aload_n hx hb dL_law_1158 rfl (lv_at hl 2 rfl) ?_
  refine l_arg (jn := 1) X hO hl hi hL (by decide) dL_law_1159 dL_law_1160 dL_law_1161 (by decide) dL_law_1162 dL_law_1163 ?_
  refine l_C (As := [.int (xs (i + 1))]) (rest := []) X hO hPc hPr (tX11_seed aC_inj e1) wt_4_180 wt_4_181 wt_4_182 wt_4_183 rfl hy_X11_seed ⟨rfl, rfl⟩ ⟨(Nat.le_of_ble_eq_true rfl), (Nat.le_of_ble_eq_true rfl)⟩ rfl hl.1 rfl (Nat.le_of_ble_eq_true rfl) dL_law_1164 (fun H hO hPc hPr => ?_)
  refine lv_aload_n hx hb dL_law_1167 rfl (lv_at hl 1 rfl) ?_
  refine l_arg (jn := 1) X hO hl hi hL (by decide) dL_law_1168 dL_law_1169 dL_law_1170 (by decide) dL_law_1171 dL_law_1172 ?_
  refine l_R (As := [.int (xs (i + 1))]) (rest := [.int r]) X hO hPc hPr (tX12_seed aR_inj e2) wt_7_153 wt_7_154 wt_7_155 wt_7_156 rfl hy_X12_seed ⟨rfl, rfl⟩ ⟨(Nat.le_of_ble_eq_true rfl), (Nat.le_of_ble_eq_true rfl)⟩ rfl hl.1 rfl (Nat.le_of_ble_eq_true rfl) dL_law_1173 (fun H hO hPc hPr => ?_)
  refine lv_icmp_eq (tgt := 1745) hx hb dL_law_1176 (by decide) (fun _ => ?_) (fun c => absurd rfl c)
  exact kk H mc1 mr1 ⟨hO, hPc, hPr, hRR⟩
theorem lc_33 (X : LX D cA st p s m c b L xs) (hL : L ≤ 2560) (hi : i + 5 ≤ L) (hl : lv_has ls 4 (lvL s st b i)) (h : LSt D cA s st mc mr H) (kk : LEnd p l e s m below meth c b D cA st ls Q) : W p l e room_1 s m #[Value.ref b] below meth c H [] 188 6654 Q (F0 m 1181 ls []) := by
  have hx := X.1
  have hb := X.2.1
  have hown := X.2.2.2.1
  have hts := X.2.2.2.2.1
  obtain ⟨hO, hPc, hPr, hRR⟩ := h
  obtain ⟨r, mc1, mr1, e1, e2, hRR⟩ := op_lot  mc mr hRR
  refine lv_aload_n hx hb dL_law_1181 rfl (lv_at hl 2 rfl) ?_
  refine l_C (As := []) (rest := []) X hO hPc hPr (tX11_lot aC_inj e1) wt_4_184 wt_4_185 wt_4_186 wt_4_187 rfl hy_X11_lot ⟨rfl, rfl⟩ ⟨(Nat.le_of_ble_eq_true rfl), (Nat.le_of_ble_eq_true rfl)⟩ rfl hl.1 rfl (Nat.le_of_ble_eq_true rfl) dL_law_1182 (fun H hO hPc hPr => ?_)
  refine lv_aload_n hx hb dL_law_1185 rfl (lv_at hl 1 rfl) ?_
  refine l_R (As := []) (rest := [.int r]) X hO hPc hPr (tX12_lot aR_inj e2) wt_7_157 wt_7_158 wt_7_159 wt_7_160 rfl hy_X12_lot ⟨rfl, rfl⟩ ⟨(Nat.le_of_ble_eq_true rfl), (Nat.le_of_ble_eq_true rfl)⟩ rfl hl.1 rfl (Nat.le_of_ble_eq_true rfl) dL_law_1186 (fun H hO hPc hPr => ?_)
  refine lv_icmp_eq (tgt := 1745) hx hb dL_law_1189 (by decide) (fun _ => ?_) (fun c => absurd rfl c)
  exact kk H mc1 mr1 ⟨hO, hPc, hPr, hRR⟩
theorem lc_34 (X : LX D cA st p s m c b L xs) (hL : L ≤ 2560) (hi : i + 5 ≤ L) (hl : lv_has ls 4 (lvL s st b i)) (h : LSt D cA s st mc mr H) (kk : LEnd p l e s m below meth c b D cA st ls Q) : W p l e room_1 s m #[Value.ref b] below meth c H [] 188 6654 Q (F0 m 1194 ls []) := by
  have hx := X.1
  have hb := X.2.1
  have hown := X.2.2.2.1
  have hts := X.2.2.2.2.1
  obtain ⟨hO, hPc, hPr, hRR⟩ := h
  obtain ⟨r, mc1, mr1, e1, e2, hRR⟩ := op_times ((xs (i + 1))) ((xs (i + 2))) mc mr hRR
  refine lv_aload_n hx hb dL_law_1194 rfl (lv_at hl 2 rfl) ?_
  refine l_arg (jn := 1) X hO hl hi hL (by decide) dL_law_1195 dL_law_1196 dL_law_1197 (by decide) dL_law_1198 dL_law_1199 ?_
  refine l_arg (jn := 2) X hO hl hi hL (by decide) dL_law_1200 dL_law_1201 dL_law_1202 (by decide) dL_law_1203 dL_law_1204 ?_
  refine l_C (As := [.int (xs (i + 1)), .int (xs (i + 2))]) (rest := []) X hO hPc hPr (tX11_times aC_inj e1) wt_4_193 wt_4_194 wt_4_195 wt_4_196 rfl hy_X11_times ⟨rfl, rfl⟩ ⟨(Nat.le_of_ble_eq_true rfl), (Nat.le_of_ble_eq_true rfl)⟩ rfl hl.1 rfl (Nat.le_of_ble_eq_true rfl) dL_law_1205 (fun H hO hPc hPr => ?_)
  refine lv_aload_n hx hb dL_law_1208 rfl (lv_at hl 1 rfl) ?_
  refine l_arg (jn := 1) X hO hl hi hL (by decide) dL_law_1209 dL_law_1210 dL_law_1211 (by decide) dL_law_1212 dL_law_1213 ?_
  refine l_arg (jn := 2) X hO hl hi hL (by decide) dL_law_1214 dL_law_1215 dL_law_1216 (by decide) dL_law_1217 dL_law_1218 ?_
  refine l_R (As := [.int (xs (i + 1)), .int (xs (i + 2))]) (rest := [.int r]) X hO hPc hPr (tX12_times aR_inj e2) wt_7_166 wt_7_167 wt_7_168 wt_7_169 rfl hy_X12_times ⟨rfl, rfl⟩ ⟨(Nat.le_of_ble_eq_true rfl), (Nat.le_of_ble_eq_true rfl)⟩ rfl hl.1 rfl (Nat.le_of_ble_eq_true rfl) dL_law_1219 (fun H hO hPc hPr => ?_)
  refine lv_icmp_eq (tgt := 1745) hx hb dL_law_1222 (by decide) (fun _ => ?_) (fun c => absurd rfl c)
  exact kk H mc1 mr1 ⟨hO, hPc, hPr, hRR⟩
theorem lc_35 (X : LX D cA st p s m c b L xs) (hL : L ≤ 2560) (hi : i + 5 ≤ L) (hl : lv_has ls 4 (lvL s st b i)) (h : LSt D cA s st mc mr H) (kk : LEnd p l e s m below meth c b D cA st ls Q) : W p l e room_1 s m #[Value.ref b] below meth c H [] 188 6654 Q (F0 m 1227 ls []) := by
  have hx := X.1
  have hb := X.2.1
  have hown := X.2.2.2.1
  have hts := X.2.2.2.2.1
  obtain ⟨hO, hPc, hPr, hRR⟩ := h
  obtain ⟨r, mc1, mr1, e1, e2, hRR⟩ := op_prove ((xs (i + 1))) mc mr hRR
  refine lv_aload_n hx hb dL_law_1227 rfl (lv_at hl 2 rfl) ?_
  refine l_arg (jn := 1) X hO hl hi hL (by decide) dL_law_1228 dL_law_1229 dL_law_1230 (by decide) dL_law_1231 dL_law_1232 ?_
  refine l_C (As := [.int (xs (i + 1))]) (rest := []) X hO hPc hPr (tX11_prove aC_inj e1) wt_4_203 wt_4_204 wt_4_205 wt_4_206 rfl hy_X11_prove ⟨rfl, rfl⟩ ⟨(Nat.le_of_ble_eq_true rfl), (Nat.le_of_ble_eq_true rfl)⟩ rfl hl.1 rfl (Nat.le_of_ble_eq_true rfl) dL_law_1233 (fun H hO hPc hPr => ?_)
  refine lv_aload_n hx hb dL_law_1236 rfl (lv_at hl 1 rfl) ?_
  refine l_arg (jn := 1) X hO hl hi hL (by decide) dL_law_1237 dL_law_1238 dL_law_1239 (by decide) dL_law_1240 dL_law_1241 ?_
  refine l_R (As := [.int (xs (i + 1))]) (rest := [.int r]) X hO hPc hPr (tX12_prove aR_inj e2) wt_7_172 wt_7_173 wt_7_174 wt_7_175 rfl hy_X12_prove ⟨rfl, rfl⟩ ⟨(Nat.le_of_ble_eq_true rfl), (Nat.le_of_ble_eq_true rfl)⟩ rfl hl.1 rfl (Nat.le_of_ble_eq_true rfl) dL_law_1242 (fun H hO hPc hPr => ?_)
  refine lv_icmp_eq (tgt := 1745) hx hb dL_law_1245 (by decide) (fun _ => ?_) (fun c => absurd rfl c)
  exact kk H mc1 mr1 ⟨hO, hPc, hPr, hRR⟩
theorem lc_36 (X : LX D cA st p s m c b L xs) (hL : L ≤ 2560) (hi : i + 5 ≤ L) (hl : lv_has ls 4 (lvL s st b i)) (h : LSt D cA s st mc mr H) (kk : LEnd p l e s m below meth c b D cA st ls Q) : W p l e room_1 s m #[Value.ref b] below meth c H [] 188 6654 Q (F0 m 1250 ls []) := by
  have hx := X.1
  have hb := X.2.1
  have hown := X.2.2.2.1
  have hts := X.2.2.2.2.1
  obtain ⟨hO, hPc, hPr, hRR⟩ := h
  obtain ⟨r, mc1, mr1, e1, e2, hRR⟩ := op_row ((xs (i + 1))) ((xs (i + 2))) mc mr hRR
  refine lv_aload_n hx hb dL_law_1250 rfl (lv_at hl 2 rfl) ?_
  refine l_arg (jn := 1) X hO hl hi hL (by decide) dL_law_1251 dL_law_1252 dL_law_1253 (by decide) dL_law_1254 dL_law_1255 ?_
  refine l_arg (jn := 2) X hO hl hi hL (by decide) dL_law_1256 dL_law_1257 dL_law_1258 (by decide) dL_law_1259 dL_law_1260 ?_
  refine l_C (As := [.int (xs (i + 1)), .int (xs (i + 2))]) (rest := []) X hO hPc hPr (tX11_row aC_inj e1) wt_4_207 wt_4_208 wt_4_209 wt_4_210 rfl hy_X11_row ⟨rfl, rfl⟩ ⟨(Nat.le_of_ble_eq_true rfl), (Nat.le_of_ble_eq_true rfl)⟩ rfl hl.1 rfl (Nat.le_of_ble_eq_true rfl) dL_law_1261 (fun H hO hPc hPr => ?_)
  refine lv_aload_n hx hb dL_law_1264 rfl (lv_at hl 1 rfl) ?_
  refine l_arg (jn := 1) X hO hl hi hL (by decide) dL_law_1265 dL_law_1266 dL_law_1267 (by decide) dL_law_1268 dL_law_1269 ?_
  refine l_arg (jn := 2) X hO hl hi hL (by decide) dL_law_1270 dL_law_1271 dL_law_1272 (by decide) dL_law_1273 dL_law_1274 ?_
  refine l_R (As := [.int (xs (i + 1)), .int (xs (i + 2))]) (rest := [.int r]) X hO hPc hPr (tX12_row aR_inj e2) wt_7_176 wt_7_177 wt_7_178 wt_7_179 rfl hy_X12_row ⟨rfl, rfl⟩ ⟨(Nat.le_of_ble_eq_true rfl), (Nat.le_of_ble_eq_true rfl)⟩ rfl hl.1 rfl (Nat.le_of_ble_eq_true rfl) dL_law_1275 (fun H hO hPc hPr => ?_)
  refine lv_icmp_eq (tgt := 1745) hx hb dL_law_1278 (by decide) (fun _ => ?_) (fun c => absurd rfl c)
  exact kk H mc1 mr1 ⟨hO, hPc, hPr, hRR⟩
theorem lc_37 (X : LX D cA st p s m c b L xs) (hL : L ≤ 2560) (hi : i + 5 ≤ L) (hl : lv_has ls 4 (lvL s st b i)) (h : LSt D cA s st mc mr H) (kk : LEnd p l e s m below meth c b D cA st ls Q) : W p l e room_1 s m #[Value.ref b] below meth c H [] 188 6654 Q (F0 m 1283 ls []) := by
  have hx := X.1
  have hb := X.2.1
  have hown := X.2.2.2.1
  have hts := X.2.2.2.2.1
  obtain ⟨hO, hPc, hPr, hRR⟩ := h
  obtain ⟨r, mc1, mr1, e1, e2, hRR⟩ := op_alterRow ((xs (i + 1))) ((xs (i + 2))) ((xs (i + 3))) mc mr hRR
  refine lv_aload_n hx hb dL_law_1283 rfl (lv_at hl 2 rfl) ?_
  refine l_arg (jn := 1) X hO hl hi hL (by decide) dL_law_1284 dL_law_1285 dL_law_1286 (by decide) dL_law_1287 dL_law_1288 ?_
  refine l_arg (jn := 2) X hO hl hi hL (by decide) dL_law_1289 dL_law_1290 dL_law_1291 (by decide) dL_law_1292 dL_law_1293 ?_
  refine l_arg (jn := 3) X hO hl hi hL (by decide) dL_law_1294 dL_law_1295 dL_law_1296 (by decide) dL_law_1297 dL_law_1298 ?_
  refine l_C (As := [.int (xs (i + 1)), .int (xs (i + 2)), .int (xs (i + 3))]) (rest := []) X hO hPc hPr (tX11_alterRow aC_inj e1) wt_4_215 wt_4_216 wt_4_217 wt_4_218 rfl hy_X11_alterRow ⟨rfl, rfl⟩ ⟨(Nat.le_of_ble_eq_true rfl), (Nat.le_of_ble_eq_true rfl)⟩ rfl hl.1 rfl (Nat.le_of_ble_eq_true rfl) dL_law_1299 (fun H hO hPc hPr => ?_)
  refine lv_aload_n hx hb dL_law_1302 rfl (lv_at hl 1 rfl) ?_
  refine l_arg (jn := 1) X hO hl hi hL (by decide) dL_law_1303 dL_law_1304 dL_law_1305 (by decide) dL_law_1306 dL_law_1307 ?_
  refine l_arg (jn := 2) X hO hl hi hL (by decide) dL_law_1308 dL_law_1309 dL_law_1310 (by decide) dL_law_1311 dL_law_1312 ?_
  refine l_arg (jn := 3) X hO hl hi hL (by decide) dL_law_1313 dL_law_1314 dL_law_1315 (by decide) dL_law_1316 dL_law_1317 ?_
  refine l_R (As := [.int (xs (i + 1)), .int (xs (i + 2)), .int (xs (i + 3))]) (rest := [.int r]) X hO hPc hPr (tX12_alterRow aR_inj e2) wt_7_184 wt_7_185 wt_7_186 wt_7_187 rfl hy_X12_alterRow ⟨rfl, rfl⟩ ⟨(Nat.le_of_ble_eq_true rfl), (Nat.le_of_ble_eq_true rfl)⟩ rfl hl.1 rfl (Nat.le_of_ble_eq_true rfl) dL_law_1318 (fun H hO hPc hPr => ?_)
  refine lv_icmp_eq (tgt := 1745) hx hb dL_law_1321 (by decide) (fun _ => ?_) (fun c => absurd rfl c)
  exact kk H mc1 mr1 ⟨hO, hPc, hPr, hRR⟩
theorem lc_38 (X : LX D cA st p s m c b L xs) (hL : L ≤ 2560) (hi : i + 5 ≤ L) (hl : lv_has ls 4 (lvL s st b i)) (h : LSt D cA s st mc mr H) (kk : LEnd p l e s m below meth c b D cA st ls Q) : W p l e room_1 s m #[Value.ref b] below meth c H [] 188 6654 Q (F0 m 1326 ls []) := by
  have hx := X.1
  have hb := X.2.1
  have hown := X.2.2.2.1
  have hts := X.2.2.2.2.1
  obtain ⟨hO, hPc, hPr, hRR⟩ := h
  obtain ⟨r, mc1, mr1, e1, e2, hRR⟩ := op_judge  mc mr hRR
  refine lv_aload_n hx hb dL_law_1326 rfl (lv_at hl 2 rfl) ?_
  refine l_C (As := []) (rest := []) X hO hPc hPr (tX11_judge aC_inj e1) wt_4_219 wt_4_220 wt_4_221 wt_4_222 rfl hy_X11_judge ⟨rfl, rfl⟩ ⟨(Nat.le_of_ble_eq_true rfl), (Nat.le_of_ble_eq_true rfl)⟩ rfl hl.1 rfl (Nat.le_of_ble_eq_true rfl) dL_law_1327 (fun H hO hPc hPr => ?_)
  refine lv_aload_n hx hb dL_law_1330 rfl (lv_at hl 1 rfl) ?_
  refine l_R (As := []) (rest := [.int r]) X hO hPc hPr (tX12_judge aR_inj e2) wt_7_188 wt_7_189 wt_7_190 wt_7_191 rfl hy_X12_judge ⟨rfl, rfl⟩ ⟨(Nat.le_of_ble_eq_true rfl), (Nat.le_of_ble_eq_true rfl)⟩ rfl hl.1 rfl (Nat.le_of_ble_eq_true rfl) dL_law_1331 (fun H hO hPc hPr => ?_)
  refine lv_icmp_eq (tgt := 1745) hx hb dL_law_1334 (by decide) (fun _ => ?_) (fun c => absurd rfl c)
  exact kk H mc1 mr1 ⟨hO, hPc, hPr, hRR⟩
theorem lc_39 (X : LX D cA st p s m c b L xs) (hL : L ≤ 2560) (hi : i + 5 ≤ L) (hl : lv_has ls 4 (lvL s st b i)) (h : LSt D cA s st mc mr H) (kk : LEnd p l e s m below meth c b D cA st ls Q) : W p l e room_1 s m #[Value.ref b] below meth c H [] 188 6654 Q (F0 m 1339 ls []) := by
  have hx := X.1
  have hb := X.2.1
  have hown := X.2.2.2.1
  have hts := X.2.2.2.2.1
  obtain ⟨hO, hPc, hPr, hRR⟩ := h
  obtain ⟨r, mc1, mr1, e1, e2, hRR⟩ := op_sheet ((xs (i + 1))) ((xs (i + 2))) ((xs (i + 3))) mc mr hRR
  refine lv_aload_n hx hb dL_law_1339 rfl (lv_at hl 2 rfl) ?_
  refine l_arg (jn := 1) X hO hl hi hL (by decide) dL_law_1340 dL_law_1341 dL_law_1342 (by decide) dL_law_1343 dL_law_1344 ?_
  refine l_arg (jn := 2) X hO hl hi hL (by decide) dL_law_1345 dL_law_1346 dL_law_1347 (by decide) dL_law_1348 dL_law_1349 ?_
  refine l_arg (jn := 3) X hO hl hi hL (by decide) dL_law_1350 dL_law_1351 dL_law_1352 (by decide) dL_law_1353 dL_law_1354 ?_
  refine l_C (As := [.int (xs (i + 1)), .int (xs (i + 2)), .int (xs (i + 3))]) (rest := []) X hO hPc hPr (tX11_sheet aC_inj e1) wt_4_227 wt_4_228 wt_4_229 wt_4_230 rfl hy_X11_sheet ⟨rfl, rfl⟩ ⟨(Nat.le_of_ble_eq_true rfl), (Nat.le_of_ble_eq_true rfl)⟩ rfl hl.1 rfl (Nat.le_of_ble_eq_true rfl) dL_law_1355 (fun H hO hPc hPr => ?_)
  refine lv_aload_n hx hb dL_law_1358 rfl (lv_at hl 1 rfl) ?_
  refine l_arg (jn := 1) X hO hl hi hL (by decide) dL_law_1359 dL_law_1360 dL_law_1361 (by decide) dL_law_1362 dL_law_1363 ?_
  refine l_arg (jn := 2) X hO hl hi hL (by decide) dL_law_1364 dL_law_1365 dL_law_1366 (by decide) dL_law_1367 dL_law_1368 ?_
  refine l_arg (jn := 3) X hO hl hi hL (by decide) dL_law_1369 dL_law_1370 dL_law_1371 (by decide) dL_law_1372 dL_law_1373 ?_
  refine l_R (As := [.int (xs (i + 1)), .int (xs (i + 2)), .int (xs (i + 3))]) (rest := [.int r]) X hO hPc hPr (tX12_sheet aR_inj e2) wt_7_196 wt_7_197 wt_7_198 wt_7_199 rfl hy_X12_sheet ⟨rfl, rfl⟩ ⟨(Nat.le_of_ble_eq_true rfl), (Nat.le_of_ble_eq_true rfl)⟩ rfl hl.1 rfl (Nat.le_of_ble_eq_true rfl) dL_law_1374 (fun H hO hPc hPr => ?_)
  refine lv_icmp_eq (tgt := 1745) hx hb dL_law_1377 (by decide) (fun _ => ?_) (fun c => absurd rfl c)
  exact kk H mc1 mr1 ⟨hO, hPc, hPr, hRR⟩
theorem lc_40 (X : LX D cA st p s m c b L xs) (hL : L ≤ 2560) (hi : i + 5 ≤ L) (hl : lv_has ls 4 (lvL s st b i)) (h : LSt D cA s st mc mr H) (kk : LEnd p l e s m below meth c b D cA st ls Q) : W p l e room_1 s m #[Value.ref b] below meth c H [] 188 6654 Q (F0 m 1382 ls []) := by
  have hx := X.1
  have hb := X.2.1
  have hown := X.2.2.2.1
  have hts := X.2.2.2.2.1
  obtain ⟨hO, hPc, hPr, hRR⟩ := h
  obtain ⟨r, mc1, mr1, e1, e2, hRR⟩ := op_write ((xs (i + 1))) ((xs (i + 2))) ((xs (i + 3))) mc mr hRR
  refine lv_aload_n hx hb dL_law_1382 rfl (lv_at hl 2 rfl) ?_
  refine l_arg (jn := 1) X hO hl hi hL (by decide) dL_law_1383 dL_law_1384 dL_law_1385 (by decide) dL_law_1386 dL_law_1387 ?_
  refine l_arg (jn := 2) X hO hl hi hL (by decide) dL_law_1388 dL_law_1389 dL_law_1390 (by decide) dL_law_1391 dL_law_1392 ?_
  refine l_arg (jn := 3) X hO hl hi hL (by decide) dL_law_1393 dL_law_1394 dL_law_1395 (by decide) dL_law_1396 dL_law_1397 ?_
  refine l_C (As := [.int (xs (i + 1)), .int (xs (i + 2)), .int (xs (i + 3))]) (rest := []) X hO hPc hPr (tX11_write aC_inj e1) wt_4_238 wt_4_239 wt_5_0 wt_5_1 rfl hy_X11_write ⟨rfl, rfl⟩ ⟨(Nat.le_of_ble_eq_true rfl), (Nat.le_of_ble_eq_true rfl)⟩ rfl hl.1 rfl (Nat.le_of_ble_eq_true rfl) dL_law_1398 (fun H hO hPc hPr => ?_)
  refine lv_aload_n hx hb dL_law_1401 rfl (lv_at hl 1 rfl) ?_
  refine l_arg (jn := 1) X hO hl hi hL (by decide) dL_law_1402 dL_law_1403 dL_law_1404 (by decide) dL_law_1405 dL_law_1406 ?_
  refine l_arg (jn := 2) X hO hl hi hL (by decide) dL_law_1407 dL_law_1408 dL_law_1409 (by decide) dL_law_1410 dL_law_1411 ?_
  refine l_arg (jn := 3) X hO hl hi hL (by decide) dL_law_1412 dL_law_1413 dL_law_1414 (by decide) dL_law_1415 dL_law_1416 ?_
  refine l_R (As := [.int (xs (i + 1)), .int (xs (i + 2)), .int (xs (i + 3))]) (rest := [.int r]) X hO hPc hPr (tX12_write aR_inj e2) wt_7_204 wt_7_205 wt_7_206 wt_7_207 rfl hy_X12_write ⟨rfl, rfl⟩ ⟨(Nat.le_of_ble_eq_true rfl), (Nat.le_of_ble_eq_true rfl)⟩ rfl hl.1 rfl (Nat.le_of_ble_eq_true rfl) dL_law_1417 (fun H hO hPc hPr => ?_)
  refine lv_icmp_eq (tgt := 1745) hx hb dL_law_1420 (by decide) (fun _ => ?_) (fun c => absurd rfl c)
  exact kk H mc1 mr1 ⟨hO, hPc, hPr, hRR⟩
theorem lc_41 (X : LX D cA st p s m c b L xs) (hL : L ≤ 2560) (hi : i + 5 ≤ L) (hl : lv_has ls 4 (lvL s st b i)) (h : LSt D cA s st mc mr H) (kk : LEnd p l e s m below meth c b D cA st ls Q) : W p l e room_1 s m #[Value.ref b] below meth c H [] 188 6654 Q (F0 m 1425 ls []) := by
  have hx := X.1
  have hb := X.2.1
  have hown := X.2.2.2.1
  have hts := X.2.2.2.2.1
  obtain ⟨hO, hPc, hPr, hRR⟩ := h
  obtain ⟨r, mc1, mr1, e1, e2, hRR⟩ := op_item ((xs (i + 1))) ((xs (i + 2))) ((xs (i + 3))) mc mr hRR
  refine lv_aload_n hx hb dL_law_1425 rfl (lv_at hl 2 rfl) ?_
  refine l_arg (jn := 1) X hO hl hi hL (by decide) dL_law_1426 dL_law_1427 dL_law_1428 (by decide) dL_law_1429 dL_law_1430 ?_
  refine l_arg (jn := 2) X hO hl hi hL (by decide) dL_law_1431 dL_law_1432 dL_law_1433 (by decide) dL_law_1434 dL_law_1435 ?_
  refine l_arg (jn := 3) X hO hl hi hL (by decide) dL_law_1436 dL_law_1437 dL_law_1438 (by decide) dL_law_1439 dL_law_1440 ?_
  refine l_C (As := [.int (xs (i + 1)), .int (xs (i + 2)), .int (xs (i + 3))]) (rest := []) X hO hPc hPr (tX11_item aC_inj e1) wt_5_10 wt_5_11 wt_5_12 wt_5_13 rfl hy_X11_item ⟨rfl, rfl⟩ ⟨(Nat.le_of_ble_eq_true rfl), (Nat.le_of_ble_eq_true rfl)⟩ rfl hl.1 rfl (Nat.le_of_ble_eq_true rfl) dL_law_1441 (fun H hO hPc hPr => ?_)
  refine lv_aload_n hx hb dL_law_1444 rfl (lv_at hl 1 rfl) ?_
  refine l_arg (jn := 1) X hO hl hi hL (by decide) dL_law_1445 dL_law_1446 dL_law_1447 (by decide) dL_law_1448 dL_law_1449 ?_
  refine l_arg (jn := 2) X hO hl hi hL (by decide) dL_law_1450 dL_law_1451 dL_law_1452 (by decide) dL_law_1453 dL_law_1454 ?_
  refine l_arg (jn := 3) X hO hl hi hL (by decide) dL_law_1455 dL_law_1456 dL_law_1457 (by decide) dL_law_1458 dL_law_1459 ?_
  refine l_R (As := [.int (xs (i + 1)), .int (xs (i + 2)), .int (xs (i + 3))]) (rest := [.int r]) X hO hPc hPr (tX12_item aR_inj e2) wt_7_208 wt_7_209 wt_7_210 wt_7_211 rfl hy_X12_item ⟨rfl, rfl⟩ ⟨(Nat.le_of_ble_eq_true rfl), (Nat.le_of_ble_eq_true rfl)⟩ rfl hl.1 rfl (Nat.le_of_ble_eq_true rfl) dL_law_1460 (fun H hO hPc hPr => ?_)
  refine lv_icmp_eq (tgt := 1745) hx hb dL_law_1463 (by decide) (fun _ => ?_) (fun c => absurd rfl c)
  exact kk H mc1 mr1 ⟨hO, hPc, hPr, hRR⟩
theorem lc_42 (X : LX D cA st p s m c b L xs) (hL : L ≤ 2560) (hi : i + 5 ≤ L) (hl : lv_has ls 4 (lvL s st b i)) (h : LSt D cA s st mc mr H) (kk : LEnd p l e s m below meth c b D cA st ls Q) : W p l e room_1 s m #[Value.ref b] below meth c H [] 188 6654 Q (F0 m 1468 ls []) := by
  have hx := X.1
  have hb := X.2.1
  have hown := X.2.2.2.1
  have hts := X.2.2.2.2.1
  obtain ⟨hO, hPc, hPr, hRR⟩ := h
  obtain ⟨r, mc1, mr1, e1, e2, hRR⟩ := op_goAll ((xs (i + 1))) ((xs (i + 2))) ((xs (i + 3))) mc mr hRR
  refine lv_aload_n hx hb dL_law_1468 rfl (lv_at hl 2 rfl) ?_
  refine l_arg (jn := 1) X hO hl hi hL (by decide) dL_law_1469 dL_law_1470 dL_law_1471 (by decide) dL_law_1472 dL_law_1473 ?_
  refine l_arg (jn := 2) X hO hl hi hL (by decide) dL_law_1474 dL_law_1475 dL_law_1476 (by decide) dL_law_1477 dL_law_1478 ?_
  refine l_arg (jn := 3) X hO hl hi hL (by decide) dL_law_1479 dL_law_1480 dL_law_1481 (by decide) dL_law_1482 dL_law_1483 ?_
  refine l_C (As := [.int (xs (i + 1)), .int (xs (i + 2)), .int (xs (i + 3))]) (rest := []) X hO hPc hPr (tX11_goAll aC_inj e1) wt_5_18 wt_5_19 wt_5_20 wt_5_21 rfl hy_X11_goAll ⟨rfl, rfl⟩ ⟨(Nat.le_of_ble_eq_true rfl), (Nat.le_of_ble_eq_true rfl)⟩ rfl hl.1 rfl (Nat.le_of_ble_eq_true rfl) dL_law_1484 (fun H hO hPc hPr => ?_)
  refine lv_aload_n hx hb dL_law_1487 rfl (lv_at hl 1 rfl) ?_
  refine l_arg (jn := 1) X hO hl hi hL (by decide) dL_law_1488 dL_law_1489 dL_law_1490 (by decide) dL_law_1491 dL_law_1492 ?_
  refine l_arg (jn := 2) X hO hl hi hL (by decide) dL_law_1493 dL_law_1494 dL_law_1495 (by decide) dL_law_1496 dL_law_1497 ?_
  refine l_arg (jn := 3) X hO hl hi hL (by decide) dL_law_1498 dL_law_1499 dL_law_1500 (by decide) dL_law_1501 dL_law_1502 ?_
  refine l_R (As := [.int (xs (i + 1)), .int (xs (i + 2)), .int (xs (i + 3))]) (rest := [.int r]) X hO hPc hPr (tX12_goAll aR_inj e2) wt_7_216 wt_7_217 wt_7_218 wt_7_219 rfl hy_X12_goAll ⟨rfl, rfl⟩ ⟨(Nat.le_of_ble_eq_true rfl), (Nat.le_of_ble_eq_true rfl)⟩ rfl hl.1 rfl (Nat.le_of_ble_eq_true rfl) dL_law_1503 (fun H hO hPc hPr => ?_)
  refine lv_icmp_eq (tgt := 1745) hx hb dL_law_1506 (by decide) (fun _ => ?_) (fun c => absurd rfl c)
  exact kk H mc1 mr1 ⟨hO, hPc, hPr, hRR⟩
theorem lc_43 (X : LX D cA st p s m c b L xs) (hL : L ≤ 2560) (hi : i + 5 ≤ L) (hl : lv_has ls 4 (lvL s st b i)) (h : LSt D cA s st mc mr H) (kk : LEnd p l e s m below meth c b D cA st ls Q) : W p l e room_1 s m #[Value.ref b] below meth c H [] 188 6654 Q (F0 m 1511 ls []) := by
  have hx := X.1
  have hb := X.2.1
  have hown := X.2.2.2.1
  have hts := X.2.2.2.2.1
  obtain ⟨hO, hPc, hPr, hRR⟩ := h
  obtain ⟨r, mc1, mr1, e1, e2, hRR⟩ := op_wouldBe ((xs (i + 1))) ((xs (i + 2))) ((xs (i + 3))) mc mr hRR
  refine lv_aload_n hx hb dL_law_1511 rfl (lv_at hl 2 rfl) ?_
  refine l_arg (jn := 1) X hO hl hi hL (by decide) dL_law_1512 dL_law_1513 dL_law_1514 (by decide) dL_law_1515 dL_law_1516 ?_
  refine l_arg (jn := 2) X hO hl hi hL (by decide) dL_law_1517 dL_law_1518 dL_law_1519 (by decide) dL_law_1520 dL_law_1521 ?_
  refine l_arg (jn := 3) X hO hl hi hL (by decide) dL_law_1522 dL_law_1523 dL_law_1524 (by decide) dL_law_1525 dL_law_1526 ?_
  refine l_C (As := [.int (xs (i + 1)), .int (xs (i + 2)), .int (xs (i + 3))]) (rest := []) X hO hPc hPr (tX11_wouldBe aC_inj e1) wt_5_22 wt_5_23 wt_5_24 wt_5_25 rfl hy_X11_wouldBe ⟨rfl, rfl⟩ ⟨(Nat.le_of_ble_eq_true rfl), (Nat.le_of_ble_eq_true rfl)⟩ rfl hl.1 rfl (Nat.le_of_ble_eq_true rfl) dL_law_1527 (fun H hO hPc hPr => ?_)
  refine lv_aload_n hx hb dL_law_1530 rfl (lv_at hl 1 rfl) ?_
  refine l_arg (jn := 1) X hO hl hi hL (by decide) dL_law_1531 dL_law_1532 dL_law_1533 (by decide) dL_law_1534 dL_law_1535 ?_
  refine l_arg (jn := 2) X hO hl hi hL (by decide) dL_law_1536 dL_law_1537 dL_law_1538 (by decide) dL_law_1539 dL_law_1540 ?_
  refine l_arg (jn := 3) X hO hl hi hL (by decide) dL_law_1541 dL_law_1542 dL_law_1543 (by decide) dL_law_1544 dL_law_1545 ?_
  refine l_R (As := [.int (xs (i + 1)), .int (xs (i + 2)), .int (xs (i + 3))]) (rest := [.int r]) X hO hPc hPr (tX12_wouldBe aR_inj e2) wt_7_221 wt_7_222 wt_7_223 wt_7_224 rfl hy_X12_wouldBe ⟨rfl, rfl⟩ ⟨(Nat.le_of_ble_eq_true rfl), (Nat.le_of_ble_eq_true rfl)⟩ rfl hl.1 rfl (Nat.le_of_ble_eq_true rfl) dL_law_1546 (fun H hO hPc hPr => ?_)
  refine lv_icmp_eq (tgt := 1745) hx hb dL_law_1549 (by decide) (fun _ => ?_) (fun c => absurd rfl c)
  exact kk H mc1 mr1 ⟨hO, hPc, hPr, hRR⟩
theorem lc_44 (X : LX D cA st p s m c b L xs) (hL : L ≤ 2560) (hi : i + 5 ≤ L) (hl : lv_has ls 4 (lvL s st b i)) (h : LSt D cA s st mc mr H) (kk : LEnd p l e s m below meth c b D cA st ls Q) : W p l e room_1 s m #[Value.ref b] below meth c H [] 188 6654 Q (F0 m 1554 ls []) := by
  have hx := X.1
  have hb := X.2.1
  have hown := X.2.2.2.1
  have hts := X.2.2.2.2.1
  obtain ⟨hO, hPc, hPr, hRR⟩ := h
  obtain ⟨r, mc1, mr1, e1, e2, hRR⟩ := op_shelf ((xs (i + 1))) ((xs (i + 2))) ((xs (i + 3))) mc mr hRR
  refine lv_aload_n hx hb dL_law_1554 rfl (lv_at hl 2 rfl) ?_
  refine l_arg (jn := 1) X hO hl hi hL (by decide) dL_law_1555 dL_law_1556 dL_law_1557 (by decide) dL_law_1558 dL_law_1559 ?_
  refine l_arg (jn := 2) X hO hl hi hL (by decide) dL_law_1560 dL_law_1561 dL_law_1562 (by decide) dL_law_1563 dL_law_1564 ?_
  refine l_arg (jn := 3) X hO hl hi hL (by decide) dL_law_1565 dL_law_1566 dL_law_1567 (by decide) dL_law_1568 dL_law_1569 ?_
  refine l_C (As := [.int (xs (i + 1)), .int (xs (i + 2)), .int (xs (i + 3))]) (rest := []) X hO hPc hPr (tX11_shelf aC_inj e1) wt_5_26 wt_5_27 wt_5_28 wt_5_29 rfl hy_X11_shelf ⟨rfl, rfl⟩ ⟨(Nat.le_of_ble_eq_true rfl), (Nat.le_of_ble_eq_true rfl)⟩ rfl hl.1 rfl (Nat.le_of_ble_eq_true rfl) dL_law_1570 (fun H hO hPc hPr => ?_)
  refine lv_aload_n hx hb dL_law_1573 rfl (lv_at hl 1 rfl) ?_
  refine l_arg (jn := 1) X hO hl hi hL (by decide) dL_law_1574 dL_law_1575 dL_law_1576 (by decide) dL_law_1577 dL_law_1578 ?_
  refine l_arg (jn := 2) X hO hl hi hL (by decide) dL_law_1579 dL_law_1580 dL_law_1581 (by decide) dL_law_1582 dL_law_1583 ?_
  refine l_arg (jn := 3) X hO hl hi hL (by decide) dL_law_1584 dL_law_1585 dL_law_1586 (by decide) dL_law_1587 dL_law_1588 ?_
  refine l_R (As := [.int (xs (i + 1)), .int (xs (i + 2)), .int (xs (i + 3))]) (rest := [.int r]) X hO hPc hPr (tX12_shelf aR_inj e2) wt_7_229 wt_7_230 wt_7_231 wt_7_232 rfl hy_X12_shelf ⟨rfl, rfl⟩ ⟨(Nat.le_of_ble_eq_true rfl), (Nat.le_of_ble_eq_true rfl)⟩ rfl hl.1 rfl (Nat.le_of_ble_eq_true rfl) dL_law_1589 (fun H hO hPc hPr => ?_)
  refine lv_icmp_eq (tgt := 1745) hx hb dL_law_1592 (by decide) (fun _ => ?_) (fun c => absurd rfl c)
  exact kk H mc1 mr1 ⟨hO, hPc, hPr, hRR⟩
theorem lc_45 (X : LX D cA st p s m c b L xs) (hL : L ≤ 2560) (hi : i + 5 ≤ L) (hl : lv_has ls 4 (lvL s st b i)) (h : LSt D cA s st mc mr H) (kk : LEnd p l e s m below meth c b D cA st ls Q) : W p l e room_1 s m #[Value.ref b] below meth c H [] 188 6654 Q (F0 m 1597 ls []) := by
  have hx := X.1
  have hb := X.2.1
  have hown := X.2.2.2.1
  have hts := X.2.2.2.2.1
  obtain ⟨hO, hPc, hPr, hRR⟩ := h
  obtain ⟨r, mc1, mr1, e1, e2, hRR⟩ := op_taken ((xs (i + 1))) ((xs (i + 2))) mc mr hRR
  refine lv_aload_n hx hb dL_law_1597 rfl (lv_at hl 2 rfl) ?_
  refine l_arg (jn := 1) X hO hl hi hL (by decide) dL_law_1598 dL_law_1599 dL_law_1600 (by decide) dL_law_1601 dL_law_1602 ?_
  refine l_arg (jn := 2) X hO hl hi hL (by decide) dL_law_1603 dL_law_1604 dL_law_1605 (by decide) dL_law_1606 dL_law_1607 ?_
  refine l_C (As := [.int (xs (i + 1)), .int (xs (i + 2))]) (rest := []) X hO hPc hPr (tX11_taken aC_inj e1) wt_5_41 wt_5_42 wt_5_43 wt_5_44 rfl hy_X11_taken ⟨rfl, rfl⟩ ⟨(Nat.le_of_ble_eq_true rfl), (Nat.le_of_ble_eq_true rfl)⟩ rfl hl.1 rfl (Nat.le_of_ble_eq_true rfl) dL_law_1608 (fun H hO hPc hPr => ?_)
  refine lv_aload_n hx hb dL_law_1611 rfl (lv_at hl 1 rfl) ?_
  refine l_arg (jn := 1) X hO hl hi hL (by decide) dL_law_1612 dL_law_1613 dL_law_1614 (by decide) dL_law_1615 dL_law_1616 ?_
  refine l_arg (jn := 2) X hO hl hi hL (by decide) dL_law_1617 dL_law_1618 dL_law_1619 (by decide) dL_law_1620 dL_law_1621 ?_
  refine l_R (As := [.int (xs (i + 1)), .int (xs (i + 2))]) (rest := [.int r]) X hO hPc hPr (tX12_taken aR_inj e2) wt_7_236 wt_7_237 wt_7_238 wt_7_239 rfl hy_X12_taken ⟨rfl, rfl⟩ ⟨(Nat.le_of_ble_eq_true rfl), (Nat.le_of_ble_eq_true rfl)⟩ rfl hl.1 rfl (Nat.le_of_ble_eq_true rfl) dL_law_1622 (fun H hO hPc hPr => ?_)
  refine lv_icmp_eq (tgt := 1745) hx hb dL_law_1625 (by decide) (fun _ => ?_) (fun c => absurd rfl c)
  exact kk H mc1 mr1 ⟨hO, hPc, hPr, hRR⟩
theorem lc_46 (X : LX D cA st p s m c b L xs) (hL : L ≤ 2560) (hi : i + 5 ≤ L) (hl : lv_has ls 4 (lvL s st b i)) (h : LSt D cA s st mc mr H) (kk : LEnd p l e s m below meth c b D cA st ls Q) : W p l e room_1 s m #[Value.ref b] below meth c H [] 188 6654 Q (F0 m 1630 ls []) := by
  have hx := X.1
  have hb := X.2.1
  have hown := X.2.2.2.1
  have hts := X.2.2.2.2.1
  obtain ⟨hO, hPc, hPr, hRR⟩ := h
  obtain ⟨r, mc1, mr1, e1, e2, hRR⟩ := op_act ((xs (i + 1))) ((xs (i + 2))) ((xs (i + 3))) mc mr hRR
  refine lv_aload_n hx hb dL_law_1630 rfl (lv_at hl 2 rfl) ?_
  refine l_arg (jn := 1) X hO hl hi hL (by decide) dL_law_1631 dL_law_1632 dL_law_1633 (by decide) dL_law_1634 dL_law_1635 ?_
  refine l_arg (jn := 2) X hO hl hi hL (by decide) dL_law_1636 dL_law_1637 dL_law_1638 (by decide) dL_law_1639 dL_law_1640 ?_
  refine l_arg (jn := 3) X hO hl hi hL (by decide) dL_law_1641 dL_law_1642 dL_law_1643 (by decide) dL_law_1644 dL_law_1645 ?_
  refine l_C (As := [.int (xs (i + 1)), .int (xs (i + 2)), .int (xs (i + 3))]) (rest := []) X hO hPc hPr (tX11_act aC_inj e1) wt_5_50 wt_5_51 wt_5_52 wt_5_53 rfl hy_X11_act ⟨rfl, rfl⟩ ⟨(Nat.le_of_ble_eq_true rfl), (Nat.le_of_ble_eq_true rfl)⟩ rfl hl.1 rfl (Nat.le_of_ble_eq_true rfl) dL_law_1646 (fun H hO hPc hPr => ?_)
  refine lv_aload_n hx hb dL_law_1649 rfl (lv_at hl 1 rfl) ?_
  refine l_arg (jn := 1) X hO hl hi hL (by decide) dL_law_1650 dL_law_1651 dL_law_1652 (by decide) dL_law_1653 dL_law_1654 ?_
  refine l_arg (jn := 2) X hO hl hi hL (by decide) dL_law_1655 dL_law_1656 dL_law_1657 (by decide) dL_law_1658 dL_law_1659 ?_
  refine l_arg (jn := 3) X hO hl hi hL (by decide) dL_law_1660 dL_law_1661 dL_law_1662 (by decide) dL_law_1663 dL_law_1664 ?_
  refine l_R (As := [.int (xs (i + 1)), .int (xs (i + 2)), .int (xs (i + 3))]) (rest := [.int r]) X hO hPc hPr (tX12_act aR_inj e2) wt_8_6 wt_8_7 wt_8_8 wt_8_9 rfl hy_X12_act ⟨rfl, rfl⟩ ⟨(Nat.le_of_ble_eq_true rfl), (Nat.le_of_ble_eq_true rfl)⟩ rfl hl.1 rfl (Nat.le_of_ble_eq_true rfl) dL_law_1665 (fun H hO hPc hPr => ?_)
  refine lv_icmp_eq (tgt := 1745) hx hb dL_law_1668 (by decide) (fun _ => ?_) (fun c => absurd rfl c)
  exact kk H mc1 mr1 ⟨hO, hPc, hPr, hRR⟩
theorem lc_47 (X : LX D cA st p s m c b L xs) (hL : L ≤ 2560) (hi : i + 5 ≤ L) (hl : lv_has ls 4 (lvL s st b i)) (h : LSt D cA s st mc mr H) (kk : LEnd p l e s m below meth c b D cA st ls Q) : W p l e room_1 s m #[Value.ref b] below meth c H [] 188 6654 Q (F0 m 1673 ls []) := by
  have hx := X.1
  have hb := X.2.1
  have hown := X.2.2.2.1
  have hts := X.2.2.2.2.1
  obtain ⟨hO, hPc, hPr, hRR⟩ := h
  obtain ⟨r, mc1, mr1, e1, e2, hRR⟩ := op_trace ((xs (i + 1))) mc mr hRR
  refine lv_aload_n hx hb dL_law_1673 rfl (lv_at hl 2 rfl) ?_
  refine l_arg (jn := 1) X hO hl hi hL (by decide) dL_law_1674 dL_law_1675 dL_law_1676 (by decide) dL_law_1677 dL_law_1678 ?_
  refine l_C (As := [.int (xs (i + 1))]) (rest := []) X hO hPc hPr (tX11_trace aC_inj e1) wt_5_144 wt_5_145 wt_5_146 wt_5_147 rfl hy_X11_trace ⟨rfl, rfl⟩ ⟨(Nat.le_of_ble_eq_true rfl), (Nat.le_of_ble_eq_true rfl)⟩ rfl hl.1 rfl (Nat.le_of_ble_eq_true rfl) dL_law_1679 (fun H hO hPc hPr => ?_)
  refine lv_aload_n hx hb dL_law_1682 rfl (lv_at hl 1 rfl) ?_
  refine l_arg (jn := 1) X hO hl hi hL (by decide) dL_law_1683 dL_law_1684 dL_law_1685 (by decide) dL_law_1686 dL_law_1687 ?_
  refine l_R (As := [.int (xs (i + 1))]) (rest := [.int r]) X hO hPc hPr (tX12_trace aR_inj e2) wt_8_50 wt_8_51 wt_8_52 wt_8_53 rfl hy_X12_trace ⟨rfl, rfl⟩ ⟨(Nat.le_of_ble_eq_true rfl), (Nat.le_of_ble_eq_true rfl)⟩ rfl hl.1 rfl (Nat.le_of_ble_eq_true rfl) dL_law_1688 (fun H hO hPc hPr => ?_)
  refine lv_icmp_eq (tgt := 1745) hx hb dL_law_1691 (by decide) (fun _ => ?_) (fun c => absurd rfl c)
  exact kk H mc1 mr1 ⟨hO, hPc, hPr, hRR⟩
theorem lc_48 (X : LX D cA st p s m c b L xs) (hL : L ≤ 2560) (hi : i + 5 ≤ L) (hl : lv_has ls 4 (lvL s st b i)) (h : LSt D cA s st mc mr H) (kk : LEnd p l e s m below meth c b D cA st ls Q) : W p l e room_1 s m #[Value.ref b] below meth c H [] 188 6654 Q (F0 m 1696 ls []) := by
  have hx := X.1
  have hb := X.2.1
  have hown := X.2.2.2.1
  have hts := X.2.2.2.2.1
  obtain ⟨hO, hPc, hPr, hRR⟩ := h
  obtain ⟨r, mc1, mr1, e1, e2, hRR⟩ := op_many ((xs (i + 1))) mc mr hRR
  refine lv_aload_n hx hb dL_law_1696 rfl (lv_at hl 2 rfl) ?_
  refine l_arg (jn := 1) X hO hl hi hL (by decide) dL_law_1697 dL_law_1698 dL_law_1699 (by decide) dL_law_1700 dL_law_1701 ?_
  refine l_C (As := [.int (xs (i + 1))]) (rest := []) X hO hPc hPr (tX11_many aC_inj e1) wt_5_148 wt_5_149 wt_5_150 wt_5_151 rfl hy_X11_many ⟨rfl, rfl⟩ ⟨(Nat.le_of_ble_eq_true rfl), (Nat.le_of_ble_eq_true rfl)⟩ rfl hl.1 rfl (Nat.le_of_ble_eq_true rfl) dL_law_1702 (fun H hO hPc hPr => ?_)
  refine lv_aload_n hx hb dL_law_1705 rfl (lv_at hl 1 rfl) ?_
  refine l_arg (jn := 1) X hO hl hi hL (by decide) dL_law_1706 dL_law_1707 dL_law_1708 (by decide) dL_law_1709 dL_law_1710 ?_
  refine l_R (As := [.int (xs (i + 1))]) (rest := [.int r]) X hO hPc hPr (tX12_many aR_inj e2) wt_8_54 wt_8_55 wt_8_56 wt_8_57 rfl hy_X12_many ⟨rfl, rfl⟩ ⟨(Nat.le_of_ble_eq_true rfl), (Nat.le_of_ble_eq_true rfl)⟩ rfl hl.1 rfl (Nat.le_of_ble_eq_true rfl) dL_law_1711 (fun H hO hPc hPr => ?_)
  refine lv_icmp_eq (tgt := 1745) hx hb dL_law_1714 (by decide) (fun _ => ?_) (fun c => absurd rfl c)
  exact kk H mc1 mr1 ⟨hO, hPc, hPr, hRR⟩
theorem lc_49 (X : LX D cA st p s m c b L xs) (hL : L ≤ 2560) (hi : i + 5 ≤ L) (hl : lv_has ls 4 (lvL s st b i)) (h : LSt D cA s st mc mr H) (kk : LEnd p l e s m below meth c b D cA st ls Q) : W p l e room_1 s m #[Value.ref b] below meth c H [] 188 6654 Q (F0 m 1719 ls []) := by
  have hx := X.1
  have hb := X.2.1
  have hown := X.2.2.2.1
  have hts := X.2.2.2.2.1
  obtain ⟨hO, hPc, hPr, hRR⟩ := h
  obtain ⟨r, mc1, mr1, e1, e2, hRR⟩ := op_keep  mc mr hRR
  refine lv_aload_n hx hb dL_law_1719 rfl (lv_at hl 2 rfl) ?_
  refine l_C (As := []) (rest := []) X hO hPc hPr (tX11_keep aC_inj e1) wt_5_153 wt_5_154 wt_5_155 wt_5_156 rfl hy_X11_keep ⟨rfl, rfl⟩ ⟨(Nat.le_of_ble_eq_true rfl), (Nat.le_of_ble_eq_true rfl)⟩ rfl hl.1 rfl (Nat.le_of_ble_eq_true rfl) dL_law_1720 (fun H hO hPc hPr => ?_)
  refine lv_aload_n hx hb dL_law_1723 rfl (lv_at hl 1 rfl) ?_
  refine l_R (As := []) (rest := [.int r]) X hO hPc hPr (tX12_keep aR_inj e2) wt_8_61 wt_8_62 wt_8_63 wt_8_64 rfl hy_X12_keep ⟨rfl, rfl⟩ ⟨(Nat.le_of_ble_eq_true rfl), (Nat.le_of_ble_eq_true rfl)⟩ rfl hl.1 rfl (Nat.le_of_ble_eq_true rfl) dL_law_1724 (fun H hO hPc hPr => ?_)
  refine lv_icmp_eq (tgt := 1745) hx hb dL_law_1727 (by decide) (fun _ => ?_) (fun c => absurd rfl c)
  exact kk H mc1 mr1 ⟨hO, hPc, hPr, hRR⟩
theorem lc_50 (X : LX D cA st p s m c b L xs) (hL : L ≤ 2560) (hi : i + 5 ≤ L) (hl : lv_has ls 4 (lvL s st b i)) (h : LSt D cA s st mc mr H) (kk : LEnd p l e s m below meth c b D cA st ls Q) : W p l e room_1 s m #[Value.ref b] below meth c H [] 188 6654 Q (F0 m 1732 ls []) := by
  have hx := X.1
  have hb := X.2.1
  have hown := X.2.2.2.1
  have hts := X.2.2.2.2.1
  obtain ⟨hO, hPc, hPr, hRR⟩ := h
  obtain ⟨r, mc1, mr1, e1, e2, hRR⟩ := op_again  mc mr hRR
  refine lv_aload_n hx hb dL_law_1732 rfl (lv_at hl 2 rfl) ?_
  refine l_C (As := []) (rest := []) X hO hPc hPr (tX11_again aC_inj e1) wt_5_162 wt_5_163 wt_5_164 wt_5_165 rfl hy_X11_again ⟨rfl, rfl⟩ ⟨(Nat.le_of_ble_eq_true rfl), (Nat.le_of_ble_eq_true rfl)⟩ rfl hl.1 rfl (Nat.le_of_ble_eq_true rfl) dL_law_1733 (fun H hO hPc hPr => ?_)
  refine lv_aload_n hx hb dL_law_1736 rfl (lv_at hl 1 rfl) ?_
  refine l_R (As := []) (rest := [.int r]) X hO hPc hPr (tX12_again aR_inj e2) wt_8_65 wt_8_66 wt_8_67 wt_8_68 rfl hy_X12_again ⟨rfl, rfl⟩ ⟨(Nat.le_of_ble_eq_true rfl), (Nat.le_of_ble_eq_true rfl)⟩ rfl hl.1 rfl (Nat.le_of_ble_eq_true rfl) dL_law_1737 (fun H hO hPc hPr => ?_)
  refine lv_icmp_eq (tgt := 1745) hx hb dL_law_1740 (by decide) (fun _ => ?_) (fun c => absurd rfl c)
  exact kk H mc1 mr1 ⟨hO, hPc, hPr, hRR⟩
theorem law_sw (X : LX D cA st p s m c b L xs) (hL : L ≤ 2560) (hi : i + 5 ≤ L) (hl : lv_has ls 4 (lvL s st b i)) (h : LSt D cA s st mc mr H) (kk : LEnd p l e s m below meth c b D cA st ls Q) (v : Int32) (hv : 0 ≤ v.toInt ∧ v.toInt ≤ 63) : W p l e room_1 s m #[Value.ref b] below meth c H [] 188 6654 Q (F0 m 32 ls [.int v]) := by
  have hx := X.1
  have hb := X.2.1
  by_cases hd : 50 < v.toInt
  · exact lv_tableOut (tgt := 1745) hx hb dL_law_32 (Or.inr hd) (by decide) (kk H mc mr h)
  have h0 : ¬ v.toInt < 0 := by omega
  rcases (show v.toInt = 0 ∨ v.toInt = 1 ∨ v.toInt = 2 ∨ v.toInt = 3 ∨ v.toInt = 4 ∨ v.toInt = 5 ∨ v.toInt = 6 ∨ v.toInt = 7 ∨ v.toInt = 8 ∨ v.toInt = 9 ∨ v.toInt = 10 ∨ v.toInt = 11 ∨ v.toInt = 12 ∨ v.toInt = 13 ∨ v.toInt = 14 ∨ v.toInt = 15 ∨ v.toInt = 16 ∨ v.toInt = 17 ∨ v.toInt = 18 ∨ v.toInt = 19 ∨ v.toInt = 20 ∨ v.toInt = 21 ∨ v.toInt = 22 ∨ v.toInt = 23 ∨ v.toInt = 24 ∨ v.toInt = 25 ∨ v.toInt = 26 ∨ v.toInt = 27 ∨ v.toInt = 28 ∨ v.toInt = 29 ∨ v.toInt = 30 ∨ v.toInt = 31 ∨ v.toInt = 32 ∨ v.toInt = 33 ∨ v.toInt = 34 ∨ v.toInt = 35 ∨ v.toInt = 36 ∨ v.toInt = 37 ∨ v.toInt = 38 ∨ v.toInt = 39 ∨ v.toInt = 40 ∨ v.toInt = 41 ∨ v.toInt = 42 ∨ v.toInt = 43 ∨ v.toInt = 44 ∨ v.toInt = 45 ∨ v.toInt = 46 ∨ v.toInt = 47 ∨ v.toInt = 48 ∨ v.toInt = 49 ∨ v.toInt = 50 by omega) with hk | hk | hk | hk | hk | hk | hk | hk | hk | hk | hk | hk | hk | hk | hk | hk | hk | hk | hk | hk | hk | hk | hk | hk | hk | hk | hk | hk | hk | hk | hk | hk | hk | hk | hk | hk | hk | hk | hk | hk | hk | hk | hk | hk | hk | hk | hk | hk | hk | hk | hk
  · exact lv_tableIn (tgt := 252) hx hb dL_law_32 h0 hd (by rw [hk]; rfl) (by decide) (lc_0 X hL hi hl h kk)
  · exact lv_tableIn (tgt := 305) hx hb dL_law_32 h0 hd (by rw [hk]; rfl) (by decide) (lc_1 X hL hi hl h kk)
  · exact lv_tableIn (tgt := 338) hx hb dL_law_32 h0 hd (by rw [hk]; rfl) (by decide) (lc_2 X hL hi hl h kk)
  · exact lv_tableIn (tgt := 381) hx hb dL_law_32 h0 hd (by rw [hk]; rfl) (by decide) (lc_3 X hL hi hl h kk)
  · exact lv_tableIn (tgt := 414) hx hb dL_law_32 h0 hd (by rw [hk]; rfl) (by decide) (lc_4 X hL hi hl h kk)
  · exact lv_tableIn (tgt := 457) hx hb dL_law_32 h0 hd (by rw [hk]; rfl) (by decide) (lc_5 X hL hi hl h kk)
  · exact lv_tableIn (tgt := 490) hx hb dL_law_32 h0 hd (by rw [hk]; rfl) (by decide) (lc_6 X hL hi hl h kk)
  · exact lv_tableIn (tgt := 523) hx hb dL_law_32 h0 hd (by rw [hk]; rfl) (by decide) (lc_7 X hL hi hl h kk)
  · exact lv_tableIn (tgt := 546) hx hb dL_law_32 h0 hd (by rw [hk]; rfl) (by decide) (lc_8 X hL hi hl h kk)
  · exact lv_tableIn (tgt := 559) hx hb dL_law_32 h0 hd (by rw [hk]; rfl) (by decide) (lc_9 X hL hi hl h kk)
  · exact lv_tableIn (tgt := 582) hx hb dL_law_32 h0 hd (by rw [hk]; rfl) (by decide) (lc_10 X hL hi hl h kk)
  · exact lv_tableIn (tgt := 645) hx hb dL_law_32 h0 hd (by rw [hk]; rfl) (by decide) (lc_11 X hL hi hl h kk)
  · exact lv_tableIn (tgt := 658) hx hb dL_law_32 h0 hd (by rw [hk]; rfl) (by decide) (lc_12 X hL hi hl h kk)
  · exact lv_tableIn (tgt := 671) hx hb dL_law_32 h0 hd (by rw [hk]; rfl) (by decide) (lc_13 X hL hi hl h kk)
  · exact lv_tableIn (tgt := 694) hx hb dL_law_32 h0 hd (by rw [hk]; rfl) (by decide) (lc_14 X hL hi hl h kk)
  · exact lv_tableIn (tgt := 717) hx hb dL_law_32 h0 hd (by rw [hk]; rfl) (by decide) (lc_15 X hL hi hl h kk)
  · exact lv_tableIn (tgt := 740) hx hb dL_law_32 h0 hd (by rw [hk]; rfl) (by decide) (lc_16 X hL hi hl h kk)
  · exact lv_tableIn (tgt := 763) hx hb dL_law_32 h0 hd (by rw [hk]; rfl) (by decide) (lc_17 X hL hi hl h kk)
  · exact lv_tableIn (tgt := 786) hx hb dL_law_32 h0 hd (by rw [hk]; rfl) (by decide) (lc_18 X hL hi hl h kk)
  · exact lv_tableIn (tgt := 819) hx hb dL_law_32 h0 hd (by rw [hk]; rfl) (by decide) (lc_19 X hL hi hl h kk)
  · exact lv_tableIn (tgt := 852) hx hb dL_law_32 h0 hd (by rw [hk]; rfl) (by decide) (lc_20 X hL hi hl h kk)
  · exact lv_tableIn (tgt := 875) hx hb dL_law_32 h0 hd (by rw [hk]; rfl) (by decide) (lc_21 X hL hi hl h kk)
  · exact lv_tableIn (tgt := 898) hx hb dL_law_32 h0 hd (by rw [hk]; rfl) (by decide) (lc_22 X hL hi hl h kk)
  · exact lv_tableIn (tgt := 931) hx hb dL_law_32 h0 hd (by rw [hk]; rfl) (by decide) (lc_23 X hL hi hl h kk)
  · exact lv_tableIn (tgt := 954) hx hb dL_law_32 h0 hd (by rw [hk]; rfl) (by decide) (lc_24 X hL hi hl h kk)
  · exact lv_tableIn (tgt := 987) hx hb dL_law_32 h0 hd (by rw [hk]; rfl) (by decide) (lc_25 X hL hi hl h kk)
  · exact lv_tableIn (tgt := 1020) hx hb dL_law_32 h0 hd (by rw [hk]; rfl) (by decide) (lc_26 X hL hi hl h kk)
  · exact lv_tableIn (tgt := 1043) hx hb dL_law_32 h0 hd (by rw [hk]; rfl) (by decide) (lc_27 X hL hi hl h kk)
  · exact lv_tableIn (tgt := 1066) hx hb dL_law_32 h0 hd (by rw [hk]; rfl) (by decide) (lc_28 X hL hi hl h kk)
  · exact lv_tableIn (tgt := 1109) hx hb dL_law_32 h0 hd (by rw [hk]; rfl) (by decide) (lc_29 X hL hi hl h kk)
  · exact lv_tableIn (tgt := 1122) hx hb dL_law_32 h0 hd (by rw [hk]; rfl) (by decide) (lc_30 X hL hi hl h kk)
  · exact lv_tableIn (tgt := 1145) hx hb dL_law_32 h0 hd (by rw [hk]; rfl) (by decide) (lc_31 X hL hi hl h kk)
  · exact lv_tableIn (tgt := 1158) hx hb dL_law_32 h0 hd (by rw [hk]; rfl) (by decide) (lc_32 X hL hi hl h kk)
  · exact lv_tableIn (tgt := 1181) hx hb dL_law_32 h0 hd (by rw [hk]; rfl) (by decide) (lc_33 X hL hi hl h kk)
  · exact lv_tableIn (tgt := 1194) hx hb dL_law_32 h0 hd (by rw [hk]; rfl) (by decide) (lc_34 X hL hi hl h kk)
  · exact lv_tableIn (tgt := 1227) hx hb dL_law_32 h0 hd (by rw [hk]; rfl) (by decide) (lc_35 X hL hi hl h kk)
  · exact lv_tableIn (tgt := 1250) hx hb dL_law_32 h0 hd (by rw [hk]; rfl) (by decide) (lc_36 X hL hi hl h kk)
  · exact lv_tableIn (tgt := 1283) hx hb dL_law_32 h0 hd (by rw [hk]; rfl) (by decide) (lc_37 X hL hi hl h kk)
  · exact lv_tableIn (tgt := 1326) hx hb dL_law_32 h0 hd (by rw [hk]; rfl) (by decide) (lc_38 X hL hi hl h kk)
  · exact lv_tableIn (tgt := 1339) hx hb dL_law_32 h0 hd (by rw [hk]; rfl) (by decide) (lc_39 X hL hi hl h kk)
  · exact lv_tableIn (tgt := 1382) hx hb dL_law_32 h0 hd (by rw [hk]; rfl) (by decide) (lc_40 X hL hi hl h kk)
  · exact lv_tableIn (tgt := 1425) hx hb dL_law_32 h0 hd (by rw [hk]; rfl) (by decide) (lc_41 X hL hi hl h kk)
  · exact lv_tableIn (tgt := 1468) hx hb dL_law_32 h0 hd (by rw [hk]; rfl) (by decide) (lc_42 X hL hi hl h kk)
  · exact lv_tableIn (tgt := 1511) hx hb dL_law_32 h0 hd (by rw [hk]; rfl) (by decide) (lc_43 X hL hi hl h kk)
  · exact lv_tableIn (tgt := 1554) hx hb dL_law_32 h0 hd (by rw [hk]; rfl) (by decide) (lc_44 X hL hi hl h kk)
  · exact lv_tableIn (tgt := 1597) hx hb dL_law_32 h0 hd (by rw [hk]; rfl) (by decide) (lc_45 X hL hi hl h kk)
  · exact lv_tableIn (tgt := 1630) hx hb dL_law_32 h0 hd (by rw [hk]; rfl) (by decide) (lc_46 X hL hi hl h kk)
  · exact lv_tableIn (tgt := 1673) hx hb dL_law_32 h0 hd (by rw [hk]; rfl) (by decide) (lc_47 X hL hi hl h kk)
  · exact lv_tableIn (tgt := 1696) hx hb dL_law_32 h0 hd (by rw [hk]; rfl) (by decide) (lc_48 X hL hi hl h kk)
  · exact lv_tableIn (tgt := 1719) hx hb dL_law_32 h0 hd (by rw [hk]; rfl) (by decide) (lc_49 X hL hi hl h kk)
  · exact lv_tableIn (tgt := 1732) hx hb dL_law_32 h0 hd (by rw [hk]; rfl) (by decide) (lc_50 X hL hi hl h kk)
end LCASES
