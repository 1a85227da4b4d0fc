/-! ===== the law, cases 0 to 23 ===== -/
section LAW0
variable {p : Program} {l : Launch} {e : Env} {s : State} {m : MethodId} {below : List Frame} {meth : Method} {c : Code} {H : Heap} {locs : List Loc} {Q : State → Prop}
variable {ls : Array Slot} {g : xG} {u : xM} {b L : Nat} {xs : Nat → Int32} {ad : Nat → Nat} {q0 q1 i : Nat}
set_option maxHeartbeats 4000000 in
set_option maxRecDepth 100000 in
theorem lw_0 (X : L_C p s m meth c g b L xs) (hw : y_W g (lwA s) [] ad KA u s.heap H locs) (I : INV u) (hq0 : ad 0 = q0) (hq1 : ad 272 = q1) (hl : lv_has ls 4 (lwL b q0 q1 i)) (hi : i + 6 ≤ L) (kk : ∀ (u' : xM) (H' : Heap) (locs' : List Loc), y_W g (lwA s) [] ad KA u' s.heap H' locs' → INV u' → W p l e room_1 s m #[Value.ref b] below meth c H' locs' 290 15295 Q (F0 m 2206 ls [])) : W p l e room_1 s m #[Value.ref b] below meth c H locs 290 15295 Q (F0 m 332 ls []) := by
  have hx := X.1.1.1
  have hb := X.1.1.2.1
  have hown := X.1.1.2.2.2.1
  have hts := X.1.1.2.2.2.2.1
  refine lv_aload_n hx hb dL_law_332 rfl (lv_at hl 1 rfl) ?_
  refine y_calli hw (y_runV (ci := 10) X.1 hw (m_X10_status l (y_xD KA_nd hw.2.1) KA_x (K_status I)) k_X (KA_x 0 (by decide)) hq0 rfl (x_gV xw_245 xw_246 xw_247 xw_2 xw_248) rfl rfl qX10_status ⟨Nat.le_of_ble_eq_true rfl, Nat.le_of_ble_eq_true rfl⟩ rfl hl.1 rfl (Nat.le_of_ble_eq_true rfl) dL_law_333 ⟨Nat.le_of_ble_eq_true rfl, Nat.le_of_ble_eq_true rfl⟩) (fun r1 u1 H locs hw h1 => ?_)
  refine lv_aload_n hx hb dL_law_336 rfl (lv_at hl 2 rfl) ?_
  refine y_calli hw (y_runV (ci := 11) X.1 hw (m_X11_status l (y_xD KA_nd hw.2.1) KA_m h1) k_M (KA_m 272 (by decide) (by decide)) hq1 rfl (x_gV xw_249 xw_250 xw_251 xw_5 xw_252) rfl rfl qX11_status ⟨Nat.le_of_ble_eq_true rfl, Nat.le_of_ble_eq_true rfl⟩ rfl hl.1 rfl (Nat.le_of_ble_eq_true rfl) dL_law_337 ⟨Nat.le_of_ble_eq_true rfl, Nat.le_of_ble_eq_true rfl⟩) (fun r2 u2 H locs hw h2 => ?_)
  exact lv_icmp_eq (tgt := 2206) hx hb dL_law_340 (by decide) (fun _ => kk _ _ _ hw h2.2) (fun z => absurd h2.1 z)
set_option maxHeartbeats 4000000 in
set_option maxRecDepth 100000 in
theorem lw_1 (X : L_C p s m meth c g b L xs) (hw : y_W g (lwA s) [] ad KA u s.heap H locs) (I : INV u) (hq0 : ad 0 = q0) (hq1 : ad 272 = q1) (hl : lv_has ls 4 (lwL b q0 q1 i)) (hi : i + 6 ≤ L) (kk : ∀ (u' : xM) (H' : Heap) (locs' : List Loc), y_W g (lwA s) [] ad KA u' s.heap H' locs' → INV u' → W p l e room_1 s m #[Value.ref b] below meth c H' locs' 290 15295 Q (F0 m 2206 ls [])) : W p l e room_1 s m #[Value.ref b] below meth c H locs 290 15295 Q (F0 m 345 ls []) := by
  have hx := X.1.1.1
  have hb := X.1.1.2.1
  have hown := X.1.1.2.2.2.1
  have hts := X.1.1.2.2.2.2.1
  refine lv_aload_n hx hb dL_law_345 rfl (lv_at hl 1 rfl) ?_
  refine y_calll hw (y_runV (ci := 10) X.1 hw (m_X10_top l (y_xD KA_nd hw.2.1) KA_x (K_top I)) k_X (KA_x 0 (by decide)) hq0 rfl (x_gV xw_254 xw_255 xw_256 xw_2 xw_257) rfl rfl qX10_top ⟨Nat.le_of_ble_eq_true rfl, Nat.le_of_ble_eq_true rfl⟩ rfl hl.1 rfl (Nat.le_of_ble_eq_true rfl) dL_law_346 ⟨Nat.le_of_ble_eq_true rfl, Nat.le_of_ble_eq_true rfl⟩) (fun r1 u1 H locs hw h1 => ?_)
  refine lv_aload_n hx hb dL_law_349 rfl (lv_at hl 2 rfl) ?_
  refine y_calll hw (y_runV (ci := 11) X.1 hw (m_X11_top l (y_xD KA_nd hw.2.1) KA_m h1) k_M (KA_m 272 (by decide) (by decide)) hq1 rfl (x_gV xw_259 xw_260 xw_261 xw_5 xw_262) rfl rfl qX11_top ⟨Nat.le_of_ble_eq_true rfl, Nat.le_of_ble_eq_true rfl⟩ rfl hl.1 rfl (Nat.le_of_ble_eq_true rfl) dL_law_350 ⟨Nat.le_of_ble_eq_true rfl, Nat.le_of_ble_eq_true rfl⟩) (fun r2 u2 H locs hw h2 => ?_)
  refine W.lcmp hx hb dL_law_353 ?_
  exact lv_if_eq (tgt := 2206) hx hb dL_law_354 (by decide) (fun _ => kk _ _ _ hw h2.2) (fun z => absurd (by rw [h2.1]; exact lg_self _) z)
set_option maxHeartbeats 4000000 in
set_option maxRecDepth 100000 in
theorem lw_2 (X : L_C p s m meth c g b L xs) (hw : y_W g (lwA s) [] ad KA u s.heap H locs) (I : INV u) (hq0 : ad 0 = q0) (hq1 : ad 272 = q1) (hl : lv_has ls 4 (lwL b q0 q1 i)) (hi : i + 6 ≤ L) (kk : ∀ (u' : xM) (H' : Heap) (locs' : List Loc), y_W g (lwA s) [] ad KA u' s.heap H' locs' → INV u' → W p l e room_1 s m #[Value.ref b] below meth c H' locs' 290 15295 Q (F0 m 2206 ls [])) : W p l e room_1 s m #[Value.ref b] below meth c H locs 290 15295 Q (F0 m 359 ls []) := by
  have hx := X.1.1.1
  have hb := X.1.1.2.1
  have hown := X.1.1.2.2.2.1
  have hts := X.1.1.2.2.2.2.1
  refine lv_aload_n hx hb dL_law_359 rfl (lv_at hl 1 rfl) ?_
  refine y_calll hw (y_runV (ci := 10) X.1 hw (m_X10_bottom l (y_xD KA_nd hw.2.1) KA_x (K_bottom I)) k_X (KA_x 0 (by decide)) hq0 rfl (x_gV xw_264 xw_265 xw_266 xw_2 xw_267) rfl rfl qX10_bottom ⟨Nat.le_of_ble_eq_true rfl, Nat.le_of_ble_eq_true rfl⟩ rfl hl.1 rfl (Nat.le_of_ble_eq_true rfl) dL_law_360 ⟨Nat.le_of_ble_eq_true rfl, Nat.le_of_ble_eq_true rfl⟩) (fun r1 u1 H locs hw h1 => ?_)
  refine lv_aload_n hx hb dL_law_363 rfl (lv_at hl 2 rfl) ?_
  refine y_calll hw (y_runV (ci := 11) X.1 hw (m_X11_bottom l (y_xD KA_nd hw.2.1) KA_m h1) k_M (KA_m 272 (by decide) (by decide)) hq1 rfl (x_gV xw_268 xw_269 xw_270 xw_5 xw_271) rfl rfl qX11_bottom ⟨Nat.le_of_ble_eq_true rfl, Nat.le_of_ble_eq_true rfl⟩ rfl hl.1 rfl (Nat.le_of_ble_eq_true rfl) dL_law_364 ⟨Nat.le_of_ble_eq_true rfl, Nat.le_of_ble_eq_true rfl⟩) (fun r2 u2 H locs hw h2 => ?_)
  refine W.lcmp hx hb dL_law_367 ?_
  exact lv_if_eq (tgt := 2206) hx hb dL_law_368 (by decide) (fun _ => kk _ _ _ hw h2.2) (fun z => absurd (by rw [h2.1]; exact lg_self _) z)
set_option maxHeartbeats 4000000 in
set_option maxRecDepth 100000 in
theorem lw_3 (X : L_C p s m meth c g b L xs) (hw : y_W g (lwA s) [] ad KA u s.heap H locs) (I : INV u) (hq0 : ad 0 = q0) (hq1 : ad 272 = q1) (hl : lv_has ls 4 (lwL b q0 q1 i)) (hi : i + 6 ≤ L) (kk : ∀ (u' : xM) (H' : Heap) (locs' : List Loc), y_W g (lwA s) [] ad KA u' s.heap H' locs' → INV u' → W p l e room_1 s m #[Value.ref b] below meth c H' locs' 290 15295 Q (F0 m 2206 ls [])) : W p l e room_1 s m #[Value.ref b] below meth c H locs 290 15295 Q (F0 m 373 ls []) := by
  have hx := X.1.1.1
  have hb := X.1.1.2.1
  have hown := X.1.1.2.2.2.1
  have hts := X.1.1.2.2.2.2.1
  refine lv_aload_n hx hb dL_law_373 rfl (lv_at hl 1 rfl) ?_
  refine L_arg X hw.2.2 hl 1 (by omega) (by decide) dL_law_374 dL_law_375 dL_law_376 dL_law_377 dL_law_378 ?_
  refine L_arg X hw.2.2 hl 2 (by omega) (by decide) dL_law_379 dL_law_380 dL_law_381 dL_law_382 dL_law_383 ?_
  refine L_arg X hw.2.2 hl 3 (by omega) (by decide) dL_law_384 dL_law_385 dL_law_386 dL_law_387 dL_law_388 ?_
  refine y_callz hw (y_runV (ci := 10) X.1 hw (m_X10_tray l (y_xD KA_nd hw.2.1) KA_x (K_tray I (xs (i + 1)) (xs (i + 2)) (xs (i + 3)))) k_X (KA_x 0 (by decide)) hq0 rfl (x_gV xw_272 xw_273 xw_274 xw_2 xw_275) rfl rfl qX10_tray ⟨Nat.le_of_ble_eq_true rfl, Nat.le_of_ble_eq_true rfl⟩ rfl hl.1 rfl (Nat.le_of_ble_eq_true rfl) dL_law_389 ⟨Nat.le_of_ble_eq_true rfl, Nat.le_of_ble_eq_true rfl⟩) (fun r1 u1 H locs hw h1 => ?_)
  refine lv_aload_n hx hb dL_law_392 rfl (lv_at hl 2 rfl) ?_
  refine L_arg X hw.2.2 hl 1 (by omega) (by decide) dL_law_393 dL_law_394 dL_law_395 dL_law_396 dL_law_397 ?_
  refine L_arg X hw.2.2 hl 2 (by omega) (by decide) dL_law_398 dL_law_399 dL_law_400 dL_law_401 dL_law_402 ?_
  refine L_arg X hw.2.2 hl 3 (by omega) (by decide) dL_law_403 dL_law_404 dL_law_405 dL_law_406 dL_law_407 ?_
  refine y_callz hw (y_runV (ci := 11) X.1 hw (m_X11_tray l (y_xD KA_nd hw.2.1) KA_m h1) k_M (KA_m 272 (by decide) (by decide)) hq1 rfl (x_gV xw_296 xw_297 xw_298 xw_5 xw_299) rfl rfl qX11_tray ⟨Nat.le_of_ble_eq_true rfl, Nat.le_of_ble_eq_true rfl⟩ rfl hl.1 rfl (Nat.le_of_ble_eq_true rfl) dL_law_408 ⟨Nat.le_of_ble_eq_true rfl, Nat.le_of_ble_eq_true rfl⟩) (fun r2 u2 H locs hw h2 => ?_)
  exact lv_icmp_eq (tgt := 2206) hx hb dL_law_411 (by decide) (fun _ => kk _ _ _ hw h2.2) (fun z => absurd (by rw [h2.1]) z)
set_option maxHeartbeats 4000000 in
set_option maxRecDepth 100000 in
theorem lw_4 (X : L_C p s m meth c g b L xs) (hw : y_W g (lwA s) [] ad KA u s.heap H locs) (I : INV u) (hq0 : ad 0 = q0) (hq1 : ad 272 = q1) (hl : lv_has ls 4 (lwL b q0 q1 i)) (hi : i + 6 ≤ L) (kk : ∀ (u' : xM) (H' : Heap) (locs' : List Loc), y_W g (lwA s) [] ad KA u' s.heap H' locs' → INV u' → W p l e room_1 s m #[Value.ref b] below meth c H' locs' 290 15295 Q (F0 m 2206 ls [])) : W p l e room_1 s m #[Value.ref b] below meth c H locs 290 15295 Q (F0 m 416 ls []) := by
  have hx := X.1.1.1
  have hb := X.1.1.2.1
  have hown := X.1.1.2.2.2.1
  have hts := X.1.1.2.2.2.2.1
  refine lv_aload_n hx hb dL_law_416 rfl (lv_at hl 1 rfl) ?_
  refine L_arg X hw.2.2 hl 1 (by omega) (by decide) dL_law_417 dL_law_418 dL_law_419 dL_law_420 dL_law_421 ?_
  refine L_arg X hw.2.2 hl 2 (by omega) (by decide) dL_law_422 dL_law_423 dL_law_424 dL_law_425 dL_law_426 ?_
  refine L_arg X hw.2.2 hl 3 (by omega) (by decide) dL_law_427 dL_law_428 dL_law_429 dL_law_430 dL_law_431 ?_
  refine lv_i2l hx hb dL_law_432 rfl ?_
  refine lv_bipush (v := 32) hx hb dL_law_433 (by decide) ?_
  refine lv_lshl hx hb dL_law_435 rfl ?_
  refine L_arg X hw.2.2 hl 4 (by omega) (by decide) dL_law_436 dL_law_437 dL_law_438 dL_law_439 dL_law_440 ?_
  refine lv_i2l hx hb dL_law_441 rfl ?_
  refine lv_ldc2 hx hb hown (hts _ xw_6) dL_law_442 ?_
  refine lv_land hx hb dL_law_445 ?_
  refine lv_lor hx hb dL_law_446 ?_
  refine y_callz hw (y_runV (ci := 10) X.1 hw (m_X10_write l (y_xD KA_nd hw.2.1) KA_x (K_write I (xs (i + 1)) (xs (i + 2)) (((xs (i + 3)).toInt64 <<< ((32 : Int32).toInt64 &&& 63)) ||| ((xs (i + 4)).toInt64 &&& 4294967295)))) k_X (KA_x 0 (by decide)) hq0 rfl (x_gV xw_307 xw_308 xw_309 xw_2 xw_310) rfl rfl qX10_write ⟨Nat.le_of_ble_eq_true rfl, Nat.le_of_ble_eq_true rfl⟩ rfl hl.1 rfl (Nat.le_of_ble_eq_true rfl) dL_law_447 ⟨Nat.le_of_ble_eq_true rfl, Nat.le_of_ble_eq_true rfl⟩) (fun r1 u1 H locs hw h1 => ?_)
  refine lv_aload_n hx hb dL_law_450 rfl (lv_at hl 2 rfl) ?_
  refine L_arg X hw.2.2 hl 1 (by omega) (by decide) dL_law_451 dL_law_452 dL_law_453 dL_law_454 dL_law_455 ?_
  refine L_arg X hw.2.2 hl 2 (by omega) (by decide) dL_law_456 dL_law_457 dL_law_458 dL_law_459 dL_law_460 ?_
  refine L_arg X hw.2.2 hl 3 (by omega) (by decide) dL_law_461 dL_law_462 dL_law_463 dL_law_464 dL_law_465 ?_
  refine lv_i2l hx hb dL_law_466 rfl ?_
  refine lv_bipush (v := 32) hx hb dL_law_467 (by decide) ?_
  refine lv_lshl hx hb dL_law_469 rfl ?_
  refine L_arg X hw.2.2 hl 4 (by omega) (by decide) dL_law_470 dL_law_471 dL_law_472 dL_law_473 dL_law_474 ?_
  refine lv_i2l hx hb dL_law_475 rfl ?_
  refine lv_ldc2 hx hb hown (hts _ xw_6) dL_law_476 ?_
  refine lv_land hx hb dL_law_479 ?_
  refine lv_lor hx hb dL_law_480 ?_
  refine y_callz hw (y_runV (ci := 11) X.1 hw (m_X11_write l (y_xD KA_nd hw.2.1) KA_m h1) k_M (KA_m 272 (by decide) (by decide)) hq1 rfl (x_gV xw_328 xw_329 xw_330 xw_5 xw_331) rfl rfl qX11_write ⟨Nat.le_of_ble_eq_true rfl, Nat.le_of_ble_eq_true rfl⟩ rfl hl.1 rfl (Nat.le_of_ble_eq_true rfl) dL_law_481 ⟨Nat.le_of_ble_eq_true rfl, Nat.le_of_ble_eq_true rfl⟩) (fun r2 u2 H locs hw h2 => ?_)
  exact lv_icmp_eq (tgt := 2206) hx hb dL_law_484 (by decide) (fun _ => kk _ _ _ hw h2.2) (fun z => absurd (by rw [h2.1]) z)
set_option maxHeartbeats 4000000 in
set_option maxRecDepth 100000 in
theorem lw_5 (X : L_C p s m meth c g b L xs) (hw : y_W g (lwA s) [] ad KA u s.heap H locs) (I : INV u) (hq0 : ad 0 = q0) (hq1 : ad 272 = q1) (hl : lv_has ls 4 (lwL b q0 q1 i)) (hi : i + 6 ≤ L) (kk : ∀ (u' : xM) (H' : Heap) (locs' : List Loc), y_W g (lwA s) [] ad KA u' s.heap H' locs' → INV u' → W p l e room_1 s m #[Value.ref b] below meth c H' locs' 290 15295 Q (F0 m 2206 ls [])) : W p l e room_1 s m #[Value.ref b] below meth c H locs 290 15295 Q (F0 m 489 ls []) := by
  have hx := X.1.1.1
  have hb := X.1.1.2.1
  have hown := X.1.1.2.2.2.1
  have hts := X.1.1.2.2.2.2.1
  refine lv_aload_n hx hb dL_law_489 rfl (lv_at hl 1 rfl) ?_
  refine L_arg X hw.2.2 hl 1 (by omega) (by decide) dL_law_490 dL_law_491 dL_law_492 dL_law_493 dL_law_494 ?_
  refine L_arg X hw.2.2 hl 2 (by omega) (by decide) dL_law_495 dL_law_496 dL_law_497 dL_law_498 dL_law_499 ?_
  refine y_calll hw (y_runV (ci := 10) X.1 hw (m_X10_read l (y_xD KA_nd hw.2.1) KA_x (K_read I (xs (i + 1)) (xs (i + 2)))) k_X (KA_x 0 (by decide)) hq0 rfl (x_gV xw_339 xw_340 xw_341 xw_2 xw_342) rfl rfl qX10_read ⟨Nat.le_of_ble_eq_true rfl, Nat.le_of_ble_eq_true rfl⟩ rfl hl.1 rfl (Nat.le_of_ble_eq_true rfl) dL_law_500 ⟨Nat.le_of_ble_eq_true rfl, Nat.le_of_ble_eq_true rfl⟩) (fun r1 u1 H locs hw h1 => ?_)
  refine lv_aload_n hx hb dL_law_503 rfl (lv_at hl 2 rfl) ?_
  refine L_arg X hw.2.2 hl 1 (by omega) (by decide) dL_law_504 dL_law_505 dL_law_506 dL_law_507 dL_law_508 ?_
  refine L_arg X hw.2.2 hl 2 (by omega) (by decide) dL_law_509 dL_law_510 dL_law_511 dL_law_512 dL_law_513 ?_
  refine y_calll hw (y_runV (ci := 11) X.1 hw (m_X11_read l (y_xD KA_nd hw.2.1) KA_m h1) k_M (KA_m 272 (by decide) (by decide)) hq1 rfl (x_gV xw_351 xw_352 xw_353 xw_5 xw_354) rfl rfl qX11_read ⟨Nat.le_of_ble_eq_true rfl, Nat.le_of_ble_eq_true rfl⟩ rfl hl.1 rfl (Nat.le_of_ble_eq_true rfl) dL_law_514 ⟨Nat.le_of_ble_eq_true rfl, Nat.le_of_ble_eq_true rfl⟩) (fun r2 u2 H locs hw h2 => ?_)
  refine W.lcmp hx hb dL_law_517 ?_
  exact lv_if_eq (tgt := 2206) hx hb dL_law_518 (by decide) (fun _ => kk _ _ _ hw h2.2) (fun z => absurd (by rw [h2.1]; exact lg_self _) z)
set_option maxHeartbeats 4000000 in
set_option maxRecDepth 100000 in
theorem lw_6 (X : L_C p s m meth c g b L xs) (hw : y_W g (lwA s) [] ad KA u s.heap H locs) (I : INV u) (hq0 : ad 0 = q0) (hq1 : ad 272 = q1) (hl : lv_has ls 4 (lwL b q0 q1 i)) (hi : i + 6 ≤ L) (kk : ∀ (u' : xM) (H' : Heap) (locs' : List Loc), y_W g (lwA s) [] ad KA u' s.heap H' locs' → INV u' → W p l e room_1 s m #[Value.ref b] below meth c H' locs' 290 15295 Q (F0 m 2206 ls [])) : W p l e room_1 s m #[Value.ref b] below meth c H locs 290 15295 Q (F0 m 523 ls []) := by
  have hx := X.1.1.1
  have hb := X.1.1.2.1
  have hown := X.1.1.2.2.2.1
  have hts := X.1.1.2.2.2.2.1
  refine lv_aload_n hx hb dL_law_523 rfl (lv_at hl 1 rfl) ?_
  refine L_arg X hw.2.2 hl 1 (by omega) (by decide) dL_law_524 dL_law_525 dL_law_526 dL_law_527 dL_law_528 ?_
  refine L_arg X hw.2.2 hl 2 (by omega) (by decide) dL_law_529 dL_law_530 dL_law_531 dL_law_532 dL_law_533 ?_
  refine L_arg X hw.2.2 hl 3 (by omega) (by decide) dL_law_534 dL_law_535 dL_law_536 dL_law_537 dL_law_538 ?_
  refine L_arg X hw.2.2 hl 4 (by omega) (by decide) dL_law_539 dL_law_540 dL_law_541 dL_law_542 dL_law_543 ?_
  refine L_arg X hw.2.2 hl 5 (by omega) (by decide) dL_law_544 dL_law_545 dL_law_546 dL_law_547 dL_law_548 ?_
  refine y_callz hw (y_runV (ci := 10) X.1 hw (m_X10_pour l (y_xD KA_nd hw.2.1) KA_x (K_pour I (xs (i + 1)) (xs (i + 2)) (xs (i + 3)) (xs (i + 4)) (xs (i + 5)))) k_X (KA_x 0 (by decide)) hq0 rfl (x_gV xw_356 xw_357 xw_358 xw_2 xw_359) rfl rfl qX10_pour ⟨Nat.le_of_ble_eq_true rfl, Nat.le_of_ble_eq_true rfl⟩ rfl hl.1 rfl (Nat.le_of_ble_eq_true rfl) dL_law_549 ⟨Nat.le_of_ble_eq_true rfl, Nat.le_of_ble_eq_true rfl⟩) (fun r1 u1 H locs hw h1 => ?_)
  refine lv_aload_n hx hb dL_law_552 rfl (lv_at hl 2 rfl) ?_
  refine L_arg X hw.2.2 hl 1 (by omega) (by decide) dL_law_553 dL_law_554 dL_law_555 dL_law_556 dL_law_557 ?_
  refine L_arg X hw.2.2 hl 2 (by omega) (by decide) dL_law_558 dL_law_559 dL_law_560 dL_law_561 dL_law_562 ?_
  refine L_arg X hw.2.2 hl 3 (by omega) (by decide) dL_law_563 dL_law_564 dL_law_565 dL_law_566 dL_law_567 ?_
  refine L_arg X hw.2.2 hl 4 (by omega) (by decide) dL_law_568 dL_law_569 dL_law_570 dL_law_571 dL_law_572 ?_
  refine L_arg X hw.2.2 hl 5 (by omega) (by decide) dL_law_573 dL_law_574 dL_law_575 dL_law_576 dL_law_577 ?_
  refine y_callz hw (y_runV (ci := 11) X.1 hw (m_X11_pour l (y_xD KA_nd hw.2.1) KA_m h1) k_M (KA_m 272 (by decide) (by decide)) hq1 rfl (x_gV xw_370 xw_371 xw_372 xw_5 xw_373) rfl rfl qX11_pour ⟨Nat.le_of_ble_eq_true rfl, Nat.le_of_ble_eq_true rfl⟩ rfl hl.1 rfl (Nat.le_of_ble_eq_true rfl) dL_law_578 ⟨Nat.le_of_ble_eq_true rfl, Nat.le_of_ble_eq_true rfl⟩) (fun r2 u2 H locs hw h2 => ?_)
  exact lv_icmp_eq (tgt := 2206) hx hb dL_law_581 (by decide) (fun _ => kk _ _ _ hw h2.2) (fun z => absurd (by rw [h2.1]) z)
set_option maxHeartbeats 4000000 in
set_option maxRecDepth 100000 in
theorem lw_7 (X : L_C p s m meth c g b L xs) (hw : y_W g (lwA s) [] ad KA u s.heap H locs) (I : INV u) (hq0 : ad 0 = q0) (hq1 : ad 272 = q1) (hl : lv_has ls 4 (lwL b q0 q1 i)) (hi : i + 6 ≤ L) (kk : ∀ (u' : xM) (H' : Heap) (locs' : List Loc), y_W g (lwA s) [] ad KA u' s.heap H' locs' → INV u' → W p l e room_1 s m #[Value.ref b] below meth c H' locs' 290 15295 Q (F0 m 2206 ls [])) : W p l e room_1 s m #[Value.ref b] below meth c H locs 290 15295 Q (F0 m 586 ls []) := by
  have hx := X.1.1.1
  have hb := X.1.1.2.1
  have hown := X.1.1.2.2.2.1
  have hts := X.1.1.2.2.2.2.1
  refine lv_aload_n hx hb dL_law_586 rfl (lv_at hl 1 rfl) ?_
  refine L_arg X hw.2.2 hl 1 (by omega) (by decide) dL_law_587 dL_law_588 dL_law_589 dL_law_590 dL_law_591 ?_
  refine L_arg X hw.2.2 hl 2 (by omega) (by decide) dL_law_592 dL_law_593 dL_law_594 dL_law_595 dL_law_596 ?_
  refine L_arg X hw.2.2 hl 3 (by omega) (by decide) dL_law_597 dL_law_598 dL_law_599 dL_law_600 dL_law_601 ?_
  refine L_arg X hw.2.2 hl 4 (by omega) (by decide) dL_law_602 dL_law_603 dL_law_604 dL_law_605 dL_law_606 ?_
  refine L_arg X hw.2.2 hl 5 (by omega) (by decide) dL_law_607 dL_law_608 dL_law_609 dL_law_610 dL_law_611 ?_
  refine y_calli hw (y_runV (ci := 10) X.1 hw (m_X10_feed l (y_xD KA_nd hw.2.1) KA_x (K_feed I (xs (i + 1)) (xs (i + 2)) (xs (i + 3)) (xs (i + 4)) (xs (i + 5)))) k_X (KA_x 0 (by decide)) hq0 rfl (x_gV xw_374 xw_375 xw_376 xw_2 xw_377) rfl rfl qX10_feed ⟨Nat.le_of_ble_eq_true rfl, Nat.le_of_ble_eq_true rfl⟩ rfl hl.1 rfl (Nat.le_of_ble_eq_true rfl) dL_law_612 ⟨Nat.le_of_ble_eq_true rfl, Nat.le_of_ble_eq_true rfl⟩) (fun r1 u1 H locs hw h1 => ?_)
  refine lv_aload_n hx hb dL_law_615 rfl (lv_at hl 2 rfl) ?_
  refine L_arg X hw.2.2 hl 1 (by omega) (by decide) dL_law_616 dL_law_617 dL_law_618 dL_law_619 dL_law_620 ?_
  refine L_arg X hw.2.2 hl 2 (by omega) (by decide) dL_law_621 dL_law_622 dL_law_623 dL_law_624 dL_law_625 ?_
  refine L_arg X hw.2.2 hl 3 (by omega) (by decide) dL_law_626 dL_law_627 dL_law_628 dL_law_629 dL_law_630 ?_
  refine L_arg X hw.2.2 hl 4 (by omega) (by decide) dL_law_631 dL_law_632 dL_law_633 dL_law_634 dL_law_635 ?_
  refine L_arg X hw.2.2 hl 5 (by omega) (by decide) dL_law_636 dL_law_637 dL_law_638 dL_law_639 dL_law_640 ?_
  refine y_calli hw (y_runV (ci := 11) X.1 hw (m_X11_feed l (y_xD KA_nd hw.2.1) KA_m h1) k_M (KA_m 272 (by decide) (by decide)) hq1 rfl (x_gV xw_383 xw_384 xw_385 xw_5 xw_386) rfl rfl qX11_feed ⟨Nat.le_of_ble_eq_true rfl, Nat.le_of_ble_eq_true rfl⟩ rfl hl.1 rfl (Nat.le_of_ble_eq_true rfl) dL_law_641 ⟨Nat.le_of_ble_eq_true rfl, Nat.le_of_ble_eq_true rfl⟩) (fun r2 u2 H locs hw h2 => ?_)
  exact lv_icmp_eq (tgt := 2206) hx hb dL_law_644 (by decide) (fun _ => kk _ _ _ hw h2.2) (fun z => absurd h2.1 z)
set_option maxHeartbeats 4000000 in
set_option maxRecDepth 100000 in
theorem lw_8 (X : L_C p s m meth c g b L xs) (hw : y_W g (lwA s) [] ad KA u s.heap H locs) (I : INV u) (hq0 : ad 0 = q0) (hq1 : ad 272 = q1) (hl : lv_has ls 4 (lwL b q0 q1 i)) (hi : i + 6 ≤ L) (kk : ∀ (u' : xM) (H' : Heap) (locs' : List Loc), y_W g (lwA s) [] ad KA u' s.heap H' locs' → INV u' → W p l e room_1 s m #[Value.ref b] below meth c H' locs' 290 15295 Q (F0 m 2206 ls [])) : W p l e room_1 s m #[Value.ref b] below meth c H locs 290 15295 Q (F0 m 649 ls []) := by
  have hx := X.1.1.1
  have hb := X.1.1.2.1
  have hown := X.1.1.2.2.2.1
  have hts := X.1.1.2.2.2.2.1
  refine lv_aload_n hx hb dL_law_649 rfl (lv_at hl 1 rfl) ?_
  refine L_arg X hw.2.2 hl 1 (by omega) (by decide) dL_law_650 dL_law_651 dL_law_652 dL_law_653 dL_law_654 ?_
  refine y_calli hw (y_runV (ci := 10) X.1 hw (m_X10_land l (y_xD KA_nd hw.2.1) KA_x (K_land I (xs (i + 1)))) k_X (KA_x 0 (by decide)) hq0 rfl (x_gV xw_392 xw_393 xw_394 xw_2 xw_395) rfl rfl qX10_land ⟨Nat.le_of_ble_eq_true rfl, Nat.le_of_ble_eq_true rfl⟩ rfl hl.1 rfl (Nat.le_of_ble_eq_true rfl) dL_law_655 ⟨Nat.le_of_ble_eq_true rfl, Nat.le_of_ble_eq_true rfl⟩) (fun r1 u1 H locs hw h1 => ?_)
  refine lv_aload_n hx hb dL_law_658 rfl (lv_at hl 2 rfl) ?_
  refine L_arg X hw.2.2 hl 1 (by omega) (by decide) dL_law_659 dL_law_660 dL_law_661 dL_law_662 dL_law_663 ?_
  refine y_calli hw (y_runV (ci := 11) X.1 hw (m_X11_land l (y_xD KA_nd hw.2.1) KA_m h1) k_M (KA_m 272 (by decide) (by decide)) hq1 rfl (x_gV xw_626 xw_627 xw_628 xw_5 xw_629) rfl rfl qX11_land ⟨Nat.le_of_ble_eq_true rfl, Nat.le_of_ble_eq_true rfl⟩ rfl hl.1 rfl (Nat.le_of_ble_eq_true rfl) dL_law_664 ⟨Nat.le_of_ble_eq_true rfl, Nat.le_of_ble_eq_true rfl⟩) (fun r2 u2 H locs hw h2 => ?_)
  exact lv_icmp_eq (tgt := 2206) hx hb dL_law_667 (by decide) (fun _ => kk _ _ _ hw h2.2) (fun z => absurd h2.1 z)
set_option maxHeartbeats 4000000 in
set_option maxRecDepth 100000 in
theorem lw_9 (X : L_C p s m meth c g b L xs) (hw : y_W g (lwA s) [] ad KA u s.heap H locs) (I : INV u) (hq0 : ad 0 = q0) (hq1 : ad 272 = q1) (hl : lv_has ls 4 (lwL b q0 q1 i)) (hi : i + 6 ≤ L) (kk : ∀ (u' : xM) (H' : Heap) (locs' : List Loc), y_W g (lwA s) [] ad KA u' s.heap H' locs' → INV u' → W p l e room_1 s m #[Value.ref b] below meth c H' locs' 290 15295 Q (F0 m 2206 ls [])) : W p l e room_1 s m #[Value.ref b] below meth c H locs 290 15295 Q (F0 m 672 ls []) := by
  have hx := X.1.1.1
  have hb := X.1.1.2.1
  have hown := X.1.1.2.2.2.1
  have hts := X.1.1.2.2.2.2.1
  refine lv_aload_n hx hb dL_law_672 rfl (lv_at hl 1 rfl) ?_
  refine L_arg X hw.2.2 hl 1 (by omega) (by decide) dL_law_673 dL_law_674 dL_law_675 dL_law_676 dL_law_677 ?_
  refine y_calli hw (y_runV (ci := 10) X.1 hw (m_X10_nights l (y_xD KA_nd hw.2.1) KA_x (K_nights I (xs (i + 1)))) k_X (KA_x 0 (by decide)) hq0 rfl (x_gV xw_735 xw_736 xw_737 xw_2 xw_738) rfl rfl qX10_nights ⟨Nat.le_of_ble_eq_true rfl, Nat.le_of_ble_eq_true rfl⟩ rfl hl.1 rfl (Nat.le_of_ble_eq_true rfl) dL_law_678 ⟨Nat.le_of_ble_eq_true rfl, Nat.le_of_ble_eq_true rfl⟩) (fun r1 u1 H locs hw h1 => ?_)
  refine lv_aload_n hx hb dL_law_681 rfl (lv_at hl 2 rfl) ?_
  refine L_arg X hw.2.2 hl 1 (by omega) (by decide) dL_law_682 dL_law_683 dL_law_684 dL_law_685 dL_law_686 ?_
  refine y_calli hw (y_runV (ci := 11) X.1 hw (m_X11_nights l (y_xD KA_nd hw.2.1) KA_m h1) k_M (KA_m 272 (by decide) (by decide)) hq1 rfl (x_gV xw_820 xw_821 xw_822 xw_5 xw_823) rfl rfl qX11_nights ⟨Nat.le_of_ble_eq_true rfl, Nat.le_of_ble_eq_true rfl⟩ rfl hl.1 rfl (Nat.le_of_ble_eq_true rfl) dL_law_687 ⟨Nat.le_of_ble_eq_true rfl, Nat.le_of_ble_eq_true rfl⟩) (fun r2 u2 H locs hw h2 => ?_)
  exact lv_icmp_eq (tgt := 2206) hx hb dL_law_690 (by decide) (fun _ => kk _ _ _ hw h2.2) (fun z => absurd h2.1 z)
set_option maxHeartbeats 4000000 in
set_option maxRecDepth 100000 in
theorem lw_10 (X : L_C p s m meth c g b L xs) (hw : y_W g (lwA s) [] ad KA u s.heap H locs) (I : INV u) (hq0 : ad 0 = q0) (hq1 : ad 272 = q1) (hl : lv_has ls 4 (lwL b q0 q1 i)) (hi : i + 6 ≤ L) (kk : ∀ (u' : xM) (H' : Heap) (locs' : List Loc), y_W g (lwA s) [] ad KA u' s.heap H' locs' → INV u' → W p l e room_1 s m #[Value.ref b] below meth c H' locs' 290 15295 Q (F0 m 2206 ls [])) : W p l e room_1 s m #[Value.ref b] below meth c H locs 290 15295 Q (F0 m 695 ls []) := by
  have hx := X.1.1.1
  have hb := X.1.1.2.1
  have hown := X.1.1.2.2.2.1
  have hts := X.1.1.2.2.2.2.1
  refine lv_aload_n hx hb dL_law_695 rfl (lv_at hl 1 rfl) ?_
  refine L_arg X hw.2.2 hl 1 (by omega) (by decide) dL_law_696 dL_law_697 dL_law_698 dL_law_699 dL_law_700 ?_
  refine y_calli hw (y_runV (ci := 10) X.1 hw (m_X10_fault l (y_xD KA_nd hw.2.1) KA_x (K_fault I (xs (i + 1)))) k_X (KA_x 0 (by decide)) hq0 rfl (x_gV xw_846 xw_847 xw_848 xw_2 xw_849) rfl rfl qX10_fault ⟨Nat.le_of_ble_eq_true rfl, Nat.le_of_ble_eq_true rfl⟩ rfl hl.1 rfl (Nat.le_of_ble_eq_true rfl) dL_law_701 ⟨Nat.le_of_ble_eq_true rfl, Nat.le_of_ble_eq_true rfl⟩) (fun r1 u1 H locs hw h1 => ?_)
  refine lv_aload_n hx hb dL_law_704 rfl (lv_at hl 2 rfl) ?_
  refine L_arg X hw.2.2 hl 1 (by omega) (by decide) dL_law_705 dL_law_706 dL_law_707 dL_law_708 dL_law_709 ?_
  refine y_calli hw (y_runV (ci := 11) X.1 hw (m_X11_fault l (y_xD KA_nd hw.2.1) KA_m h1) k_M (KA_m 272 (by decide) (by decide)) hq1 rfl (x_gV xw_850 xw_851 xw_852 xw_5 xw_853) rfl rfl qX11_fault ⟨Nat.le_of_ble_eq_true rfl, Nat.le_of_ble_eq_true rfl⟩ rfl hl.1 rfl (Nat.le_of_ble_eq_true rfl) dL_law_710 ⟨Nat.le_of_ble_eq_true rfl, Nat.le_of_ble_eq_true rfl⟩) (fun r2 u2 H locs hw h2 => ?_)
  exact lv_icmp_eq (tgt := 2206) hx hb dL_law_713 (by decide) (fun _ => kk _ _ _ hw h2.2) (fun z => absurd h2.1 z)
set_option maxHeartbeats 4000000 in
set_option maxRecDepth 100000 in
theorem lw_11 (X : L_C p s m meth c g b L xs) (hw : y_W g (lwA s) [] ad KA u s.heap H locs) (I : INV u) (hq0 : ad 0 = q0) (hq1 : ad 272 = q1) (hl : lv_has ls 4 (lwL b q0 q1 i)) (hi : i + 6 ≤ L) (kk : ∀ (u' : xM) (H' : Heap) (locs' : List Loc), y_W g (lwA s) [] ad KA u' s.heap H' locs' → INV u' → W p l e room_1 s m #[Value.ref b] below meth c H' locs' 290 15295 Q (F0 m 2206 ls [])) : W p l e room_1 s m #[Value.ref b] below meth c H locs 290 15295 Q (F0 m 718 ls []) := by
  have hx := X.1.1.1
  have hb := X.1.1.2.1
  have hown := X.1.1.2.2.2.1
  have hts := X.1.1.2.2.2.2.1
  refine lv_aload_n hx hb dL_law_718 rfl (lv_at hl 1 rfl) ?_
  refine L_arg X hw.2.2 hl 1 (by omega) (by decide) dL_law_719 dL_law_720 dL_law_721 dL_law_722 dL_law_723 ?_
  refine y_calli hw (y_runV (ci := 10) X.1 hw (m_X10_told l (y_xD KA_nd hw.2.1) KA_x (K_told I (xs (i + 1)))) k_X (KA_x 0 (by decide)) hq0 rfl (x_gV xw_854 xw_855 xw_856 xw_2 xw_857) rfl rfl qX10_told ⟨Nat.le_of_ble_eq_true rfl, Nat.le_of_ble_eq_true rfl⟩ rfl hl.1 rfl (Nat.le_of_ble_eq_true rfl) dL_law_724 ⟨Nat.le_of_ble_eq_true rfl, Nat.le_of_ble_eq_true rfl⟩) (fun r1 u1 H locs hw h1 => ?_)
  refine lv_aload_n hx hb dL_law_727 rfl (lv_at hl 2 rfl) ?_
  refine L_arg X hw.2.2 hl 1 (by omega) (by decide) dL_law_728 dL_law_729 dL_law_730 dL_law_731 dL_law_732 ?_
  refine y_calli hw (y_runV (ci := 11) X.1 hw (m_X11_told l (y_xD KA_nd hw.2.1) KA_m h1) k_M (KA_m 272 (by decide) (by decide)) hq1 rfl (x_gV xw_884 xw_885 xw_886 xw_5 xw_887) rfl rfl qX11_told ⟨Nat.le_of_ble_eq_true rfl, Nat.le_of_ble_eq_true rfl⟩ rfl hl.1 rfl (Nat.le_of_ble_eq_true rfl) dL_law_733 ⟨Nat.le_of_ble_eq_true rfl, Nat.le_of_ble_eq_true rfl⟩) (fun r2 u2 H locs hw h2 => ?_)
  exact lv_icmp_eq (tgt := 2206) hx hb dL_law_736 (by decide) (fun _ => kk _ _ _ hw h2.2) (fun z => absurd h2.1 z)
set_option maxHeartbeats 4000000 in
set_option maxRecDepth 100000 in
theorem lw_12 (X : L_C p s m meth c g b L xs) (hw : y_W g (lwA s) [] ad KA u s.heap H locs) (I : INV u) (hq0 : ad 0 = q0) (hq1 : ad 272 = q1) (hl : lv_has ls 4 (lwL b q0 q1 i)) (hi : i + 6 ≤ L) (kk : ∀ (u' : xM) (H' : Heap) (locs' : List Loc), y_W g (lwA s) [] ad KA u' s.heap H' locs' → INV u' → W p l e room_1 s m #[Value.ref b] below meth c H' locs' 290 15295 Q (F0 m 2206 ls [])) : W p l e room_1 s m #[Value.ref b] below meth c H locs 290 15295 Q (F0 m 741 ls []) := by
  have hx := X.1.1.1
  have hb := X.1.1.2.1
  have hown := X.1.1.2.2.2.1
  have hts := X.1.1.2.2.2.2.1
  refine lv_aload_n hx hb dL_law_741 rfl (lv_at hl 1 rfl) ?_
  refine L_arg X hw.2.2 hl 1 (by omega) (by decide) dL_law_742 dL_law_743 dL_law_744 dL_law_745 dL_law_746 ?_
  refine L_arg X hw.2.2 hl 2 (by omega) (by decide) dL_law_747 dL_law_748 dL_law_749 dL_law_750 dL_law_751 ?_
  refine y_calli hw (y_runV (ci := 10) X.1 hw (m_X10_room l (y_xD KA_nd hw.2.1) KA_x (K_room I (xs (i + 1)) (xs (i + 2)))) k_X (KA_x 0 (by decide)) hq0 rfl (x_gV xw_926 xw_927 xw_928 xw_2 xw_929) rfl rfl qX10_room ⟨Nat.le_of_ble_eq_true rfl, Nat.le_of_ble_eq_true rfl⟩ rfl hl.1 rfl (Nat.le_of_ble_eq_true rfl) dL_law_752 ⟨Nat.le_of_ble_eq_true rfl, Nat.le_of_ble_eq_true rfl⟩) (fun r1 u1 H locs hw h1 => ?_)
  refine lv_aload_n hx hb dL_law_755 rfl (lv_at hl 2 rfl) ?_
  refine L_arg X hw.2.2 hl 1 (by omega) (by decide) dL_law_756 dL_law_757 dL_law_758 dL_law_759 dL_law_760 ?_
  refine L_arg X hw.2.2 hl 2 (by omega) (by decide) dL_law_761 dL_law_762 dL_law_763 dL_law_764 dL_law_765 ?_
  refine y_calli hw (y_runV (ci := 11) X.1 hw (m_X11_room l (y_xD KA_nd hw.2.1) KA_m h1) k_M (KA_m 272 (by decide) (by decide)) hq1 rfl (x_gV xw_941 xw_942 xw_943 xw_5 xw_944) rfl rfl qX11_room ⟨Nat.le_of_ble_eq_true rfl, Nat.le_of_ble_eq_true rfl⟩ rfl hl.1 rfl (Nat.le_of_ble_eq_true rfl) dL_law_766 ⟨Nat.le_of_ble_eq_true rfl, Nat.le_of_ble_eq_true rfl⟩) (fun r2 u2 H locs hw h2 => ?_)
  exact lv_icmp_eq (tgt := 2206) hx hb dL_law_769 (by decide) (fun _ => kk _ _ _ hw h2.2) (fun z => absurd h2.1 z)
set_option maxHeartbeats 4000000 in
set_option maxRecDepth 100000 in
theorem lw_13 (X : L_C p s m meth c g b L xs) (hw : y_W g (lwA s) [] ad KA u s.heap H locs) (I : INV u) (hq0 : ad 0 = q0) (hq1 : ad 272 = q1) (hl : lv_has ls 4 (lwL b q0 q1 i)) (hi : i + 6 ≤ L) (kk : ∀ (u' : xM) (H' : Heap) (locs' : List Loc), y_W g (lwA s) [] ad KA u' s.heap H' locs' → INV u' → W p l e room_1 s m #[Value.ref b] below meth c H' locs' 290 15295 Q (F0 m 2206 ls [])) : W p l e room_1 s m #[Value.ref b] below meth c H locs 290 15295 Q (F0 m 774 ls []) := by
  have hx := X.1.1.1
  have hb := X.1.1.2.1
  have hown := X.1.1.2.2.2.1
  have hts := X.1.1.2.2.2.2.1
  refine lv_aload_n hx hb dL_law_774 rfl (lv_at hl 1 rfl) ?_
  refine L_arg X hw.2.2 hl 1 (by omega) (by decide) dL_law_775 dL_law_776 dL_law_777 dL_law_778 dL_law_779 ?_
  refine L_arg X hw.2.2 hl 2 (by omega) (by decide) dL_law_780 dL_law_781 dL_law_782 dL_law_783 dL_law_784 ?_
  refine y_calli hw (y_runV (ci := 10) X.1 hw (m_X10_door l (y_xD KA_nd hw.2.1) KA_x (K_door I (xs (i + 1)) (xs (i + 2)))) k_X (KA_x 0 (by decide)) hq0 rfl (x_gV xw_953 xw_954 xw_955 xw_2 xw_956) rfl rfl qX10_door ⟨Nat.le_of_ble_eq_true rfl, Nat.le_of_ble_eq_true rfl⟩ rfl hl.1 rfl (Nat.le_of_ble_eq_true rfl) dL_law_785 ⟨Nat.le_of_ble_eq_true rfl, Nat.le_of_ble_eq_true rfl⟩) (fun r1 u1 H locs hw h1 => ?_)
  refine lv_aload_n hx hb dL_law_788 rfl (lv_at hl 2 rfl) ?_
  refine L_arg X hw.2.2 hl 1 (by omega) (by decide) dL_law_789 dL_law_790 dL_law_791 dL_law_792 dL_law_793 ?_
  refine L_arg X hw.2.2 hl 2 (by omega) (by decide) dL_law_794 dL_law_795 dL_law_796 dL_law_797 dL_law_798 ?_
  refine y_calli hw (y_runV (ci := 11) X.1 hw (m_X11_door l (y_xD KA_nd hw.2.1) KA_m h1) k_M (KA_m 272 (by decide) (by decide)) hq1 rfl (x_gV xw_973 xw_974 xw_975 xw_5 xw_976) rfl rfl qX11_door ⟨Nat.le_of_ble_eq_true rfl, Nat.le_of_ble_eq_true rfl⟩ rfl hl.1 rfl (Nat.le_of_ble_eq_true rfl) dL_law_799 ⟨Nat.le_of_ble_eq_true rfl, Nat.le_of_ble_eq_true rfl⟩) (fun r2 u2 H locs hw h2 => ?_)
  exact lv_icmp_eq (tgt := 2206) hx hb dL_law_802 (by decide) (fun _ => kk _ _ _ hw h2.2) (fun z => absurd h2.1 z)
set_option maxHeartbeats 4000000 in
set_option maxRecDepth 100000 in
theorem lw_14 (X : L_C p s m meth c g b L xs) (hw : y_W g (lwA s) [] ad KA u s.heap H locs) (I : INV u) (hq0 : ad 0 = q0) (hq1 : ad 272 = q1) (hl : lv_has ls 4 (lwL b q0 q1 i)) (hi : i + 6 ≤ L) (kk : ∀ (u' : xM) (H' : Heap) (locs' : List Loc), y_W g (lwA s) [] ad KA u' s.heap H' locs' → INV u' → W p l e room_1 s m #[Value.ref b] below meth c H' locs' 290 15295 Q (F0 m 2206 ls [])) : W p l e room_1 s m #[Value.ref b] below meth c H locs 290 15295 Q (F0 m 807 ls []) := by
  have hx := X.1.1.1
  have hb := X.1.1.2.1
  have hown := X.1.1.2.2.2.1
  have hts := X.1.1.2.2.2.2.1
  refine lv_aload_n hx hb dL_law_807 rfl (lv_at hl 1 rfl) ?_
  refine L_arg X hw.2.2 hl 1 (by omega) (by decide) dL_law_808 dL_law_809 dL_law_810 dL_law_811 dL_law_812 ?_
  refine L_arg X hw.2.2 hl 2 (by omega) (by decide) dL_law_813 dL_law_814 dL_law_815 dL_law_816 dL_law_817 ?_
  refine y_calli hw (y_runV (ci := 10) X.1 hw (m_X10_errand l (y_xD KA_nd hw.2.1) KA_x (K_errand I (xs (i + 1)) (xs (i + 2)))) k_X (KA_x 0 (by decide)) hq0 rfl (x_gV xw_981 xw_982 xw_983 xw_2 xw_984) rfl rfl qX10_errand ⟨Nat.le_of_ble_eq_true rfl, Nat.le_of_ble_eq_true rfl⟩ rfl hl.1 rfl (Nat.le_of_ble_eq_true rfl) dL_law_818 ⟨Nat.le_of_ble_eq_true rfl, Nat.le_of_ble_eq_true rfl⟩) (fun r1 u1 H locs hw h1 => ?_)
  refine lv_aload_n hx hb dL_law_821 rfl (lv_at hl 2 rfl) ?_
  refine L_arg X hw.2.2 hl 1 (by omega) (by decide) dL_law_822 dL_law_823 dL_law_824 dL_law_825 dL_law_826 ?_
  refine L_arg X hw.2.2 hl 2 (by omega) (by decide) dL_law_827 dL_law_828 dL_law_829 dL_law_830 dL_law_831 ?_
  refine y_calli hw (y_runV (ci := 11) X.1 hw (m_X11_errand l (y_xD KA_nd hw.2.1) KA_m h1) k_M (KA_m 272 (by decide) (by decide)) hq1 rfl (x_gV xw_988 xw_989 xw_990 xw_5 xw_991) rfl rfl qX11_errand ⟨Nat.le_of_ble_eq_true rfl, Nat.le_of_ble_eq_true rfl⟩ rfl hl.1 rfl (Nat.le_of_ble_eq_true rfl) dL_law_832 ⟨Nat.le_of_ble_eq_true rfl, Nat.le_of_ble_eq_true rfl⟩) (fun r2 u2 H locs hw h2 => ?_)
  exact lv_icmp_eq (tgt := 2206) hx hb dL_law_835 (by decide) (fun _ => kk _ _ _ hw h2.2) (fun z => absurd h2.1 z)
set_option maxHeartbeats 4000000 in
set_option maxRecDepth 100000 in
theorem lw_15 (X : L_C p s m meth c g b L xs) (hw : y_W g (lwA s) [] ad KA u s.heap H locs) (I : INV u) (hq0 : ad 0 = q0) (hq1 : ad 272 = q1) (hl : lv_has ls 4 (lwL b q0 q1 i)) (hi : i + 6 ≤ L) (kk : ∀ (u' : xM) (H' : Heap) (locs' : List Loc), y_W g (lwA s) [] ad KA u' s.heap H' locs' → INV u' → W p l e room_1 s m #[Value.ref b] below meth c H' locs' 290 15295 Q (F0 m 2206 ls [])) : W p l e room_1 s m #[Value.ref b] below meth c H locs 290 15295 Q (F0 m 840 ls []) := by
  have hx := X.1.1.1
  have hb := X.1.1.2.1
  have hown := X.1.1.2.2.2.1
  have hts := X.1.1.2.2.2.2.1
  refine lv_aload_n hx hb dL_law_840 rfl (lv_at hl 1 rfl) ?_
  refine L_arg X hw.2.2 hl 1 (by omega) (by decide) dL_law_841 dL_law_842 dL_law_843 dL_law_844 dL_law_845 ?_
  refine y_calli hw (y_runV (ci := 10) X.1 hw (m_X10_tide l (y_xD KA_nd hw.2.1) KA_x (K_tide I (xs (i + 1)))) k_X (KA_x 0 (by decide)) hq0 rfl (x_gV xw_996 xw_997 xw_998 xw_2 xw_999) rfl rfl qX10_tide ⟨Nat.le_of_ble_eq_true rfl, Nat.le_of_ble_eq_true rfl⟩ rfl hl.1 rfl (Nat.le_of_ble_eq_true rfl) dL_law_846 ⟨Nat.le_of_ble_eq_true rfl, Nat.le_of_ble_eq_true rfl⟩) (fun r1 u1 H locs hw h1 => ?_)
  refine lv_aload_n hx hb dL_law_849 rfl (lv_at hl 2 rfl) ?_
  refine L_arg X hw.2.2 hl 1 (by omega) (by decide) dL_law_850 dL_law_851 dL_law_852 dL_law_853 dL_law_854 ?_
  refine y_calli hw (y_runV (ci := 11) X.1 hw (m_X11_tide l (y_xD KA_nd hw.2.1) KA_m h1) k_M (KA_m 272 (by decide) (by decide)) hq1 rfl (x_gV xw_1004 xw_1005 xw_1006 xw_5 xw_1007) rfl rfl qX11_tide ⟨Nat.le_of_ble_eq_true rfl, Nat.le_of_ble_eq_true rfl⟩ rfl hl.1 rfl (Nat.le_of_ble_eq_true rfl) dL_law_855 ⟨Nat.le_of_ble_eq_true rfl, Nat.le_of_ble_eq_true rfl⟩) (fun r2 u2 H locs hw h2 => ?_)
  exact lv_icmp_eq (tgt := 2206) hx hb dL_law_858 (by decide) (fun _ => kk _ _ _ hw h2.2) (fun z => absurd h2.1 z)
set_option maxHeartbeats 4000000 in
set_option maxRecDepth 100000 in
theorem lw_16 (X : L_C p s m meth c g b L xs) (hw : y_W g (lwA s) [] ad KA u s.heap H locs) (I : INV u) (hq0 : ad 0 = q0) (hq1 : ad 272 = q1) (hl : lv_has ls 4 (lwL b q0 q1 i)) (hi : i + 6 ≤ L) (kk : ∀ (u' : xM) (H' : Heap) (locs' : List Loc), y_W g (lwA s) [] ad KA u' s.heap H' locs' → INV u' → W p l e room_1 s m #[Value.ref b] below meth c H' locs' 290 15295 Q (F0 m 2206 ls [])) : W p l e room_1 s m #[Value.ref b] below meth c H locs 290 15295 Q (F0 m 863 ls []) := by
  have hx := X.1.1.1
  have hb := X.1.1.2.1
  have hown := X.1.1.2.2.2.1
  have hts := X.1.1.2.2.2.2.1
  refine lv_aload_n hx hb dL_law_863 rfl (lv_at hl 1 rfl) ?_
  refine L_arg X hw.2.2 hl 1 (by omega) (by decide) dL_law_864 dL_law_865 dL_law_866 dL_law_867 dL_law_868 ?_
  refine y_calli hw (y_runV (ci := 10) X.1 hw (m_X10_drive l (y_xD KA_nd hw.2.1) KA_x (K_drive I (xs (i + 1)))) k_X (KA_x 0 (by decide)) hq0 rfl (x_gV xw_1011 xw_1012 xw_1013 xw_2 xw_1014) rfl rfl qX10_drive ⟨Nat.le_of_ble_eq_true rfl, Nat.le_of_ble_eq_true rfl⟩ rfl hl.1 rfl (Nat.le_of_ble_eq_true rfl) dL_law_869 ⟨Nat.le_of_ble_eq_true rfl, Nat.le_of_ble_eq_true rfl⟩) (fun r1 u1 H locs hw h1 => ?_)
  refine lv_aload_n hx hb dL_law_872 rfl (lv_at hl 2 rfl) ?_
  refine L_arg X hw.2.2 hl 1 (by omega) (by decide) dL_law_873 dL_law_874 dL_law_875 dL_law_876 dL_law_877 ?_
  refine y_calli hw (y_runV (ci := 11) X.1 hw (m_X11_drive l (y_xD KA_nd hw.2.1) KA_m h1) k_M (KA_m 272 (by decide) (by decide)) hq1 rfl (x_gV xw_1048 xw_1049 xw_1050 xw_5 xw_1051) rfl rfl qX11_drive ⟨Nat.le_of_ble_eq_true rfl, Nat.le_of_ble_eq_true rfl⟩ rfl hl.1 rfl (Nat.le_of_ble_eq_true rfl) dL_law_878 ⟨Nat.le_of_ble_eq_true rfl, Nat.le_of_ble_eq_true rfl⟩) (fun r2 u2 H locs hw h2 => ?_)
  exact lv_icmp_eq (tgt := 2206) hx hb dL_law_881 (by decide) (fun _ => kk _ _ _ hw h2.2) (fun z => absurd h2.1 z)
set_option maxHeartbeats 4000000 in
set_option maxRecDepth 100000 in
theorem lw_17 (X : L_C p s m meth c g b L xs) (hw : y_W g (lwA s) [] ad KA u s.heap H locs) (I : INV u) (hq0 : ad 0 = q0) (hq1 : ad 272 = q1) (hl : lv_has ls 4 (lwL b q0 q1 i)) (hi : i + 6 ≤ L) (kk : ∀ (u' : xM) (H' : Heap) (locs' : List Loc), y_W g (lwA s) [] ad KA u' s.heap H' locs' → INV u' → W p l e room_1 s m #[Value.ref b] below meth c H' locs' 290 15295 Q (F0 m 2206 ls [])) : W p l e room_1 s m #[Value.ref b] below meth c H locs 290 15295 Q (F0 m 886 ls []) := by
  have hx := X.1.1.1
  have hb := X.1.1.2.1
  have hown := X.1.1.2.2.2.1
  have hts := X.1.1.2.2.2.2.1
  refine lv_aload_n hx hb dL_law_886 rfl (lv_at hl 1 rfl) ?_
  refine L_arg X hw.2.2 hl 1 (by omega) (by decide) dL_law_887 dL_law_888 dL_law_889 dL_law_890 dL_law_891 ?_
  refine y_calli hw (y_runV (ci := 10) X.1 hw (m_X10_flow l (y_xD KA_nd hw.2.1) KA_x (K_flow I (xs (i + 1)))) k_X (KA_x 0 (by decide)) hq0 rfl (x_gV xw_1060 xw_1061 xw_1062 xw_2 xw_1063) rfl rfl qX10_flow ⟨Nat.le_of_ble_eq_true rfl, Nat.le_of_ble_eq_true rfl⟩ rfl hl.1 rfl (Nat.le_of_ble_eq_true rfl) dL_law_892 ⟨Nat.le_of_ble_eq_true rfl, Nat.le_of_ble_eq_true rfl⟩) (fun r1 u1 H locs hw h1 => ?_)
  refine lv_aload_n hx hb dL_law_895 rfl (lv_at hl 2 rfl) ?_
  refine L_arg X hw.2.2 hl 1 (by omega) (by decide) dL_law_896 dL_law_897 dL_law_898 dL_law_899 dL_law_900 ?_
  refine y_calli hw (y_runV (ci := 11) X.1 hw (m_X11_flow l (y_xD KA_nd hw.2.1) KA_m h1) k_M (KA_m 272 (by decide) (by decide)) hq1 rfl (x_gV xw_1065 xw_1066 xw_1067 xw_5 xw_1068) rfl rfl qX11_flow ⟨Nat.le_of_ble_eq_true rfl, Nat.le_of_ble_eq_true rfl⟩ rfl hl.1 rfl (Nat.le_of_ble_eq_true rfl) dL_law_901 ⟨Nat.le_of_ble_eq_true rfl, Nat.le_of_ble_eq_true rfl⟩) (fun r2 u2 H locs hw h2 => ?_)
  exact lv_icmp_eq (tgt := 2206) hx hb dL_law_904 (by decide) (fun _ => kk _ _ _ hw h2.2) (fun z => absurd h2.1 z)
set_option maxHeartbeats 4000000 in
set_option maxRecDepth 100000 in
theorem lw_18 (X : L_C p s m meth c g b L xs) (hw : y_W g (lwA s) [] ad KA u s.heap H locs) (I : INV u) (hq0 : ad 0 = q0) (hq1 : ad 272 = q1) (hl : lv_has ls 4 (lwL b q0 q1 i)) (hi : i + 6 ≤ L) (kk : ∀ (u' : xM) (H' : Heap) (locs' : List Loc), y_W g (lwA s) [] ad KA u' s.heap H' locs' → INV u' → W p l e room_1 s m #[Value.ref b] below meth c H' locs' 290 15295 Q (F0 m 2206 ls [])) : W p l e room_1 s m #[Value.ref b] below meth c H locs 290 15295 Q (F0 m 909 ls []) := by
  have hx := X.1.1.1
  have hb := X.1.1.2.1
  have hown := X.1.1.2.2.2.1
  have hts := X.1.1.2.2.2.2.1
  refine lv_aload_n hx hb dL_law_909 rfl (lv_at hl 1 rfl) ?_
  refine L_arg X hw.2.2 hl 1 (by omega) (by decide) dL_law_910 dL_law_911 dL_law_912 dL_law_913 dL_law_914 ?_
  refine y_calli hw (y_runV (ci := 10) X.1 hw (m_X10_flowOpen l (y_xD KA_nd hw.2.1) KA_x (K_flowOpen I (xs (i + 1)))) k_X (KA_x 0 (by decide)) hq0 rfl (x_gV xw_1077 xw_1078 xw_1079 xw_2 xw_1080) rfl rfl qX10_flowOpen ⟨Nat.le_of_ble_eq_true rfl, Nat.le_of_ble_eq_true rfl⟩ rfl hl.1 rfl (Nat.le_of_ble_eq_true rfl) dL_law_915 ⟨Nat.le_of_ble_eq_true rfl, Nat.le_of_ble_eq_true rfl⟩) (fun r1 u1 H locs hw h1 => ?_)
  refine lv_aload_n hx hb dL_law_918 rfl (lv_at hl 2 rfl) ?_
  refine L_arg X hw.2.2 hl 1 (by omega) (by decide) dL_law_919 dL_law_920 dL_law_921 dL_law_922 dL_law_923 ?_
  refine y_calli hw (y_runV (ci := 11) X.1 hw (m_X11_flowOpen l (y_xD KA_nd hw.2.1) KA_m h1) k_M (KA_m 272 (by decide) (by decide)) hq1 rfl (x_gV xw_1082 xw_1083 xw_1084 xw_5 xw_1085) rfl rfl qX11_flowOpen ⟨Nat.le_of_ble_eq_true rfl, Nat.le_of_ble_eq_true rfl⟩ rfl hl.1 rfl (Nat.le_of_ble_eq_true rfl) dL_law_924 ⟨Nat.le_of_ble_eq_true rfl, Nat.le_of_ble_eq_true rfl⟩) (fun r2 u2 H locs hw h2 => ?_)
  exact lv_icmp_eq (tgt := 2206) hx hb dL_law_927 (by decide) (fun _ => kk _ _ _ hw h2.2) (fun z => absurd h2.1 z)
set_option maxHeartbeats 4000000 in
set_option maxRecDepth 100000 in
theorem lw_19 (X : L_C p s m meth c g b L xs) (hw : y_W g (lwA s) [] ad KA u s.heap H locs) (I : INV u) (hq0 : ad 0 = q0) (hq1 : ad 272 = q1) (hl : lv_has ls 4 (lwL b q0 q1 i)) (hi : i + 6 ≤ L) (kk : ∀ (u' : xM) (H' : Heap) (locs' : List Loc), y_W g (lwA s) [] ad KA u' s.heap H' locs' → INV u' → W p l e room_1 s m #[Value.ref b] below meth c H' locs' 290 15295 Q (F0 m 2206 ls [])) : W p l e room_1 s m #[Value.ref b] below meth c H locs 290 15295 Q (F0 m 932 ls []) := by
  have hx := X.1.1.1
  have hb := X.1.1.2.1
  have hown := X.1.1.2.2.2.1
  have hts := X.1.1.2.2.2.2.1
  refine lv_aload_n hx hb dL_law_932 rfl (lv_at hl 1 rfl) ?_
  refine y_calli hw (y_runV (ci := 10) X.1 hw (m_X10_deepest l (y_xD KA_nd hw.2.1) KA_x (K_deepest I)) k_X (KA_x 0 (by decide)) hq0 rfl (x_gV xw_1086 xw_1087 xw_1088 xw_2 xw_1089) rfl rfl qX10_deepest ⟨Nat.le_of_ble_eq_true rfl, Nat.le_of_ble_eq_true rfl⟩ rfl hl.1 rfl (Nat.le_of_ble_eq_true rfl) dL_law_933 ⟨Nat.le_of_ble_eq_true rfl, Nat.le_of_ble_eq_true rfl⟩) (fun r1 u1 H locs hw h1 => ?_)
  refine lv_aload_n hx hb dL_law_936 rfl (lv_at hl 2 rfl) ?_
  refine y_calli hw (y_runV (ci := 11) X.1 hw (m_X11_deepest l (y_xD KA_nd hw.2.1) KA_m h1) k_M (KA_m 272 (by decide) (by decide)) hq1 rfl (x_gV xw_1090 xw_1091 xw_1092 xw_5 xw_1093) rfl rfl qX11_deepest ⟨Nat.le_of_ble_eq_true rfl, Nat.le_of_ble_eq_true rfl⟩ rfl hl.1 rfl (Nat.le_of_ble_eq_true rfl) dL_law_937 ⟨Nat.le_of_ble_eq_true rfl, Nat.le_of_ble_eq_true rfl⟩) (fun r2 u2 H locs hw h2 => ?_)
  exact lv_icmp_eq (tgt := 2206) hx hb dL_law_940 (by decide) (fun _ => kk _ _ _ hw h2.2) (fun z => absurd h2.1 z)
set_option maxHeartbeats 4000000 in
set_option maxRecDepth 100000 in
theorem lw_20 (X : L_C p s m meth c g b L xs) (hw : y_W g (lwA s) [] ad KA u s.heap H locs) (I : INV u) (hq0 : ad 0 = q0) (hq1 : ad 272 = q1) (hl : lv_has ls 4 (lwL b q0 q1 i)) (hi : i + 6 ≤ L) (kk : ∀ (u' : xM) (H' : Heap) (locs' : List Loc), y_W g (lwA s) [] ad KA u' s.heap H' locs' → INV u' → W p l e room_1 s m #[Value.ref b] below meth c H' locs' 290 15295 Q (F0 m 2206 ls [])) : W p l e room_1 s m #[Value.ref b] below meth c H locs 290 15295 Q (F0 m 945 ls []) := by
  have hx := X.1.1.1
  have hb := X.1.1.2.1
  have hown := X.1.1.2.2.2.1
  have hts := X.1.1.2.2.2.2.1
  refine lv_aload_n hx hb dL_law_945 rfl (lv_at hl 1 rfl) ?_
  refine y_calli hw (y_runV (ci := 10) X.1 hw (m_X10_busiest l (y_xD KA_nd hw.2.1) KA_x (K_busiest I)) k_X (KA_x 0 (by decide)) hq0 rfl (x_gV xw_1098 xw_1099 xw_1100 xw_2 xw_1101) rfl rfl qX10_busiest ⟨Nat.le_of_ble_eq_true rfl, Nat.le_of_ble_eq_true rfl⟩ rfl hl.1 rfl (Nat.le_of_ble_eq_true rfl) dL_law_946 ⟨Nat.le_of_ble_eq_true rfl, Nat.le_of_ble_eq_true rfl⟩) (fun r1 u1 H locs hw h1 => ?_)
  refine lv_aload_n hx hb dL_law_949 rfl (lv_at hl 2 rfl) ?_
  refine y_calli hw (y_runV (ci := 11) X.1 hw (m_X11_busiest l (y_xD KA_nd hw.2.1) KA_m h1) k_M (KA_m 272 (by decide) (by decide)) hq1 rfl (x_gV xw_1103 xw_1104 xw_1105 xw_5 xw_1106) rfl rfl qX11_busiest ⟨Nat.le_of_ble_eq_true rfl, Nat.le_of_ble_eq_true rfl⟩ rfl hl.1 rfl (Nat.le_of_ble_eq_true rfl) dL_law_950 ⟨Nat.le_of_ble_eq_true rfl, Nat.le_of_ble_eq_true rfl⟩) (fun r2 u2 H locs hw h2 => ?_)
  exact lv_icmp_eq (tgt := 2206) hx hb dL_law_953 (by decide) (fun _ => kk _ _ _ hw h2.2) (fun z => absurd h2.1 z)
set_option maxHeartbeats 4000000 in
set_option maxRecDepth 100000 in
theorem lw_21 (X : L_C p s m meth c g b L xs) (hw : y_W g (lwA s) [] ad KA u s.heap H locs) (I : INV u) (hq0 : ad 0 = q0) (hq1 : ad 272 = q1) (hl : lv_has ls 4 (lwL b q0 q1 i)) (hi : i + 6 ≤ L) (kk : ∀ (u' : xM) (H' : Heap) (locs' : List Loc), y_W g (lwA s) [] ad KA u' s.heap H' locs' → INV u' → W p l e room_1 s m #[Value.ref b] below meth c H' locs' 290 15295 Q (F0 m 2206 ls [])) : W p l e room_1 s m #[Value.ref b] below meth c H locs 290 15295 Q (F0 m 958 ls []) := by
  have hx := X.1.1.1
  have hb := X.1.1.2.1
  have hown := X.1.1.2.2.2.1
  have hts := X.1.1.2.2.2.2.1
  refine lv_aload_n hx hb dL_law_958 rfl (lv_at hl 1 rfl) ?_
  refine L_arg X hw.2.2 hl 1 (by omega) (by decide) dL_law_959 dL_law_960 dL_law_961 dL_law_962 dL_law_963 ?_
  refine y_calli hw (y_runV (ci := 10) X.1 hw (m_X10_spare l (y_xD KA_nd hw.2.1) KA_x (K_spare I (xs (i + 1)))) k_X (KA_x 0 (by decide)) hq0 rfl (x_gV xw_1107 xw_1108 xw_1109 xw_2 xw_1110) rfl rfl qX10_spare ⟨Nat.le_of_ble_eq_true rfl, Nat.le_of_ble_eq_true rfl⟩ rfl hl.1 rfl (Nat.le_of_ble_eq_true rfl) dL_law_964 ⟨Nat.le_of_ble_eq_true rfl, Nat.le_of_ble_eq_true rfl⟩) (fun r1 u1 H locs hw h1 => ?_)
  refine lv_aload_n hx hb dL_law_967 rfl (lv_at hl 2 rfl) ?_
  refine L_arg X hw.2.2 hl 1 (by omega) (by decide) dL_law_968 dL_law_969 dL_law_970 dL_law_971 dL_law_972 ?_
  refine y_calli hw (y_runV (ci := 11) X.1 hw (m_X11_spare l (y_xD KA_nd hw.2.1) KA_m h1) k_M (KA_m 272 (by decide) (by decide)) hq1 rfl (x_gV xw_1112 xw_1113 xw_1114 xw_5 xw_1115) rfl rfl qX11_spare ⟨Nat.le_of_ble_eq_true rfl, Nat.le_of_ble_eq_true rfl⟩ rfl hl.1 rfl (Nat.le_of_ble_eq_true rfl) dL_law_973 ⟨Nat.le_of_ble_eq_true rfl, Nat.le_of_ble_eq_true rfl⟩) (fun r2 u2 H locs hw h2 => ?_)
  exact lv_icmp_eq (tgt := 2206) hx hb dL_law_976 (by decide) (fun _ => kk _ _ _ hw h2.2) (fun z => absurd h2.1 z)
set_option maxHeartbeats 4000000 in
set_option maxRecDepth 100000 in
theorem lw_22 (X : L_C p s m meth c g b L xs) (hw : y_W g (lwA s) [] ad KA u s.heap H locs) (I : INV u) (hq0 : ad 0 = q0) (hq1 : ad 272 = q1) (hl : lv_has ls 4 (lwL b q0 q1 i)) (hi : i + 6 ≤ L) (kk : ∀ (u' : xM) (H' : Heap) (locs' : List Loc), y_W g (lwA s) [] ad KA u' s.heap H' locs' → INV u' → W p l e room_1 s m #[Value.ref b] below meth c H' locs' 290 15295 Q (F0 m 2206 ls [])) : W p l e room_1 s m #[Value.ref b] below meth c H locs 290 15295 Q (F0 m 981 ls []) := by
  have hx := X.1.1.1
  have hb := X.1.1.2.1
  have hown := X.1.1.2.2.2.1
  have hts := X.1.1.2.2.2.2.1
  refine lv_aload_n hx hb dL_law_981 rfl (lv_at hl 1 rfl) ?_
  refine y_calli hw (y_runV (ci := 10) X.1 hw (m_X10_low l (y_xD KA_nd hw.2.1) KA_x (K_low I)) k_X (KA_x 0 (by decide)) hq0 rfl (x_gV xw_1116 xw_1117 xw_1118 xw_2 xw_1119) rfl rfl qX10_low ⟨Nat.le_of_ble_eq_true rfl, Nat.le_of_ble_eq_true rfl⟩ rfl hl.1 rfl (Nat.le_of_ble_eq_true rfl) dL_law_982 ⟨Nat.le_of_ble_eq_true rfl, Nat.le_of_ble_eq_true rfl⟩) (fun r1 u1 H locs hw h1 => ?_)
  refine lv_aload_n hx hb dL_law_985 rfl (lv_at hl 2 rfl) ?_
  refine y_calli hw (y_runV (ci := 11) X.1 hw (m_X11_low l (y_xD KA_nd hw.2.1) KA_m h1) k_M (KA_m 272 (by decide) (by decide)) hq1 rfl (x_gV xw_1120 xw_1121 xw_1122 xw_5 xw_1123) rfl rfl qX11_low ⟨Nat.le_of_ble_eq_true rfl, Nat.le_of_ble_eq_true rfl⟩ rfl hl.1 rfl (Nat.le_of_ble_eq_true rfl) dL_law_986 ⟨Nat.le_of_ble_eq_true rfl, Nat.le_of_ble_eq_true rfl⟩) (fun r2 u2 H locs hw h2 => ?_)
  exact lv_icmp_eq (tgt := 2206) hx hb dL_law_989 (by decide) (fun _ => kk _ _ _ hw h2.2) (fun z => absurd h2.1 z)
set_option maxHeartbeats 4000000 in
set_option maxRecDepth 100000 in
theorem lw_23 (X : L_C p s m meth c g b L xs) (hw : y_W g (lwA s) [] ad KA u s.heap H locs) (I : INV u) (hq0 : ad 0 = q0) (hq1 : ad 272 = q1) (hl : lv_has ls 4 (lwL b q0 q1 i)) (hi : i + 6 ≤ L) (kk : ∀ (u' : xM) (H' : Heap) (locs' : List Loc), y_W g (lwA s) [] ad KA u' s.heap H' locs' → INV u' → W p l e room_1 s m #[Value.ref b] below meth c H' locs' 290 15295 Q (F0 m 2206 ls [])) : W p l e room_1 s m #[Value.ref b] below meth c H locs 290 15295 Q (F0 m 994 ls []) := by
  have hx := X.1.1.1
  have hb := X.1.1.2.1
  have hown := X.1.1.2.2.2.1
  have hts := X.1.1.2.2.2.2.1
  refine lv_aload_n hx hb dL_law_994 rfl (lv_at hl 1 rfl) ?_
  refine L_arg X hw.2.2 hl 1 (by omega) (by decide) dL_law_995 dL_law_996 dL_law_997 dL_law_998 dL_law_999 ?_
  refine y_calli hw (y_runV (ci := 10) X.1 hw (m_X10_high l (y_xD KA_nd hw.2.1) KA_x (K_high I (xs (i + 1)))) k_X (KA_x 0 (by decide)) hq0 rfl (x_gV xw_1124 xw_1125 xw_1126 xw_2 xw_1127) rfl rfl qX10_high ⟨Nat.le_of_ble_eq_true rfl, Nat.le_of_ble_eq_true rfl⟩ rfl hl.1 rfl (Nat.le_of_ble_eq_true rfl) dL_law_1000 ⟨Nat.le_of_ble_eq_true rfl, Nat.le_of_ble_eq_true rfl⟩) (fun r1 u1 H locs hw h1 => ?_)
  refine lv_aload_n hx hb dL_law_1003 rfl (lv_at hl 2 rfl) ?_
  refine L_arg X hw.2.2 hl 1 (by omega) (by decide) dL_law_1004 dL_law_1005 dL_law_1006 dL_law_1007 dL_law_1008 ?_
  refine y_calli hw (y_runV (ci := 11) X.1 hw (m_X11_high l (y_xD KA_nd hw.2.1) KA_m h1) k_M (KA_m 272 (by decide) (by decide)) hq1 rfl (x_gV xw_1128 xw_1129 xw_1130 xw_5 xw_1131) rfl rfl qX11_high ⟨Nat.le_of_ble_eq_true rfl, Nat.le_of_ble_eq_true rfl⟩ rfl hl.1 rfl (Nat.le_of_ble_eq_true rfl) dL_law_1009 ⟨Nat.le_of_ble_eq_true rfl, Nat.le_of_ble_eq_true rfl⟩) (fun r2 u2 H locs hw h2 => ?_)
  exact lv_icmp_eq (tgt := 2206) hx hb dL_law_1012 (by decide) (fun _ => kk _ _ _ hw h2.2) (fun z => absurd h2.1 z)
set_option maxHeartbeats 4000000 in
set_option maxRecDepth 100000 in
theorem lw_all0 (X : L_C p s m meth c g b L xs) (hw : y_W g (lwA s) [] ad KA u s.heap H locs) (I : INV u) (hq0 : ad 0 = q0) (hq1 : ad 272 = q1) (hl : lv_has ls 4 (lwL b q0 q1 i)) (hi : i + 6 ≤ L) (kk : ∀ (u' : xM) (H' : Heap) (locs' : List Loc), y_W g (lwA s) [] ad KA u' s.heap H' locs' → INV u' → W p l e room_1 s m #[Value.ref b] below meth c H' locs' 290 15295 Q (F0 m 2206 ls [])) {n : Nat} (hn : n = 0 ∨ n = 1 ∨ n = 2 ∨ n = 3 ∨ n = 4 ∨ n = 5 ∨ n = 6 ∨ n = 7 ∨ n = 8 ∨ n = 9 ∨ n = 10 ∨ n = 11 ∨ n = 12 ∨ n = 13 ∨ n = 14 ∨ n = 15 ∨ n = 16 ∨ n = 17 ∨ n = 18 ∨ n = 19 ∨ n = 20 ∨ n = 21 ∨ n = 22 ∨ n = 23) : W p l e room_1 s m #[Value.ref b] below meth c H locs 290 15295 Q (F0 m 33 ls [.int (nI n)]) := by
  have hx := X.1.1.1
  have hb := X.1.1.2.1
  rcases hn with rfl | rfl | rfl | rfl | rfl | rfl | rfl | rfl | rfl | rfl | rfl | rfl | rfl | rfl | rfl | rfl | rfl | rfl | rfl | rfl | rfl | rfl | rfl | rfl
  · exact lv_tableIn (off := 299) (tgt := 332) hx hb dL_law_33 (by decide +kernel) (by decide +kernel) (by decide +kernel) (by decide +kernel) (lw_0 X hw I hq0 hq1 hl hi kk)
  · exact lv_tableIn (off := 312) (tgt := 345) hx hb dL_law_33 (by decide +kernel) (by decide +kernel) (by decide +kernel) (by decide +kernel) (lw_1 X hw I hq0 hq1 hl hi kk)
  · exact lv_tableIn (off := 326) (tgt := 359) hx hb dL_law_33 (by decide +kernel) (by decide +kernel) (by decide +kernel) (by decide +kernel) (lw_2 X hw I hq0 hq1 hl hi kk)
  · exact lv_tableIn (off := 340) (tgt := 373) hx hb dL_law_33 (by decide +kernel) (by decide +kernel) (by decide +kernel) (by decide +kernel) (lw_3 X hw I hq0 hq1 hl hi kk)
  · exact lv_tableIn (off := 383) (tgt := 416) hx hb dL_law_33 (by decide +kernel) (by decide +kernel) (by decide +kernel) (by decide +kernel) (lw_4 X hw I hq0 hq1 hl hi kk)
  · exact lv_tableIn (off := 456) (tgt := 489) hx hb dL_law_33 (by decide +kernel) (by decide +kernel) (by decide +kernel) (by decide +kernel) (lw_5 X hw I hq0 hq1 hl hi kk)
  · exact lv_tableIn (off := 490) (tgt := 523) hx hb dL_law_33 (by decide +kernel) (by decide +kernel) (by decide +kernel) (by decide +kernel) (lw_6 X hw I hq0 hq1 hl hi kk)
  · exact lv_tableIn (off := 553) (tgt := 586) hx hb dL_law_33 (by decide +kernel) (by decide +kernel) (by decide +kernel) (by decide +kernel) (lw_7 X hw I hq0 hq1 hl hi kk)
  · exact lv_tableIn (off := 616) (tgt := 649) hx hb dL_law_33 (by decide +kernel) (by decide +kernel) (by decide +kernel) (by decide +kernel) (lw_8 X hw I hq0 hq1 hl hi kk)
  · exact lv_tableIn (off := 639) (tgt := 672) hx hb dL_law_33 (by decide +kernel) (by decide +kernel) (by decide +kernel) (by decide +kernel) (lw_9 X hw I hq0 hq1 hl hi kk)
  · exact lv_tableIn (off := 662) (tgt := 695) hx hb dL_law_33 (by decide +kernel) (by decide +kernel) (by decide +kernel) (by decide +kernel) (lw_10 X hw I hq0 hq1 hl hi kk)
  · exact lv_tableIn (off := 685) (tgt := 718) hx hb dL_law_33 (by decide +kernel) (by decide +kernel) (by decide +kernel) (by decide +kernel) (lw_11 X hw I hq0 hq1 hl hi kk)
  · exact lv_tableIn (off := 708) (tgt := 741) hx hb dL_law_33 (by decide +kernel) (by decide +kernel) (by decide +kernel) (by decide +kernel) (lw_12 X hw I hq0 hq1 hl hi kk)
  · exact lv_tableIn (off := 741) (tgt := 774) hx hb dL_law_33 (by decide +kernel) (by decide +kernel) (by decide +kernel) (by decide +kernel) (lw_13 X hw I hq0 hq1 hl hi kk)
  · exact lv_tableIn (off := 774) (tgt := 807) hx hb dL_law_33 (by decide +kernel) (by decide +kernel) (by decide +kernel) (by decide +kernel) (lw_14 X hw I hq0 hq1 hl hi kk)
  · exact lv_tableIn (off := 807) (tgt := 840) hx hb dL_law_33 (by decide +kernel) (by decide +kernel) (by decide +kernel) (by decide +kernel) (lw_15 X hw I hq0 hq1 hl hi kk)
  · exact lv_tableIn (off := 830) (tgt := 863) hx hb dL_law_33 (by decide +kernel) (by decide +kernel) (by decide +kernel) (by decide +kernel) (lw_16 X hw I hq0 hq1 hl hi kk)
  · exact lv_tableIn (off := 853) (tgt := 886) hx hb dL_law_33 (by decide +kernel) (by decide +kernel) (by decide +kernel) (by decide +kernel) (lw_17 X hw I hq0 hq1 hl hi kk)
  · exact lv_tableIn (off := 876) (tgt := 909) hx hb dL_law_33 (by decide +kernel) (by decide +kernel) (by decide +kernel) (by decide +kernel) (lw_18 X hw I hq0 hq1 hl hi kk)
  · exact lv_tableIn (off := 899) (tgt := 932) hx hb dL_law_33 (by decide +kernel) (by decide +kernel) (by decide +kernel) (by decide +kernel) (lw_19 X hw I hq0 hq1 hl hi kk)
  · exact lv_tableIn (off := 912) (tgt := 945) hx hb dL_law_33 (by decide +kernel) (by decide +kernel) (by decide +kernel) (by decide +kernel) (lw_20 X hw I hq0 hq1 hl hi kk)
  · exact lv_tableIn (off := 925) (tgt := 958) hx hb dL_law_33 (by decide +kernel) (by decide +kernel) (by decide +kernel) (by decide +kernel) (lw_21 X hw I hq0 hq1 hl hi kk)
  · exact lv_tableIn (off := 948) (tgt := 981) hx hb dL_law_33 (by decide +kernel) (by decide +kernel) (by decide +kernel) (by decide +kernel) (lw_22 X hw I hq0 hq1 hl hi kk)
  · exact lv_tableIn (off := 961) (tgt := 994) hx hb dL_law_33 (by decide +kernel) (by decide +kernel) (by decide +kernel) (by decide +kernel) (lw_23 X hw I hq0 hq1 hl hi kk)
end LAW0
