-- X9_does
def fX9_does_481  (l2 : Int32) (s0 : Int32) (s1 : Int32) (s2 : Nat) (M : Mem) : Option (Int32 × Mem) := (wI M .boolean s2 s1 s0 fun M1 => some (l2, M1))
set_option maxHeartbeats 4000000 in
set_option maxRecDepth 100000 in
theorem jX9_does_481 (G : Gx) (l : Launch)   (l2 : Int32) (s0 : Int32) (s1 : Int32) (s2 : Nat) (M : Mem) : J G l cX9_does 5 RX9 (some .int) "does" 1 28 (QM G (fun v : Int32 => some (.int v))) 481 [(2, .int l2)] [.int s0, .int s1, .ref (adr G s2)] M (fX9_does_481  l2 s0 s1 s2 M) := by
  unfold fX9_does_481
  refine J_zast dX9_does_481 ?_
  refine J_iload_n dX9_does_482 0 rfl ?_
  exact J_iret dX9_does_483
def fX9_does_480  (l2 : Int32) (s0 : Int32) (s1 : Nat) (M : Mem) : Option (Int32 × Mem) := fX9_does_481  l2 (0 : Int32) s0 s1 M
set_option maxHeartbeats 4000000 in
set_option maxRecDepth 100000 in
theorem jX9_does_480 (G : Gx) (l : Launch)   (l2 : Int32) (s0 : Int32) (s1 : Nat) (M : Mem) : J G l cX9_does 5 RX9 (some .int) "does" 1 28 (QM G (fun v : Int32 => some (.int v))) 480 [(2, .int l2)] [.int s0, .ref (adr G s1)] M (fX9_does_480  l2 s0 s1 M) := by
  unfold fX9_does_480
  refine J_iconst (v := 0) dX9_does_480 (by decide) ?_
  refine J_sub [0] rfl ?_
  exact jX9_does_481 G l   _ _ _ _ _
def fX9_does_435  (l0 : Nat) (l1 : Int32) (l2 : Int32) (M : Mem) : Option (Int32 × Mem) := (gR M 9 4 l0 fun r1 => (gR M 9 2 l0 fun r2 => (rI M .int r2 l1 fun v3 => (if v3 ≤ 0 then fX9_does_480  l2 l1 r1 M else (gR M 9 3 l0 fun r4 => (rI M .int r4 l1 fun v5 => (gR M 9 2 l0 fun r6 => (rI M .int r6 l1 fun v7 => (if v5 < v7 then fX9_does_480  l2 l1 r1 M else (gR M 9 1 l0 fun r8 => (rI M .int r8 l1 fun v9 => (if (200 : Int32) ≤ v9 then fX9_does_480  l2 l1 r1 M else fX9_does_481  l2 (1 : Int32) l1 r1 M))))))))))))
set_option maxHeartbeats 4000000 in
set_option maxRecDepth 100000 in
theorem jX9_does_435 (G : Gx) (l : Launch)   (l0 : Nat) (l1 : Int32) (l2 : Int32) (M : Mem) : J G l cX9_does 5 RX9 (some .int) "does" 1 28 (QM G (fun v : Int32 => some (.int v))) 435 [(0, .ref (adr G l0)), (1, .int l1), (2, .int l2)] [] M (fX9_does_435  l0 l1 l2 M) := by
  unfold fX9_does_435
  refine J_aload_n dX9_does_435 0 rfl ?_
  refine J_getR fd_9_4 w_473 rfl dX9_does_436 (fun r1 => ?_)
  refine J_iload_n dX9_does_439 1 rfl ?_
  refine J_aload_n dX9_does_440 0 rfl ?_
  refine J_getR fd_9_2 w_471 rfl dX9_does_441 (fun r2 => ?_)
  refine J_iload_n dX9_does_444 1 rfl ?_
  refine J_iald dX9_does_445 ?_
  refine J_if_le (tgt := 480) dX9_does_446 (by decide) ?_ ?_
  · refine J_sub [2] rfl ?_
    exact jX9_does_480 G l   _ _ _ _
  · refine J_aload_n dX9_does_449 0 rfl ?_
    refine J_getR fd_9_3 w_472 rfl dX9_does_450 (fun r4 => ?_)
    refine J_iload_n dX9_does_453 1 rfl ?_
    refine J_iald dX9_does_454 ?_
    refine J_aload_n dX9_does_455 0 rfl ?_
    refine J_getR fd_9_2 w_471 rfl dX9_does_456 (fun r6 => ?_)
    refine J_iload_n dX9_does_459 1 rfl ?_
    refine J_iald dX9_does_460 ?_
    refine J_icmp_lt (tgt := 480) dX9_does_461 (by decide) ?_ ?_
    · refine J_sub [2] rfl ?_
      exact jX9_does_480 G l   _ _ _ _
    · refine J_aload_n dX9_does_464 0 rfl ?_
      refine J_getR fd_9_1 w_470 rfl dX9_does_465 (fun r8 => ?_)
      refine J_iload_n dX9_does_468 1 rfl ?_
      refine J_iald dX9_does_469 ?_
      refine J_sipush (v := 200) dX9_does_470 (by decide) ?_
      refine J_icmp_ge (tgt := 480) dX9_does_473 (by decide) ?_ ?_
      · refine J_sub [2] rfl ?_
        exact jX9_does_480 G l   _ _ _ _
      · refine J_iconst (v := 1) dX9_does_476 (by decide) ?_
        refine J_goto (tgt := 481) dX9_does_477 (by decide) ?_
        refine J_sub [2] rfl ?_
        exact jX9_does_481 G l   _ _ _ _ _
def fX9_does_419  (l0 : Nat) (l1 : Int32) (l2 : Int32) (M : Mem) : Option (Int32 × Mem) := (gI M 9 26 l0 fun v1 => (if v1 = (7 : Int32) then (gR M 9 3 l0 fun r2 => (wI M .int r2 l1 (0 : Int32) fun M3 => fX9_does_435  l0 l1 l2 M3)) else fX9_does_435  l0 l1 l2 M))
set_option maxHeartbeats 4000000 in
set_option maxRecDepth 100000 in
theorem jX9_does_419 (G : Gx) (l : Launch)   (l0 : Nat) (l1 : Int32) (l2 : Int32) (M : Mem) : J G l cX9_does 5 RX9 (some .int) "does" 1 28 (QM G (fun v : Int32 => some (.int v))) 419 [(0, .ref (adr G l0)), (1, .int l1), (2, .int l2)] [] M (fX9_does_419  l0 l1 l2 M) := by
  unfold fX9_does_419
  refine J_aload_n dX9_does_419 0 rfl ?_
  refine J_getI fd_9_26 w_581 rfl dX9_does_420 ?_
  refine J_bipush (v := 7) dX9_does_423 (by decide) ?_
  refine J_icmp_ne (tgt := 435) dX9_does_425 (by decide) ?_ ?_
  · refine J_sub [0, 1, 2] rfl ?_
    exact jX9_does_435 G l   _ _ _ _
  · refine J_aload_n dX9_does_428 0 rfl ?_
    refine J_getR fd_9_3 w_472 rfl dX9_does_429 (fun r2 => ?_)
    refine J_iload_n dX9_does_432 1 rfl ?_
    refine J_iconst (v := 0) dX9_does_433 (by decide) ?_
    refine J_iast dX9_does_434 ?_
    refine J_sub [0, 1, 2] rfl ?_
    exact jX9_does_435 G l   _ _ _ _
def fX9_does_409  (l0 : Nat) (l1 : Int32) (l2 : Int32) (M : Mem) : Option (Int32 × Mem) := (gR M 9 3 l0 fun r1 => (rI M .int r1 l1 fun v2 => (wI M .int r1 l1 (v2 + (1 : Int32)) fun M3 => fX9_does_419  l0 l1 l2 M3)))
set_option maxHeartbeats 4000000 in
set_option maxRecDepth 100000 in
theorem jX9_does_409 (G : Gx) (l : Launch)   (l0 : Nat) (l1 : Int32) (l2 : Int32) (M : Mem) : J G l cX9_does 5 RX9 (some .int) "does" 1 28 (QM G (fun v : Int32 => some (.int v))) 409 [(0, .ref (adr G l0)), (1, .int l1), (2, .int l2)] [] M (fX9_does_409  l0 l1 l2 M) := by
  unfold fX9_does_409
  refine J_aload_n dX9_does_409 0 rfl ?_
  refine J_getR fd_9_3 w_472 rfl dX9_does_410 (fun r1 => ?_)
  refine J_iload_n dX9_does_413 1 rfl ?_
  refine J_dup2 dX9_does_414 rfl rfl ?_
  refine J_iald dX9_does_415 ?_
  refine J_iconst (v := 1) dX9_does_416 (by decide) ?_
  refine J_iadd dX9_does_417 ?_
  refine J_iast dX9_does_418 ?_
  refine J_sub [0, 1, 2] rfl ?_
  exact jX9_does_419 G l   _ _ _ _
def fX9_does_374  (l0 : Nat) (l1 : Int32) (l2 : Int32) (M : Mem) : Option (Int32 × Mem) := (gR M 9 1 l0 fun r1 => (rI M .int r1 l1 fun v2 => (wI M .int r1 l1 (v2 + (1 : Int32)) fun M3 => (gI M3 9 26 l0 fun v4 => (if v4 = (2 : Int32) then fX9_does_409  l0 l1 l2 M3 else (gI M3 9 26 l0 fun v5 => (if v5 = (5 : Int32) then fX9_does_409  l0 l1 l2 M3 else (gI M3 9 26 l0 fun v6 => (if v6 = (6 : Int32) then fX9_does_409  l0 l1 l2 M3 else fX9_does_419  l0 l1 l2 M3)))))))))
set_option maxHeartbeats 4000000 in
set_option maxRecDepth 100000 in
theorem jX9_does_374 (G : Gx) (l : Launch)   (l0 : Nat) (l1 : Int32) (l2 : Int32) (M : Mem) : J G l cX9_does 5 RX9 (some .int) "does" 1 28 (QM G (fun v : Int32 => some (.int v))) 374 [(0, .ref (adr G l0)), (1, .int l1), (2, .int l2)] [] M (fX9_does_374  l0 l1 l2 M) := by
  unfold fX9_does_374
  refine J_aload_n dX9_does_374 0 rfl ?_
  refine J_getR fd_9_1 w_470 rfl dX9_does_375 (fun r1 => ?_)
  refine J_iload_n dX9_does_378 1 rfl ?_
  refine J_dup2 dX9_does_379 rfl rfl ?_
  refine J_iald dX9_does_380 ?_
  refine J_iconst (v := 1) dX9_does_381 (by decide) ?_
  refine J_iadd dX9_does_382 ?_
  refine J_iast dX9_does_383 ?_
  refine J_aload_n dX9_does_384 0 rfl ?_
  refine J_getI fd_9_26 w_581 rfl dX9_does_385 ?_
  refine J_iconst (v := 2) dX9_does_388 (by decide) ?_
  refine J_icmp_eq (tgt := 409) dX9_does_389 (by decide) ?_ ?_
  · refine J_sub [0, 1, 2] rfl ?_
    exact jX9_does_409 G l   _ _ _ _
  · refine J_aload_n dX9_does_392 0 rfl ?_
    refine J_getI fd_9_26 w_581 rfl dX9_does_393 ?_
    refine J_iconst (v := 5) dX9_does_396 (by decide) ?_
    refine J_icmp_eq (tgt := 409) dX9_does_397 (by decide) ?_ ?_
    · refine J_sub [0, 1, 2] rfl ?_
      exact jX9_does_409 G l   _ _ _ _
    · refine J_aload_n dX9_does_400 0 rfl ?_
      refine J_getI fd_9_26 w_581 rfl dX9_does_401 ?_
      refine J_bipush (v := 6) dX9_does_404 (by decide) ?_
      refine J_icmp_ne (tgt := 419) dX9_does_406 (by decide) ?_ ?_
      · refine J_sub [0, 1, 2] rfl ?_
        exact jX9_does_419 G l   _ _ _ _
      · refine J_sub [0, 1, 2] rfl ?_
        exact jX9_does_409 G l   _ _ _ _
def fX9_does_285  (l0 : Nat) (l1 : Int32) (l2 : Int32) (M : Mem) : Option (Int32 × Mem) := (gI M 9 26 l0 fun v1 => (if v1 = (1 : Int32) then (gR M 9 5 l0 fun r2 => (gR M 9 0 l0 fun r3 => (rI M .int r3 l1 fun v4 => (gJ M 9 31 l0 fun v5 => (wJ M r2 (((40 : Int32) * l1) + v4) v5 fun M6 => (gR M6 9 6 l0 fun r7 => (gR M6 9 0 l0 fun r8 => (rI M6 .int r8 l1 fun v9 => (wJ M6 r7 (((40 : Int32) * l1) + v9) (0 : Int64) fun M10 => (gR M10 9 7 l0 fun r11 => (gR M10 9 0 l0 fun r12 => (rI M10 .int r12 l1 fun v13 => (wJ M10 r11 (((40 : Int32) * l1) + v13) (0 : Int64) fun M14 => (gR M14 9 8 l0 fun r15 => (gR M14 9 0 l0 fun r16 => (rI M14 .int r16 l1 fun v17 => (wJ M14 r15 (((40 : Int32) * l1) + v17) (0 : Int64) fun M18 => (gR M18 9 0 l0 fun r19 => (rI M18 .int r19 l1 fun v20 => (wI M18 .int r19 l1 (v20 + (1 : Int32)) fun M21 => fX9_does_374  l0 l1 l2 M21)))))))))))))))))))) else fX9_does_374  l0 l1 l2 M))
set_option maxHeartbeats 4000000 in
set_option maxRecDepth 100000 in
theorem jX9_does_285 (G : Gx) (l : Launch)   (l0 : Nat) (l1 : Int32) (l2 : Int32) (M : Mem) : J G l cX9_does 5 RX9 (some .int) "does" 1 28 (QM G (fun v : Int32 => some (.int v))) 285 [(0, .ref (adr G l0)), (1, .int l1), (2, .int l2)] [] M (fX9_does_285  l0 l1 l2 M) := by
  unfold fX9_does_285
  refine J_aload_n dX9_does_285 0 rfl ?_
  refine J_getI fd_9_26 w_581 rfl dX9_does_286 ?_
  refine J_iconst (v := 1) dX9_does_289 (by decide) ?_
  refine J_icmp_ne (tgt := 374) dX9_does_290 (by decide) ?_ ?_
  · refine J_sub [0, 1, 2] rfl ?_
    exact jX9_does_374 G l   _ _ _ _
  · refine J_aload_n dX9_does_293 0 rfl ?_
    refine J_getR fd_9_5 w_474 rfl dX9_does_294 (fun r2 => ?_)
    refine J_bipush (v := 40) dX9_does_297 (by decide) ?_
    refine J_iload_n dX9_does_299 1 rfl ?_
    refine J_imul dX9_does_300 ?_
    refine J_aload_n dX9_does_301 0 rfl ?_
    refine J_getR fd_9_0 w_469 rfl dX9_does_302 (fun r3 => ?_)
    refine J_iload_n dX9_does_305 1 rfl ?_
    refine J_iald dX9_does_306 ?_
    refine J_iadd dX9_does_307 ?_
    refine J_aload_n dX9_does_308 0 rfl ?_
    refine J_getJ fd_9_31 w_586 rfl dX9_does_309 ?_
    refine J_last dX9_does_312 ?_
    refine J_aload_n dX9_does_313 0 rfl ?_
    refine J_getR fd_9_6 w_475 rfl dX9_does_314 (fun r7 => ?_)
    refine J_bipush (v := 40) dX9_does_317 (by decide) ?_
    refine J_iload_n dX9_does_319 1 rfl ?_
    refine J_imul dX9_does_320 ?_
    refine J_aload_n dX9_does_321 0 rfl ?_
    refine J_getR fd_9_0 w_469 rfl dX9_does_322 (fun r8 => ?_)
    refine J_iload_n dX9_does_325 1 rfl ?_
    refine J_iald dX9_does_326 ?_
    refine J_iadd dX9_does_327 ?_
    refine J_lconst (v := 0) dX9_does_328 (by decide) ?_
    refine J_last dX9_does_329 ?_
    refine J_aload_n dX9_does_330 0 rfl ?_
    refine J_getR fd_9_7 w_476 rfl dX9_does_331 (fun r11 => ?_)
    refine J_bipush (v := 40) dX9_does_334 (by decide) ?_
    refine J_iload_n dX9_does_336 1 rfl ?_
    refine J_imul dX9_does_337 ?_
    refine J_aload_n dX9_does_338 0 rfl ?_
    refine J_getR fd_9_0 w_469 rfl dX9_does_339 (fun r12 => ?_)
    refine J_iload_n dX9_does_342 1 rfl ?_
    refine J_iald dX9_does_343 ?_
    refine J_iadd dX9_does_344 ?_
    refine J_lconst (v := 0) dX9_does_345 (by decide) ?_
    refine J_last dX9_does_346 ?_
    refine J_aload_n dX9_does_347 0 rfl ?_
    refine J_getR fd_9_8 w_477 rfl dX9_does_348 (fun r15 => ?_)
    refine J_bipush (v := 40) dX9_does_351 (by decide) ?_
    refine J_iload_n dX9_does_353 1 rfl ?_
    refine J_imul dX9_does_354 ?_
    refine J_aload_n dX9_does_355 0 rfl ?_
    refine J_getR fd_9_0 w_469 rfl dX9_does_356 (fun r16 => ?_)
    refine J_iload_n dX9_does_359 1 rfl ?_
    refine J_iald dX9_does_360 ?_
    refine J_iadd dX9_does_361 ?_
    refine J_lconst (v := 0) dX9_does_362 (by decide) ?_
    refine J_last dX9_does_363 ?_
    refine J_aload_n dX9_does_364 0 rfl ?_
    refine J_getR fd_9_0 w_469 rfl dX9_does_365 (fun r19 => ?_)
    refine J_iload_n dX9_does_368 1 rfl ?_
    refine J_dup2 dX9_does_369 rfl rfl ?_
    refine J_iald dX9_does_370 ?_
    refine J_iconst (v := 1) dX9_does_371 (by decide) ?_
    refine J_iadd dX9_does_372 ?_
    refine J_iast dX9_does_373 ?_
    refine J_sub [0, 1, 2] rfl ?_
    exact jX9_does_374 G l   _ _ _ _
def fX9_does_277  (l0 : Nat) (l1 : Int32) (l2 : Int32) (l4 : Int32) (M : Mem) : Option (Int32 × Mem) := (gR M 9 17 l0 fun r1 => (wI M .int r1 l4 l2 fun M2 => fX9_does_285  l0 l1 l2 M2))
set_option maxHeartbeats 4000000 in
set_option maxRecDepth 100000 in
theorem jX9_does_277 (G : Gx) (l : Launch)   (l0 : Nat) (l1 : Int32) (l2 : Int32) (l4 : Int32) (M : Mem) : J G l cX9_does 5 RX9 (some .int) "does" 1 28 (QM G (fun v : Int32 => some (.int v))) 277 [(0, .ref (adr G l0)), (1, .int l1), (2, .int l2), (4, .int l4)] [] M (fX9_does_277  l0 l1 l2 l4 M) := by
  unfold fX9_does_277
  refine J_aload_n dX9_does_277 0 rfl ?_
  refine J_getR fd_9_17 w_486 rfl dX9_does_278 (fun r1 => ?_)
  refine J_iload dX9_does_281 3 rfl ?_
  refine J_iload_n dX9_does_283 2 rfl ?_
  refine J_iast dX9_does_284 ?_
  refine J_sub [0, 1, 2] rfl ?_
  exact jX9_does_285 G l   _ _ _ _
def fX9_does_252  (l0 : Nat) (l1 : Int32) (l2 : Int32) (l4 : Int32) (M : Mem) : Option (Int32 × Mem) := (gI M 9 26 l0 fun v1 => (if v1 = (4 : Int32) then fX9_does_277  l0 l1 l2 l4 M else (gI M 9 26 l0 fun v2 => (if v2 = (5 : Int32) then fX9_does_277  l0 l1 l2 l4 M else (gI M 9 26 l0 fun v3 => (if v3 = (6 : Int32) then fX9_does_277  l0 l1 l2 l4 M else fX9_does_285  l0 l1 l2 M))))))
set_option maxHeartbeats 4000000 in
set_option maxRecDepth 100000 in
theorem jX9_does_252 (G : Gx) (l : Launch)   (l0 : Nat) (l1 : Int32) (l2 : Int32) (l4 : Int32) (M : Mem) : J G l cX9_does 5 RX9 (some .int) "does" 1 28 (QM G (fun v : Int32 => some (.int v))) 252 [(0, .ref (adr G l0)), (1, .int l1), (2, .int l2), (4, .int l4)] [] M (fX9_does_252  l0 l1 l2 l4 M) := by
  unfold fX9_does_252
  refine J_aload_n dX9_does_252 0 rfl ?_
  refine J_getI fd_9_26 w_581 rfl dX9_does_253 ?_
  refine J_iconst (v := 4) dX9_does_256 (by decide) ?_
  refine J_icmp_eq (tgt := 277) dX9_does_257 (by decide) ?_ ?_
  · refine J_sub [0, 1, 2, 3] rfl ?_
    exact jX9_does_277 G l   _ _ _ _ _
  · refine J_aload_n dX9_does_260 0 rfl ?_
    refine J_getI fd_9_26 w_581 rfl dX9_does_261 ?_
    refine J_iconst (v := 5) dX9_does_264 (by decide) ?_
    refine J_icmp_eq (tgt := 277) dX9_does_265 (by decide) ?_ ?_
    · refine J_sub [0, 1, 2, 3] rfl ?_
      exact jX9_does_277 G l   _ _ _ _ _
    · refine J_aload_n dX9_does_268 0 rfl ?_
      refine J_getI fd_9_26 w_581 rfl dX9_does_269 ?_
      refine J_bipush (v := 6) dX9_does_272 (by decide) ?_
      refine J_icmp_ne (tgt := 285) dX9_does_274 (by decide) ?_ ?_
      · refine J_sub [0, 1, 2] rfl ?_
        exact jX9_does_285 G l   _ _ _ _
      · refine J_sub [0, 1, 2, 3] rfl ?_
        exact jX9_does_277 G l   _ _ _ _ _
def fX9_does_224  (l0 : Nat) (l1 : Int32) (l2 : Int32) (l4 : Int32) (M : Mem) : Option (Int32 × Mem) := (gR M 9 14 l0 fun r1 => (rI M .int r1 l4 fun v2 => (gR M 9 15 l0 fun r3 => (rJ M r3 l4 fun v4 => (cV M 9 l0 (fX9_hold l0 l1 v2 v4 (-1 : Int32) M) fun _u6 M5 => (gR M5 9 16 l0 fun r7 => (wI M5 .boolean r7 l4 (0 : Int32) fun M8 => fX9_does_252  l0 l1 l2 l4 M8)))))))
set_option maxHeartbeats 4000000 in
set_option maxRecDepth 100000 in
theorem jX9_does_224 (G : Gx) (l : Launch)   (l0 : Nat) (l1 : Int32) (l2 : Int32) (l4 : Int32) (M : Mem) : J G l cX9_does 5 RX9 (some .int) "does" 1 28 (QM G (fun v : Int32 => some (.int v))) 224 [(0, .ref (adr G l0)), (1, .int l1), (2, .int l2), (4, .int l4)] [] M (fX9_does_224  l0 l1 l2 l4 M) := by
  unfold fX9_does_224
  refine J_aload_n dX9_does_224 0 rfl ?_
  refine J_iload_n dX9_does_225 1 rfl ?_
  refine J_aload_n dX9_does_226 0 rfl ?_
  refine J_getR fd_9_14 w_483 rfl dX9_does_227 (fun r1 => ?_)
  refine J_iload dX9_does_230 3 rfl ?_
  refine J_iald dX9_does_232 ?_
  refine J_aload_n dX9_does_233 0 rfl ?_
  refine J_getR fd_9_15 w_484 rfl dX9_does_234 (fun r3 => ?_)
  refine J_iload dX9_does_237 3 rfl ?_
  refine J_lald dX9_does_239 ?_
  refine J_iconst (v := -1) dX9_does_240 (by decide) ?_
  refine J_callVv (okX9_hold G l _ _ _ _ _ _) mkX9_hold _ _ rfl w_632 w_633 w_634 ⟨by decide, by decide⟩ rfl (Nat.le_of_ble_eq_true rfl) dX9_does_241 (fun _u6 M5 => ?_)
  refine J_aload_n dX9_does_244 0 rfl ?_
  refine J_getR fd_9_16 w_485 rfl dX9_does_245 (fun r7 => ?_)
  refine J_iload dX9_does_248 3 rfl ?_
  refine J_iconst (v := 0) dX9_does_250 (by decide) ?_
  refine J_zast dX9_does_251 ?_
  refine J_sub [0, 1, 2, 3] rfl ?_
  exact jX9_does_252 G l   _ _ _ _ _
def fX9_does_196  (l0 : Nat) (l1 : Int32) (l2 : Int32) (M : Mem) : Option (Int32 × Mem) := (gI M 9 28 l0 fun v1 => (gI M 9 26 l0 fun v2 => (if v2 = (4 : Int32) then fX9_does_224  l0 l1 l2 (((200 : Int32) * l1) + v1) M else (gI M 9 26 l0 fun v3 => (if v3 = (5 : Int32) then fX9_does_224  l0 l1 l2 (((200 : Int32) * l1) + v1) M else fX9_does_252  l0 l1 l2 (((200 : Int32) * l1) + v1) M)))))
set_option maxHeartbeats 4000000 in
set_option maxRecDepth 100000 in
theorem jX9_does_196 (G : Gx) (l : Launch)   (l0 : Nat) (l1 : Int32) (l2 : Int32) (M : Mem) : J G l cX9_does 5 RX9 (some .int) "does" 1 28 (QM G (fun v : Int32 => some (.int v))) 196 [(0, .ref (adr G l0)), (1, .int l1), (2, .int l2)] [] M (fX9_does_196  l0 l1 l2 M) := by
  unfold fX9_does_196
  refine J_sipush (v := 200) dX9_does_196 (by decide) ?_
  refine J_iload_n dX9_does_199 1 rfl ?_
  refine J_imul dX9_does_200 ?_
  refine J_aload_n dX9_does_201 0 rfl ?_
  refine J_getI fd_9_28 w_584 rfl dX9_does_202 ?_
  refine J_iadd dX9_does_205 ?_
  refine J_istore (lv' := [(4, .int _), (0, .ref _), (1, .int _), (2, .int _)]) dX9_does_206 (by decide) rfl ?_
  refine J_aload_n dX9_does_208 1 rfl ?_
  refine J_getI fd_9_26 w_581 rfl dX9_does_209 ?_
  refine J_iconst (v := 4) dX9_does_212 (by decide) ?_
  refine J_icmp_eq (tgt := 224) dX9_does_213 (by decide) ?_ ?_
  · refine J_sub [1, 2, 3, 0] rfl ?_
    exact jX9_does_224 G l   _ _ _ _ _
  · refine J_aload_n dX9_does_216 1 rfl ?_
    refine J_getI fd_9_26 w_581 rfl dX9_does_217 ?_
    refine J_iconst (v := 5) dX9_does_220 (by decide) ?_
    refine J_icmp_ne (tgt := 252) dX9_does_221 (by decide) ?_ ?_
    · refine J_sub [1, 2, 3, 0] rfl ?_
      exact jX9_does_252 G l   _ _ _ _ _
    · refine J_sub [1, 2, 3, 0] rfl ?_
      exact jX9_does_224 G l   _ _ _ _ _
def fX9_does_94  : Nat → Nat → Int32 → Int32 → Int32 → Int32 → Mem → Option (Int32 × Mem)
  | 0, _, _, _, _, _, _ => none
  | n + 1, l0, l1, l2, l3, l4, M => (gI M 9 27 l0 fun v1 => (if v1 ≤ l4 then (gI M 9 26 l0 fun v2 => (if v2 = (3 : Int32) then (gI M 9 29 l0 fun v3 => (gJ M 9 31 l0 fun v4 => (cV M 9 l0 (fX9_hold l0 l1 v3 v4 (1 : Int32) M) fun _u6 M5 => fX9_does_196  l0 l1 l2 M5))) else fX9_does_196  l0 l1 l2 M)) else (gR M 9 12 l0 fun r7 => (gR M 9 32 l0 fun r8 => (rI M .int r8 l4 fun v9 => (wI M .int r7 (((8 : Int32) * l3) + l4) v9 fun M10 => (gR M10 9 13 l0 fun r11 => (gR M10 9 33 l0 fun r12 => (rJ M10 r12 l4 fun v13 => (wJ M10 r11 (((8 : Int32) * l3) + l4) v13 fun M14 => (gR M14 9 6 l0 fun r15 => (gR M14 9 32 l0 fun r16 => (rI M14 .int r16 l4 fun v17 => (rJ M14 r15 (((40 : Int32) * l1) + v17) fun v18 => (gR M14 9 33 l0 fun r19 => (rJ M14 r19 l4 fun v20 => (wJ M14 r15 (((40 : Int32) * l1) + v17) (v18 + v20) fun M21 => fX9_does_94  n l0 l1 l2 l3 (l4 + (1 : Int32)) M21)))))))))))))))))
set_option maxHeartbeats 4000000 in
set_option maxRecDepth 100000 in
theorem jX9_does_94 (G : Gx) (l : Launch)   : ∀ (n : Nat) (l0 : Nat) (l1 : Int32) (l2 : Int32) (l3 : Int32) (l4 : Int32) (M : Mem), J G l cX9_does 5 RX9 (some .int) "does" 1 28 (QM G (fun v : Int32 => some (.int v))) 94 [(0, .ref (adr G l0)), (1, .int l1), (2, .int l2), (3, .int l3), (4, .int l4)] [] M (fX9_does_94  n l0 l1 l2 l3 l4 M) := by
  intro n
  induction n with
  | zero => intro l0 l1 l2 l3 l4 M; exact J_none
  | succ n ih =>
    intro l0 l1 l2 l3 l4 M
    rw [fX9_does_94]
    refine J_iload dX9_does_94 4 rfl ?_
    refine J_aload_n dX9_does_96 0 rfl ?_
    refine J_getI fd_9_27 w_583 rfl dX9_does_97 ?_
    refine J_icmp_ge (tgt := 174) dX9_does_100 (by decide) ?_ ?_
    · refine J_aload_n dX9_does_174 0 rfl ?_
      refine J_getI fd_9_26 w_581 rfl dX9_does_175 ?_
      refine J_iconst (v := 3) dX9_does_178 (by decide) ?_
      refine J_icmp_ne (tgt := 196) dX9_does_179 (by decide) ?_ ?_
      · refine J_sub [0, 1, 2] rfl ?_
        exact jX9_does_196 G l   _ _ _ _
      · refine J_aload_n dX9_does_182 0 rfl ?_
        refine J_iload_n dX9_does_183 1 rfl ?_
        refine J_aload_n dX9_does_184 0 rfl ?_
        refine J_getI fd_9_29 w_585 rfl dX9_does_185 ?_
        refine J_aload_n dX9_does_188 0 rfl ?_
        refine J_getJ fd_9_31 w_586 rfl dX9_does_189 ?_
        refine J_iconst (v := 1) dX9_does_192 (by decide) ?_
        refine J_callVv (okX9_hold G l _ _ _ _ _ _) mkX9_hold _ _ rfl w_632 w_633 w_634 ⟨by decide, by decide⟩ rfl (Nat.le_of_ble_eq_true rfl) dX9_does_193 (fun _u6 M5 => ?_)
        refine J_sub [0, 1, 2] rfl ?_
        exact jX9_does_196 G l   _ _ _ _
    · refine J_aload_n dX9_does_103 0 rfl ?_
      refine J_getR fd_9_12 w_481 rfl dX9_does_104 (fun r7 => ?_)
      refine J_bipush (v := 8) dX9_does_107 (by decide) ?_
      refine J_iload_n dX9_does_109 3 rfl ?_
      refine J_imul dX9_does_110 ?_
      refine J_iload dX9_does_111 4 rfl ?_
      refine J_iadd dX9_does_113 ?_
      refine J_aload_n dX9_does_114 0 rfl ?_
      refine J_getR fd_9_32 w_493 rfl dX9_does_115 (fun r8 => ?_)
      refine J_iload dX9_does_118 4 rfl ?_
      refine J_iald dX9_does_120 ?_
      refine J_iast dX9_does_121 ?_
      refine J_aload_n dX9_does_122 0 rfl ?_
      refine J_getR fd_9_13 w_482 rfl dX9_does_123 (fun r11 => ?_)
      refine J_bipush (v := 8) dX9_does_126 (by decide) ?_
      refine J_iload_n dX9_does_128 3 rfl ?_
      refine J_imul dX9_does_129 ?_
      refine J_iload dX9_does_130 4 rfl ?_
      refine J_iadd dX9_does_132 ?_
      refine J_aload_n dX9_does_133 0 rfl ?_
      refine J_getR fd_9_33 w_494 rfl dX9_does_134 (fun r12 => ?_)
      refine J_iload dX9_does_137 4 rfl ?_
      refine J_lald dX9_does_139 ?_
      refine J_last dX9_does_140 ?_
      refine J_aload_n dX9_does_141 0 rfl ?_
      refine J_getR fd_9_6 w_475 rfl dX9_does_142 (fun r15 => ?_)
      refine J_bipush (v := 40) dX9_does_145 (by decide) ?_
      refine J_iload_n dX9_does_147 1 rfl ?_
      refine J_imul dX9_does_148 ?_
      refine J_aload_n dX9_does_149 0 rfl ?_
      refine J_getR fd_9_32 w_493 rfl dX9_does_150 (fun r16 => ?_)
      refine J_iload dX9_does_153 4 rfl ?_
      refine J_iald dX9_does_155 ?_
      refine J_iadd dX9_does_156 ?_
      refine J_dup2 dX9_does_157 rfl rfl ?_
      refine J_lald dX9_does_158 ?_
      refine J_aload_n dX9_does_159 0 rfl ?_
      refine J_getR fd_9_33 w_494 rfl dX9_does_160 (fun r19 => ?_)
      refine J_iload dX9_does_163 4 rfl ?_
      refine J_lald dX9_does_165 ?_
      refine J_ladd dX9_does_166 ?_
      refine J_last dX9_does_167 ?_
      refine J_iincK (z := 1) (lv' := [(4, .int _), (0, .ref _), (1, .int _), (2, .int _), (3, .int _)]) dX9_does_168 4 rfl (by decide) (by decide) rfl ?_
      refine J_goto (tgt := 94) dX9_does_171 (by decide) ?_
      refine J_sub [1, 2, 3, 4, 0] rfl ?_
      exact ih _ _ _ _ _ _
def fX9_does_63  (l0 : Nat) (l1 : Int32) (l2 : Int32) (l3 : Int32) (s0 : Int32) (s1 : Int32) (s2 : Nat) (M : Mem) : Option (Int32 × Mem) := (wI M .boolean s2 s1 s0 fun M1 => (gR M1 9 17 l0 fun r2 => (wI M1 .int r2 l3 (-1 : Int32) fun M3 => (gR M3 9 14 l0 fun r4 => (gI M3 9 29 l0 fun v5 => (wI M3 .int r4 l3 v5 fun M6 => (gR M6 9 15 l0 fun r7 => (gJ M6 9 31 l0 fun v8 => (wJ M6 r7 l3 v8 fun M9 => fX9_does_94  FU l0 l1 l2 l3 (0 : Int32) M9)))))))))
set_option maxHeartbeats 4000000 in
set_option maxRecDepth 100000 in
theorem jX9_does_63 (G : Gx) (l : Launch)   (l0 : Nat) (l1 : Int32) (l2 : Int32) (l3 : Int32) (s0 : Int32) (s1 : Int32) (s2 : Nat) (M : Mem) : J G l cX9_does 5 RX9 (some .int) "does" 1 28 (QM G (fun v : Int32 => some (.int v))) 63 [(0, .ref (adr G l0)), (1, .int l1), (2, .int l2), (3, .int l3)] [.int s0, .int s1, .ref (adr G s2)] M (fX9_does_63  l0 l1 l2 l3 s0 s1 s2 M) := by
  unfold fX9_does_63
  refine J_zast dX9_does_63 ?_
  refine J_aload_n dX9_does_64 0 rfl ?_
  refine J_getR fd_9_17 w_486 rfl dX9_does_65 (fun r2 => ?_)
  refine J_iload_n dX9_does_68 3 rfl ?_
  refine J_iconst (v := -1) dX9_does_69 (by decide) ?_
  refine J_iast dX9_does_70 ?_
  refine J_aload_n dX9_does_71 0 rfl ?_
  refine J_getR fd_9_14 w_483 rfl dX9_does_72 (fun r4 => ?_)
  refine J_iload_n dX9_does_75 3 rfl ?_
  refine J_aload_n dX9_does_76 0 rfl ?_
  refine J_getI fd_9_29 w_585 rfl dX9_does_77 ?_
  refine J_iast dX9_does_80 ?_
  refine J_aload_n dX9_does_81 0 rfl ?_
  refine J_getR fd_9_15 w_484 rfl dX9_does_82 (fun r7 => ?_)
  refine J_iload_n dX9_does_85 3 rfl ?_
  refine J_aload_n dX9_does_86 0 rfl ?_
  refine J_getJ fd_9_31 w_586 rfl dX9_does_87 ?_
  refine J_last dX9_does_90 ?_
  refine J_iconst (v := 0) dX9_does_91 (by decide) ?_
  refine J_istore (lv' := [(4, .int _), (0, .ref _), (1, .int _), (2, .int _), (3, .int _)]) dX9_does_92 (by decide) rfl ?_
  refine J_sub [1, 2, 3, 4, 0] rfl ?_
  exact jX9_does_94 G l   FU _ _ _ _ _ _
def fX9_does (l0 : Nat) (l1 : Int32) (M : Mem) : Option (Int32 × Mem) := (gR M 9 1 l0 fun r1 => (rI M .int r1 l1 fun v2 => (gR M 9 9 l0 fun r3 => (gI M 9 26 l0 fun v4 => (wI M .int r3 (((200 : Int32) * l1) + v2) v4 fun M5 => (gR M5 9 10 l0 fun r6 => (gJ M5 9 30 l0 fun v7 => (wJ M5 r6 (((200 : Int32) * l1) + v2) v7 fun M8 => (gR M8 9 11 l0 fun r9 => (gI M8 9 27 l0 fun v10 => (wI M8 .int r9 (((200 : Int32) * l1) + v2) v10 fun M11 => (gR M11 9 16 l0 fun r12 => (gI M11 9 26 l0 fun v13 => (if v13 = (3 : Int32) then fX9_does_63  l0 l1 v2 (((200 : Int32) * l1) + v2) (1 : Int32) (((200 : Int32) * l1) + v2) r12 M11 else fX9_does_63  l0 l1 v2 (((200 : Int32) * l1) + v2) (0 : Int32) (((200 : Int32) * l1) + v2) r12 M11))))))))))))))
set_option maxHeartbeats 4000000 in
set_option maxRecDepth 100000 in
theorem jX9_does (G : Gx) (l : Launch) (l0 : Nat) (l1 : Int32) (M : Mem) : J G l cX9_does 5 RX9 (some .int) "does" 1 28 (QM G (fun v : Int32 => some (.int v))) 0 [(0, .ref (adr G l0)), (1, .int l1)] [] M (fX9_does l0 l1 M) := by
  unfold fX9_does
  refine J_aload_n dX9_does_0 0 rfl ?_
  refine J_getR fd_9_1 w_470 rfl dX9_does_1 (fun r1 => ?_)
  refine J_iload_n dX9_does_4 1 rfl ?_
  refine J_iald dX9_does_5 ?_
  refine J_istore_n (lv' := [(2, .int _), (0, .ref _), (1, .int _)]) dX9_does_6 (by decide) rfl ?_
  refine J_sipush (v := 200) dX9_does_7 (by decide) ?_
  refine J_iload_n dX9_does_10 2 rfl ?_
  refine J_imul dX9_does_11 ?_
  refine J_iload_n dX9_does_12 0 rfl ?_
  refine J_iadd dX9_does_13 ?_
  refine J_istore_n (lv' := [(3, .int _), (2, .int _), (0, .ref _), (1, .int _)]) dX9_does_14 (by decide) rfl ?_
  refine J_aload_n dX9_does_15 2 rfl ?_
  refine J_getR fd_9_9 w_478 rfl dX9_does_16 (fun r3 => ?_)
  refine J_iload_n dX9_does_19 0 rfl ?_
  refine J_aload_n dX9_does_20 2 rfl ?_
  refine J_getI fd_9_26 w_581 rfl dX9_does_21 ?_
  refine J_iast dX9_does_24 ?_
  refine J_aload_n dX9_does_25 2 rfl ?_
  refine J_getR fd_9_10 w_479 rfl dX9_does_26 (fun r6 => ?_)
  refine J_iload_n dX9_does_29 0 rfl ?_
  refine J_aload_n dX9_does_30 2 rfl ?_
  refine J_getJ fd_9_30 w_582 rfl dX9_does_31 ?_
  refine J_last dX9_does_34 ?_
  refine J_aload_n dX9_does_35 2 rfl ?_
  refine J_getR fd_9_11 w_480 rfl dX9_does_36 (fun r9 => ?_)
  refine J_iload_n dX9_does_39 0 rfl ?_
  refine J_aload_n dX9_does_40 2 rfl ?_
  refine J_getI fd_9_27 w_583 rfl dX9_does_41 ?_
  refine J_iast dX9_does_44 ?_
  refine J_aload_n dX9_does_45 2 rfl ?_
  refine J_getR fd_9_16 w_485 rfl dX9_does_46 (fun r12 => ?_)
  refine J_iload_n dX9_does_49 0 rfl ?_
  refine J_aload_n dX9_does_50 2 rfl ?_
  refine J_getI fd_9_26 w_581 rfl dX9_does_51 ?_
  refine J_iconst (v := 3) dX9_does_54 (by decide) ?_
  refine J_icmp_ne (tgt := 62) dX9_does_55 (by decide) ?_ ?_
  · refine J_iconst (v := 0) dX9_does_62 (by decide) ?_
    refine J_sub [2, 3, 1, 0] rfl ?_
    exact jX9_does_63 G l   _ _ _ _ _ _ _ _
  · refine J_iconst (v := 1) dX9_does_58 (by decide) ?_
    refine J_goto (tgt := 63) dX9_does_59 (by decide) ?_
    refine J_sub [2, 3, 1, 0] rfl ?_
    exact jX9_does_63 G l   _ _ _ _ _ _ _ _
theorem okX9_does (G : Gx) (l : Launch) (l0 : Nat) (l1 : Int32) (M : Mem) : Con G l yX9_does cX9_does 5 (some .int) 1 28 (fun v : Int32 => some (.int v)) [.ref (adr G l0), .int l1] M (fX9_does l0 l1 M) := con_of (own := RX9) (nm := "does") (by decide +kernel) rfl rfl (Nat.le_of_ble_eq_true rfl) (jX9_does G l l0 l1 M)
theorem mkX9_does : MOk yX9_does cX9_does 5 (some .int) 1 := ⟨w_635, tb1 (List.mem_of_getElem? (i := 10) rfl) rfl, by decide +kernel, by decide +kernel, by decide +kernel⟩
-- X9_trial
def fX9_trial_130  : Nat → Nat → Int64 → Int32 → Mem → Option (Unit × Mem)
  | 0, _, _, _, _ => none
  | n + 1, l0, l4, l6, M => (if l6 < 0 then some ((), M) else (cV M 9 l0 (fX9_put l0 ((yshr l4 l6) &&& (255 : Int64)).toInt32 M) fun _u2 M1 => fX9_trial_130  n l0 l4 (l6 + (-8 : Int32)) M1))
set_option maxHeartbeats 4000000 in
set_option maxRecDepth 100000 in
theorem jX9_trial_130 (G : Gx) (l : Launch)   : ∀ (n : Nat) (l0 : Nat) (l4 : Int64) (l6 : Int32) (M : Mem), J G l cX9_trial 9 RX9 none "trial" 3 67 (QM G (fun _ : Unit => none)) 130 [(0, .ref (adr G l0)), (4, .long l4), (6, .int l6)] [] M (fX9_trial_130  n l0 l4 l6 M) := by
  intro n
  induction n with
  | zero => intro l0 l4 l6 M; exact J_none
  | succ n ih =>
    intro l0 l4 l6 M
    rw [fX9_trial_130]
    refine J_iload dX9_trial_130 2 rfl ?_
    refine J_if_lt (tgt := 155) dX9_trial_132 (by decide) ?_ ?_
    · exact J_vret dX9_trial_155
    · refine J_aload_n dX9_trial_135 0 rfl ?_
      refine J_lload dX9_trial_136 1 rfl ?_
      refine J_iload dX9_trial_138 2 rfl ?_
      refine J_lshrK dX9_trial_140 ?_
      refine J_ldc2 (v := 255) dX9_trial_141 w_592 ?_
      refine J_land dX9_trial_144 ?_
      refine J_l2i dX9_trial_145 ?_
      refine J_callVv (okX9_put G l _ _ _) mkX9_put _ _ rfl w_589 w_590 w_591 ⟨by decide, by decide⟩ rfl (Nat.le_of_ble_eq_true rfl) dX9_trial_146 (fun _u2 M1 => ?_)
      refine J_iincK (z := -8) (lv' := [(6, .int _), (0, .ref _), (4, .long _)]) dX9_trial_149 2 rfl (by decide) (by decide) rfl ?_
      refine J_goto (tgt := 130) dX9_trial_152 (by decide) ?_
      refine J_sub [1, 2, 0] rfl ?_
      exact ih _ _ _ _
def fX9_trial_104  : Nat → Nat → Int64 → Int64 → Int32 → Mem → Option (Unit × Mem)
  | 0, _, _, _, _, _ => none
  | n + 1, l0, l2, l4, l6, M => (if (4 : Int32) ≤ l6 then (cV M 9 l0 (fX9_putLong l0 l2 M) fun _u2 M1 => fX9_trial_130  FU l0 l4 (24 : Int32) M1) else (cV M 9 l0 (fX9_put l0 (0 : Int32) M) fun _u4 M3 => fX9_trial_104  n l0 l2 l4 (l6 + (1 : Int32)) M3))
set_option maxHeartbeats 4000000 in
set_option maxRecDepth 100000 in
theorem jX9_trial_104 (G : Gx) (l : Launch)   : ∀ (n : Nat) (l0 : Nat) (l2 : Int64) (l4 : Int64) (l6 : Int32) (M : Mem), J G l cX9_trial 9 RX9 none "trial" 3 67 (QM G (fun _ : Unit => none)) 104 [(0, .ref (adr G l0)), (2, .long l2), (4, .long l4), (6, .int l6)] [] M (fX9_trial_104  n l0 l2 l4 l6 M) := by
  intro n
  induction n with
  | zero => intro l0 l2 l4 l6 M; exact J_none
  | succ n ih =>
    intro l0 l2 l4 l6 M
    rw [fX9_trial_104]
    refine J_iload dX9_trial_104 3 rfl ?_
    refine J_iconst (v := 4) dX9_trial_106 (by decide) ?_
    refine J_icmp_ge (tgt := 121) dX9_trial_107 (by decide) ?_ ?_
    · refine J_aload_n dX9_trial_121 0 rfl ?_
      refine J_lload_n dX9_trial_122 1 rfl ?_
      refine J_callVv (okX9_putLong G l _ _ _) mkX9_putLong _ _ rfl w_594 w_595 w_596 ⟨by decide, by decide⟩ rfl (Nat.le_of_ble_eq_true rfl) dX9_trial_123 (fun _u2 M1 => ?_)
      refine J_bipush (v := 24) dX9_trial_126 (by decide) ?_
      refine J_istore (lv' := [(6, .int _), (0, .ref _), (2, .long _), (4, .long _)]) dX9_trial_128 (by decide) rfl ?_
      refine J_sub [1, 3, 0] rfl ?_
      exact jX9_trial_130 G l   FU _ _ _ _
    · refine J_aload_n dX9_trial_110 0 rfl ?_
      refine J_iconst (v := 0) dX9_trial_111 (by decide) ?_
      refine J_callVv (okX9_put G l _ _ _) mkX9_put _ _ rfl w_589 w_590 w_591 ⟨by decide, by decide⟩ rfl (Nat.le_of_ble_eq_true rfl) dX9_trial_112 (fun _u4 M3 => ?_)
      refine J_iincK (z := 1) (lv' := [(6, .int _), (0, .ref _), (2, .long _), (4, .long _)]) dX9_trial_115 3 rfl (by decide) (by decide) rfl ?_
      refine J_goto (tgt := 104) dX9_trial_118 (by decide) ?_
      refine J_sub [1, 2, 3, 0] rfl ?_
      exact ih _ _ _ _ _
def fX9_trial_79 (k25 : Nat → Int32 → Int64 → Int64 → Int32 → Mem → Option (Unit × Mem)) (l0 : Nat) (l1 : Int32) (l2 : Int64) (l4 : Int64) (l6 : Int32) (M : Mem) : Option (Unit × Mem) := k25 l0 l1 l2 l4 (l6 + (1 : Int32)) M
set_option maxHeartbeats 4000000 in
set_option maxRecDepth 100000 in
theorem jX9_trial_79 (G : Gx) (l : Launch) (k25 : Nat → Int32 → Int64 → Int64 → Int32 → Mem → Option (Unit × Mem)) (h25 : ∀ (l0 : Nat) (l1 : Int32) (l2 : Int64) (l4 : Int64) (l6 : Int32) (M : Mem), J G l cX9_trial 9 RX9 none "trial" 3 67 (QM G (fun _ : Unit => none)) 25 [(0, .ref (adr G l0)), (1, .int l1), (2, .long l2), (4, .long l4), (6, .int l6)] [] M (k25 l0 l1 l2 l4 l6 M)) (l0 : Nat) (l1 : Int32) (l2 : Int64) (l4 : Int64) (l6 : Int32) (M : Mem) : J G l cX9_trial 9 RX9 none "trial" 3 67 (QM G (fun _ : Unit => none)) 79 [(0, .ref (adr G l0)), (1, .int l1), (2, .long l2), (4, .long l4), (6, .int l6)] [] M (fX9_trial_79 k25 l0 l1 l2 l4 l6 M) := by
  unfold fX9_trial_79
  refine J_iincK (z := 1) (lv' := [(6, .int _), (0, .ref _), (1, .int _), (2, .long _), (4, .long _)]) dX9_trial_79 4 rfl (by decide) (by decide) rfl ?_
  refine J_goto (tgt := 25) dX9_trial_82 (by decide) ?_
  refine J_sub [1, 2, 3, 4, 0] rfl ?_
  exact h25 _ _ _ _ _ _
def fX9_trial_25  : Nat → Nat → Int32 → Int64 → Int64 → Int32 → Mem → Option (Unit × Mem)
  | 0, _, _, _, _, _, _ => none
  | n + 1, l0, l1, l2, l4, l6, M => (gR M 9 0 l0 fun r1 => (rI M .int r1 l1 fun v2 => (if v2 ≤ l6 then fX9_trial_104  FU l0 (l2 + (yshr l4 (32 : Int32))) (l4 &&& (4294967295 : Int64)) (0 : Int32) M else (gR M 9 6 l0 fun r3 => (rJ M r3 (((40 : Int32) * l1) + l6) fun v4 => (if (0 : Int64) < v4 then fX9_trial_79 (fX9_trial_25  n) l0 l1 (l2 + (yshr v4 (32 : Int32))) (l4 + (v4 &&& (4294967295 : Int64))) l6 M else fX9_trial_79 (fX9_trial_25  n) l0 l1 l2 l4 l6 M))))))
set_option maxHeartbeats 4000000 in
set_option maxRecDepth 100000 in
theorem jX9_trial_25 (G : Gx) (l : Launch)   : ∀ (n : Nat) (l0 : Nat) (l1 : Int32) (l2 : Int64) (l4 : Int64) (l6 : Int32) (M : Mem), J G l cX9_trial 9 RX9 none "trial" 3 67 (QM G (fun _ : Unit => none)) 25 [(0, .ref (adr G l0)), (1, .int l1), (2, .long l2), (4, .long l4), (6, .int l6)] [] M (fX9_trial_25  n l0 l1 l2 l4 l6 M) := by
  intro n
  induction n with
  | zero => intro l0 l1 l2 l4 l6 M; exact J_none
  | succ n ih =>
    intro l0 l1 l2 l4 l6 M
    rw [fX9_trial_25]
    refine J_iload dX9_trial_25 4 rfl ?_
    refine J_aload_n dX9_trial_27 0 rfl ?_
    refine J_getR fd_9_0 w_469 rfl dX9_trial_28 (fun r1 => ?_)
    refine J_iload_n dX9_trial_31 1 rfl ?_
    refine J_iald dX9_trial_32 ?_
    refine J_icmp_ge (tgt := 85) dX9_trial_33 (by decide) ?_ ?_
    · refine J_lload_n dX9_trial_85 2 rfl ?_
      refine J_lload dX9_trial_86 3 rfl ?_
      refine J_bipush (v := 32) dX9_trial_88 (by decide) ?_
      refine J_lshrK dX9_trial_90 ?_
      refine J_ladd dX9_trial_91 ?_
      refine J_lstore_n (lv' := [(2, .long _), (0, .ref _), (1, .int _), (4, .long _), (6, .int _)]) dX9_trial_92 (by decide) rfl ?_
      refine J_lload dX9_trial_93 3 rfl ?_
      refine J_ldc2 (v := 4294967295) dX9_trial_95 w_614 ?_
      refine J_land dX9_trial_98 ?_
      refine J_lstore (lv' := [(4, .long _), (2, .long _), (0, .ref _), (1, .int _), (6, .int _)]) dX9_trial_99 (by decide) rfl ?_
      refine J_iconst (v := 0) dX9_trial_101 (by decide) ?_
      refine J_istore (lv' := [(6, .int _), (4, .long _), (2, .long _), (0, .ref _), (1, .int _)]) dX9_trial_102 (by decide) rfl ?_
      refine J_sub [3, 2, 1, 0] rfl ?_
      exact jX9_trial_104 G l   FU _ _ _ _ _
    · refine J_aload_n dX9_trial_36 0 rfl ?_
      refine J_getR fd_9_6 w_475 rfl dX9_trial_37 (fun r3 => ?_)
      refine J_bipush (v := 40) dX9_trial_40 (by decide) ?_
      refine J_iload_n dX9_trial_42 1 rfl ?_
      refine J_imul dX9_trial_43 ?_
      refine J_iload dX9_trial_44 4 rfl ?_
      refine J_iadd dX9_trial_46 ?_
      refine J_lald dX9_trial_47 ?_
      refine J_lstore (lv' := [(7, .long _), (0, .ref _), (1, .int _), (2, .long _), (4, .long _), (6, .int _)]) dX9_trial_48 (by decide) rfl ?_
      refine J_lload dX9_trial_50 0 rfl ?_
      refine J_lconst (v := 0) dX9_trial_52 (by decide) ?_
      refine J_lcmp_gt (tgt := 60) dX9_trial_53 dX9_trial_54 (by decide) ?_ ?_
      · refine J_lload_n dX9_trial_60 3 rfl ?_
        refine J_lload dX9_trial_61 0 rfl ?_
        refine J_bipush (v := 32) dX9_trial_63 (by decide) ?_
        refine J_lshrK dX9_trial_65 ?_
        refine J_ladd dX9_trial_66 ?_
        refine J_lstore_n (lv' := [(2, .long _), (7, .long _), (0, .ref _), (1, .int _), (4, .long _), (6, .int _)]) dX9_trial_67 (by decide) rfl ?_
        refine J_lload dX9_trial_68 4 rfl ?_
        refine J_lload dX9_trial_70 1 rfl ?_
        refine J_ldc2 (v := 4294967295) dX9_trial_72 w_614 ?_
        refine J_land dX9_trial_75 ?_
        refine J_ladd dX9_trial_76 ?_
        refine J_lstore (lv' := [(4, .long _), (2, .long _), (7, .long _), (0, .ref _), (1, .int _), (6, .int _)]) dX9_trial_77 (by decide) rfl ?_
        refine J_sub [3, 4, 1, 0, 5] rfl ?_
        exact jX9_trial_79 G l _ ih _ _ _ _ _ _
      · refine J_goto (tgt := 79) dX9_trial_57 (by decide) ?_
        refine J_sub [1, 2, 3, 4, 5] rfl ?_
        exact jX9_trial_79 G l _ ih _ _ _ _ _ _
def fX9_trial (l0 : Nat) (l1 : Int32) (M : Mem) : Option (Unit × Mem) := (cV M 9 l0 (fX9_begins l0 (7 : Int32) (0 : Int64) M) fun _u2 M1 => (gR M1 9 0 l0 fun r3 => (rI M1 .int r3 l1 fun v4 => (cV M1 9 l0 (fX9_put l0 v4 M1) fun _u6 M5 => fX9_trial_25  FU l0 l1 (0 : Int64) (0 : Int64) (0 : Int32) M5))))
set_option maxHeartbeats 4000000 in
set_option maxRecDepth 100000 in
theorem jX9_trial (G : Gx) (l : Launch) (l0 : Nat) (l1 : Int32) (M : Mem) : J G l cX9_trial 9 RX9 none "trial" 3 67 (QM G (fun _ : Unit => none)) 0 [(0, .ref (adr G l0)), (1, .int l1)] [] M (fX9_trial l0 l1 M) := by
  unfold fX9_trial
  refine J_aload_n dX9_trial_0 0 rfl ?_
  refine J_bipush (v := 7) dX9_trial_1 (by decide) ?_
  refine J_lconst (v := 0) dX9_trial_3 (by decide) ?_
  refine J_callVv (okX9_begins G l _ _ _ _) mkX9_begins _ _ rfl w_636 w_637 w_638 ⟨by decide, by decide⟩ rfl (Nat.le_of_ble_eq_true rfl) dX9_trial_4 (fun _u2 M1 => ?_)
  refine J_aload_n dX9_trial_7 0 rfl ?_
  refine J_aload_n dX9_trial_8 0 rfl ?_
  refine J_getR fd_9_0 w_469 rfl dX9_trial_9 (fun r3 => ?_)
  refine J_iload_n dX9_trial_12 1 rfl ?_
  refine J_iald dX9_trial_13 ?_
  refine J_callVv (okX9_put G l _ _ _) mkX9_put _ _ rfl w_589 w_590 w_591 ⟨by decide, by decide⟩ rfl (Nat.le_of_ble_eq_true rfl) dX9_trial_14 (fun _u6 M5 => ?_)
  refine J_lconst (v := 0) dX9_trial_17 (by decide) ?_
  refine J_lstore_n (lv' := [(2, .long _), (0, .ref _), (1, .int _)]) dX9_trial_18 (by decide) rfl ?_
  refine J_lconst (v := 0) dX9_trial_19 (by decide) ?_
  refine J_lstore (lv' := [(4, .long _), (2, .long _), (0, .ref _), (1, .int _)]) dX9_trial_20 (by decide) rfl ?_
  refine J_iconst (v := 0) dX9_trial_22 (by decide) ?_
  refine J_istore (lv' := [(6, .int _), (4, .long _), (2, .long _), (0, .ref _), (1, .int _)]) dX9_trial_23 (by decide) rfl ?_
  refine J_sub [3, 4, 2, 1, 0] rfl ?_
  exact jX9_trial_25 G l   FU _ _ _ _ _ _
theorem okX9_trial (G : Gx) (l : Launch) (l0 : Nat) (l1 : Int32) (M : Mem) : Con G l yX9_trial cX9_trial 9 none 3 67 (fun _ : Unit => none) [.ref (adr G l0), .int l1] M (fX9_trial l0 l1 M) := con_of (own := RX9) (nm := "trial") (by decide +kernel) rfl rfl (Nat.le_of_ble_eq_true rfl) (jX9_trial G l l0 l1 M)
theorem mkX9_trial : MOk yX9_trial cX9_trial 9 none 1 := ⟨w_639, tb1 (List.mem_of_getElem? (i := 10) rfl) rfl, by decide +kernel, by decide +kernel, by decide +kernel⟩
-- X9_writes
def fX9_writes_29  : Nat → Nat → Int32 → Mem → Option (Unit × Mem)
  | 0, _, _, _ => none
  | n + 1, l0, l2, M => (gI M 9 35 l0 fun v1 => (if v1 ≤ l2 then some ((), M) else (gR M 9 18 l0 fun r2 => (gI M 9 20 l0 fun v3 => (gR M 9 34 l0 fun r4 => (rI M .int r4 l2 fun v5 => (wI M .int r2 v3 v5 fun M6 => (gR M6 9 19 l0 fun r7 => (gI M6 9 20 l0 fun v8 => (gR M6 9 34 l0 fun r9 => (rI M6 .int r9 l2 fun v10 => (wI M6 .int r7 v8 v10 fun M11 => (gI M11 9 20 l0 fun v12 => (pI M11 9 20 l0 (v12 + (1 : Int32)) fun M13 => fX9_writes_29  n l0 (l2 + (1 : Int32)) M13))))))))))))))
set_option maxHeartbeats 4000000 in
set_option maxRecDepth 100000 in
theorem jX9_writes_29 (G : Gx) (l : Launch)   : ∀ (n : Nat) (l0 : Nat) (l2 : Int32) (M : Mem), J G l cX9_writes 3 RX9 none "writes" 0 0 (QM G (fun _ : Unit => none)) 29 [(0, .ref (adr G l0)), (2, .int l2)] [] M (fX9_writes_29  n l0 l2 M) := by
  intro n
  induction n with
  | zero => intro l0 l2 M; exact J_none
  | succ n ih =>
    intro l0 l2 M
    rw [fX9_writes_29]
    refine J_iload_n dX9_writes_29 1 rfl ?_
    refine J_aload_n dX9_writes_30 0 rfl ?_
    refine J_getI fd_9_35 w_587 rfl dX9_writes_31 ?_
    refine J_icmp_ge (tgt := 83) dX9_writes_34 (by decide) ?_ ?_
    · exact J_vret dX9_writes_83
    · refine J_aload_n dX9_writes_37 0 rfl ?_
      refine J_getR fd_9_18 w_487 rfl dX9_writes_38 (fun r2 => ?_)
      refine J_aload_n dX9_writes_41 0 rfl ?_
      refine J_getI fd_9_20 w_640 rfl dX9_writes_42 ?_
      refine J_aload_n dX9_writes_45 0 rfl ?_
      refine J_getR fd_9_34 w_495 rfl dX9_writes_46 (fun r4 => ?_)
      refine J_iload_n dX9_writes_49 1 rfl ?_
      refine J_iald dX9_writes_50 ?_
      refine J_iast dX9_writes_51 ?_
      refine J_aload_n dX9_writes_52 0 rfl ?_
      refine J_getR fd_9_19 w_488 rfl dX9_writes_53 (fun r7 => ?_)
      refine J_aload_n dX9_writes_56 0 rfl ?_
      refine J_getI fd_9_20 w_640 rfl dX9_writes_57 ?_
      refine J_aload_n dX9_writes_60 0 rfl ?_
      refine J_getR fd_9_34 w_495 rfl dX9_writes_61 (fun r9 => ?_)
      refine J_iload_n dX9_writes_64 1 rfl ?_
      refine J_iald dX9_writes_65 ?_
      refine J_iast dX9_writes_66 ?_
      refine J_aload_n dX9_writes_67 0 rfl ?_
      refine J_dup dX9_writes_68 rfl ?_
      refine J_getI fd_9_20 w_640 rfl dX9_writes_69 ?_
      refine J_iconst (v := 1) dX9_writes_72 (by decide) ?_
      refine J_iadd dX9_writes_73 ?_
      refine J_putI fd_9_20 w_640 dX9_writes_74 ?_
      refine J_iincK (z := 1) (lv' := [(2, .int _), (0, .ref _)]) dX9_writes_77 1 rfl (by decide) (by decide) rfl ?_
      refine J_goto (tgt := 29) dX9_writes_80 (by decide) ?_
      refine J_sub [1, 0] rfl ?_
      exact ih _ _ _
def fX9_writes (l0 : Nat) (M : Mem) : Option (Unit × Mem) := (gR M 9 1 l0 fun r1 => (rI M .int r1 (0 : Int32) fun v2 => (gR M 9 21 l0 fun r3 => (gI M 9 20 l0 fun v4 => (wI M .int r3 v2 v4 fun M5 => (gR M5 9 22 l0 fun r6 => (gI M5 9 35 l0 fun v7 => (wI M5 .int r6 v2 v7 fun M8 => fX9_writes_29  FU l0 (0 : Int32) M8))))))))
set_option maxHeartbeats 4000000 in
set_option maxRecDepth 100000 in
theorem jX9_writes (G : Gx) (l : Launch) (l0 : Nat) (M : Mem) : J G l cX9_writes 3 RX9 none "writes" 0 0 (QM G (fun _ : Unit => none)) 0 [(0, .ref (adr G l0))] [] M (fX9_writes l0 M) := by
  unfold fX9_writes
  refine J_aload_n dX9_writes_0 0 rfl ?_
  refine J_getR fd_9_1 w_470 rfl dX9_writes_1 (fun r1 => ?_)
  refine J_iconst (v := 0) dX9_writes_4 (by decide) ?_
  refine J_iald dX9_writes_5 ?_
  refine J_istore_n (lv' := [(1, .int _), (0, .ref _)]) dX9_writes_6 (by decide) rfl ?_
  refine J_aload_n dX9_writes_7 1 rfl ?_
  refine J_getR fd_9_21 w_489 rfl dX9_writes_8 (fun r3 => ?_)
  refine J_iload_n dX9_writes_11 0 rfl ?_
  refine J_aload_n dX9_writes_12 1 rfl ?_
  refine J_getI fd_9_20 w_640 rfl dX9_writes_13 ?_
  refine J_iast dX9_writes_16 ?_
  refine J_aload_n dX9_writes_17 1 rfl ?_
  refine J_getR fd_9_22 w_490 rfl dX9_writes_18 (fun r6 => ?_)
  refine J_iload_n dX9_writes_21 0 rfl ?_
  refine J_aload_n dX9_writes_22 1 rfl ?_
  refine J_getI fd_9_35 w_587 rfl dX9_writes_23 ?_
  refine J_iast dX9_writes_26 ?_
  refine J_iconst (v := 0) dX9_writes_27 (by decide) ?_
  refine J_istore_n (lv' := [(2, .int _), (1, .int _), (0, .ref _)]) dX9_writes_28 (by decide) rfl ?_
  refine J_sub [2, 0] rfl ?_
  exact jX9_writes_29 G l   FU _ _ _
theorem okX9_writes (G : Gx) (l : Launch) (l0 : Nat) (M : Mem) : Con G l yX9_writes cX9_writes 3 none 0 0 (fun _ : Unit => none) [.ref (adr G l0)] M (fX9_writes l0 M) := con_of (own := RX9) (nm := "writes") (by decide +kernel) rfl rfl (Nat.le_of_ble_eq_true rfl) (jX9_writes G l l0 M)
theorem mkX9_writes : MOk yX9_writes cX9_writes 3 none 0 := ⟨w_641, tb1 (List.mem_of_getElem? (i := 10) rfl) rfl, by decide +kernel, by decide +kernel, by decide +kernel⟩
-- X9_calls
def fX9_calls_76  (l3 : Int32) (M : Mem) : Option (Int32 × Mem) := some (l3, M)
set_option maxHeartbeats 4000000 in
set_option maxRecDepth 100000 in
theorem jX9_calls_76 (G : Gx) (l : Launch)   (l3 : Int32) (M : Mem) : J G l cX9_calls 4 RX9 (some .int) "calls" 4 95 (QM G (fun v : Int32 => some (.int v))) 76 [(3, .int l3)] [] M (fX9_calls_76  l3 M) := by
  unfold fX9_calls_76
  refine J_iload_n dX9_calls_76 0 rfl ?_
  exact J_iret dX9_calls_77
def fX9_calls_29  (s0 : Int32) (M : Mem) : Option (Int32 × Mem) := some (s0, M)
set_option maxHeartbeats 4000000 in
set_option maxRecDepth 100000 in
theorem jX9_calls_29 (G : Gx) (l : Launch)   (s0 : Int32) (M : Mem) : J G l cX9_calls 4 RX9 (some .int) "calls" 4 95 (QM G (fun v : Int32 => some (.int v))) 29 [] [.int s0] M (fX9_calls_29  s0 M) := by
  unfold fX9_calls_29
  exact J_iret dX9_calls_29
def fX9_calls (l0 : Nat) (M : Mem) : Option (Int32 × Mem) := (gJ M 9 30 l0 fun v1 => (cV M 9 l0 (fX9_byKey l0 (0 : Int32) v1 M) fun v3 M2 => (if v3 = (-1 : Int32) then (cV M2 9 l0 (fX9_refused l0 (0 : Int32) M2) fun v5 M4 => (if v5 = 0 then (cV M4 9 l0 (fX9_writes l0 M4) fun _u7 M6 => (cV M6 9 l0 (fX9_does l0 (0 : Int32) M6) fun v9 M8 => (gR M8 9 4 l0 fun r10 => (rI M8 .boolean r10 (0 : Int32) fun v11 => (if v11 = 0 then fX9_calls_76  v9 M8 else (cV M8 9 l0 (fX9_trial l0 (0 : Int32) M8) fun _u13 M12 => (cV M12 9 l0 (fX9_writes l0 M12) fun _u15 M14 => (cV M14 9 l0 (fX9_does l0 (0 : Int32) M14) fun v17 M16 => fX9_calls_76  v9 M16)))))))) else some (v5, M4))) else (cV M2 9 l0 (fX9_isSame l0 v3 M2) fun v19 M18 => (if v19 = 0 then fX9_calls_29  (-4 : Int32) M18 else fX9_calls_29  v3 M18)))))
set_option maxHeartbeats 4000000 in
set_option maxRecDepth 100000 in
theorem jX9_calls (G : Gx) (l : Launch) (l0 : Nat) (M : Mem) : J G l cX9_calls 4 RX9 (some .int) "calls" 4 95 (QM G (fun v : Int32 => some (.int v))) 0 [(0, .ref (adr G l0))] [] M (fX9_calls l0 M) := by
  unfold fX9_calls
  refine J_aload_n dX9_calls_0 0 rfl ?_
  refine J_iconst (v := 0) dX9_calls_1 (by decide) ?_
  refine J_aload_n dX9_calls_2 0 rfl ?_
  refine J_getJ fd_9_30 w_582 rfl dX9_calls_3 ?_
  refine J_callVi (okX9_byKey G l _ _ _ _) mkX9_byKey _ _ rfl w_642 w_643 w_644 ⟨by decide, by decide⟩ rfl (Nat.le_of_ble_eq_true rfl) dX9_calls_6 (fun v3 M2 => ?_)
  refine J_istore_n (lv' := [(1, .int _), (0, .ref _)]) dX9_calls_9 (by decide) rfl ?_
  refine J_iload_n dX9_calls_10 0 rfl ?_
  refine J_iconst (v := -1) dX9_calls_11 (by decide) ?_
  refine J_icmp_eq (tgt := 30) dX9_calls_12 (by decide) ?_ ?_
  · refine J_aload_n dX9_calls_30 1 rfl ?_
    refine J_iconst (v := 0) dX9_calls_31 (by decide) ?_
    refine J_callVi (okX9_refused G l _ _ _) mkX9_refused _ _ rfl w_645 w_646 w_647 ⟨by decide, by decide⟩ rfl (Nat.le_of_ble_eq_true rfl) dX9_calls_32 (fun v5 M4 => ?_)
    refine J_istore_n (lv' := [(2, .int _), (1, .int _), (0, .ref _)]) dX9_calls_35 (by decide) rfl ?_
    refine J_iload_n dX9_calls_36 0 rfl ?_
    refine J_if_eq (tgt := 42) dX9_calls_37 (by decide) ?_ ?_
    · refine J_aload_n dX9_calls_42 2 rfl ?_
      refine J_callVv (okX9_writes G l _ _) mkX9_writes _ _ rfl w_648 w_649 w_650 ⟨by decide, by decide⟩ rfl (Nat.le_of_ble_eq_true rfl) dX9_calls_43 (fun _u7 M6 => ?_)
      refine J_aload_n dX9_calls_46 2 rfl ?_
      refine J_iconst (v := 0) dX9_calls_47 (by decide) ?_
      refine J_callVi (okX9_does G l _ _ _) mkX9_does _ _ rfl w_651 w_652 w_653 ⟨by decide, by decide⟩ rfl (Nat.le_of_ble_eq_true rfl) dX9_calls_48 (fun v9 M8 => ?_)
      refine J_istore_n (lv' := [(3, .int _), (2, .int _), (1, .int _), (0, .ref _)]) dX9_calls_51 (by decide) rfl ?_
      refine J_aload_n dX9_calls_52 3 rfl ?_
      refine J_getR fd_9_4 w_473 rfl dX9_calls_53 (fun r10 => ?_)
      refine J_iconst (v := 0) dX9_calls_56 (by decide) ?_
      refine J_zald dX9_calls_57 ?_
      refine J_if_eq (tgt := 76) dX9_calls_58 (by decide) ?_ ?_
      · refine J_sub [0] rfl ?_
        exact jX9_calls_76 G l   _ _
      · refine J_aload_n dX9_calls_61 3 rfl ?_
        refine J_iconst (v := 0) dX9_calls_62 (by decide) ?_
        refine J_callVv (okX9_trial G l _ _ _) mkX9_trial _ _ rfl w_654 w_655 w_656 ⟨by decide, by decide⟩ rfl (Nat.le_of_ble_eq_true rfl) dX9_calls_63 (fun _u13 M12 => ?_)
        refine J_aload_n dX9_calls_66 3 rfl ?_
        refine J_callVv (okX9_writes G l _ _) mkX9_writes _ _ rfl w_648 w_649 w_650 ⟨by decide, by decide⟩ rfl (Nat.le_of_ble_eq_true rfl) dX9_calls_67 (fun _u15 M14 => ?_)
        refine J_aload_n dX9_calls_70 3 rfl ?_
        refine J_iconst (v := 0) dX9_calls_71 (by decide) ?_
        refine J_callVi (okX9_does G l _ _ _) mkX9_does _ _ rfl w_651 w_652 w_653 ⟨by decide, by decide⟩ rfl (Nat.le_of_ble_eq_true rfl) dX9_calls_72 (fun v17 M16 => ?_)
        refine J_pop dX9_calls_75 rfl ?_
        refine J_sub [0] rfl ?_
        exact jX9_calls_76 G l   _ _
    · refine J_iload_n dX9_calls_40 0 rfl ?_
      exact J_iret dX9_calls_41
  · refine J_aload_n dX9_calls_15 1 rfl ?_
    refine J_iload_n dX9_calls_16 0 rfl ?_
    refine J_callVi (okX9_isSame G l _ _ _) mkX9_isSame _ _ rfl w_657 w_658 w_659 ⟨by decide, by decide⟩ rfl (Nat.le_of_ble_eq_true rfl) dX9_calls_17 (fun v19 M18 => ?_)
    refine J_if_eq (tgt := 27) dX9_calls_20 (by decide) ?_ ?_
    · refine J_bipush (v := -4) dX9_calls_27 (by decide) ?_
      refine J_sub [] rfl ?_
      exact jX9_calls_29 G l   _ _
    · refine J_iload_n dX9_calls_23 0 rfl ?_
      refine J_goto (tgt := 29) dX9_calls_24 (by decide) ?_
      refine J_sub [] rfl ?_
      exact jX9_calls_29 G l   _ _
theorem okX9_calls (G : Gx) (l : Launch) (l0 : Nat) (M : Mem) : Con G l yX9_calls cX9_calls 4 (some .int) 4 95 (fun v : Int32 => some (.int v)) [.ref (adr G l0)] M (fX9_calls l0 M) := con_of (own := RX9) (nm := "calls") (by decide +kernel) rfl rfl (Nat.le_of_ble_eq_true rfl) (jX9_calls G l l0 M)
theorem mkX9_calls : MOk yX9_calls cX9_calls 4 (some .int) 0 := ⟨w_660, tb1 (List.mem_of_getElem? (i := 10) rfl) rfl, by decide +kernel, by decide +kernel, by decide +kernel⟩
-- X9_in
def fX9_in_15  (s0 : Int32) (M : Mem) : Option (Int32 × Mem) := retZ s0 (some (s0, M))
set_option maxHeartbeats 4000000 in
set_option maxRecDepth 100000 in
theorem jX9_in_15 (G : Gx) (l : Launch)   (s0 : Int32) (M : Mem) : J G l cX9_in 3 RX9 (some .boolean) "in" 0 0 (QM G (fun v : Int32 => some (.int v))) 15 [] [.int s0] M (fX9_in_15  s0 M) := by
  unfold fX9_in_15
  exact J_zret dX9_in_15
def fX9_in_14   (M : Mem) : Option (Int32 × Mem) := fX9_in_15  (0 : Int32) M
set_option maxHeartbeats 4000000 in
set_option maxRecDepth 100000 in
theorem jX9_in_14 (G : Gx) (l : Launch)    (M : Mem) : J G l cX9_in 3 RX9 (some .boolean) "in" 0 0 (QM G (fun v : Int32 => some (.int v))) 14 [] [] M (fX9_in_14   M) := by
  unfold fX9_in_14
  refine J_iconst (v := 0) dX9_in_14 (by decide) ?_
  refine J_sub [] rfl ?_
  exact jX9_in_15 G l   _ _
def fX9_in (l0 : Int32) (l1 : Int32) (l2 : Int32) (M : Mem) : Option (Int32 × Mem) := (if l0 < l1 then fX9_in_14   M else (if l2 < l0 then fX9_in_14   M else fX9_in_15  (1 : Int32) M))
set_option maxHeartbeats 4000000 in
set_option maxRecDepth 100000 in
theorem jX9_in (G : Gx) (l : Launch) (l0 : Int32) (l1 : Int32) (l2 : Int32) (M : Mem) : J G l cX9_in 3 RX9 (some .boolean) "in" 0 0 (QM G (fun v : Int32 => some (.int v))) 0 [(0, .int l0), (1, .int l1), (2, .int l2)] [] M (fX9_in l0 l1 l2 M) := by
  unfold fX9_in
  refine J_iload_n dX9_in_0 0 rfl ?_
  refine J_iload_n dX9_in_1 1 rfl ?_
  refine J_icmp_lt (tgt := 14) dX9_in_2 (by decide) ?_ ?_
  · refine J_sub [] rfl ?_
    exact jX9_in_14 G l    _
  · refine J_iload_n dX9_in_5 0 rfl ?_
    refine J_iload_n dX9_in_6 2 rfl ?_
    refine J_icmp_gt (tgt := 14) dX9_in_7 (by decide) ?_ ?_
    · refine J_sub [] rfl ?_
      exact jX9_in_14 G l    _
    · refine J_iconst (v := 1) dX9_in_10 (by decide) ?_
      refine J_goto (tgt := 15) dX9_in_11 (by decide) ?_
      refine J_sub [] rfl ?_
      exact jX9_in_15 G l   _ _
theorem okX9_in (G : Gx) (l : Launch) (l0 : Int32) (l1 : Int32) (l2 : Int32) (M : Mem) : Con G l yX9_in cX9_in 3 (some .boolean) 0 0 (fun v : Int32 => some (.int v)) [.int l0, .int l1, .int l2] M (fX9_in l0 l1 l2 M) := con_of (own := RX9) (nm := "in") (by decide +kernel) rfl rfl (Nat.le_of_ble_eq_true rfl) (jX9_in G l l0 l1 l2 M)
theorem mkX9_in : MOk yX9_in cX9_in 3 (some .boolean) 3 := ⟨w_661, tb1 (List.mem_of_getElem? (i := 10) rfl) rfl, by decide +kernel, by decide +kernel, by decide +kernel⟩
-- X9_open
def fX9_open (l0 : Nat) (l1 : Int64) (M : Mem) : Option (Int32 × Mem) := (if l1 ≤ (0 : Int64) then (gR M 9 1 l0 fun r1 => (rI M .int r1 (0 : Int32) fun v2 => (if v2 = (200 : Int32) then some ((-8 : Int32), M) else (gR M 9 0 l0 fun r3 => (rI M .int r3 (0 : Int32) fun v4 => (if v4 = (40 : Int32) then some ((-1 : Int32), M) else (cV M 9 l0 (fX9_begins l0 (1 : Int32) (0 : Int64) M) fun _u6 M5 => (cV M5 9 l0 (fX9_putLong l0 l1 M5) fun _u8 M7 => (pJ M7 9 31 l0 l1 fun M9 => (cV M9 9 l0 (fX9_writes l0 M9) fun _u11 M10 => (cV M10 9 l0 (fX9_does l0 (0 : Int32) M10) fun v13 M12 => (gR M12 9 0 l0 fun r14 => (rI M12 .int r14 (0 : Int32) fun v15 => some ((v15 - (1 : Int32)), M12)))))))))))))) else some ((-6 : Int32), M))
set_option maxHeartbeats 4000000 in
set_option maxRecDepth 100000 in
theorem jX9_open (G : Gx) (l : Launch) (l0 : Nat) (l1 : Int64) (M : Mem) : J G l cX9_open 3 RX9 (some .int) "open" 3 67 (QM G (fun v : Int32 => some (.int v))) 0 [(0, .ref (adr G l0)), (1, .long l1)] [] M (fX9_open l0 l1 M) := by
  unfold fX9_open
  refine J_lload_n dX9_open_0 1 rfl ?_
  refine J_lconst (v := 0) dX9_open_1 (by decide) ?_
  refine J_lcmp_le (tgt := 9) dX9_open_2 dX9_open_3 (by decide) ?_ ?_
  · refine J_aload_n dX9_open_9 0 rfl ?_
    refine J_getR fd_9_1 w_470 rfl dX9_open_10 (fun r1 => ?_)
    refine J_iconst (v := 0) dX9_open_13 (by decide) ?_
    refine J_iald dX9_open_14 ?_
    refine J_sipush (v := 200) dX9_open_15 (by decide) ?_
    refine J_icmp_ne (tgt := 24) dX9_open_18 (by decide) ?_ ?_
    · refine J_aload_n dX9_open_24 0 rfl ?_
      refine J_getR fd_9_0 w_469 rfl dX9_open_25 (fun r3 => ?_)
      refine J_iconst (v := 0) dX9_open_28 (by decide) ?_
      refine J_iald dX9_open_29 ?_
      refine J_bipush (v := 40) dX9_open_30 (by decide) ?_
      refine J_icmp_ne (tgt := 37) dX9_open_32 (by decide) ?_ ?_
      · refine J_aload_n dX9_open_37 0 rfl ?_
        refine J_iconst (v := 1) dX9_open_38 (by decide) ?_
        refine J_lconst (v := 0) dX9_open_39 (by decide) ?_
        refine J_callVv (okX9_begins G l _ _ _ _) mkX9_begins _ _ rfl w_636 w_637 w_638 ⟨by decide, by decide⟩ rfl (Nat.le_of_ble_eq_true rfl) dX9_open_40 (fun _u6 M5 => ?_)
        refine J_aload_n dX9_open_43 0 rfl ?_
        refine J_lload_n dX9_open_44 1 rfl ?_
        refine J_callVv (okX9_putLong G l _ _ _) mkX9_putLong _ _ rfl w_594 w_595 w_596 ⟨by decide, by decide⟩ rfl (Nat.le_of_ble_eq_true rfl) dX9_open_45 (fun _u8 M7 => ?_)
        refine J_aload_n dX9_open_48 0 rfl ?_
        refine J_lload_n dX9_open_49 1 rfl ?_
        refine J_putJ fd_9_31 w_586 dX9_open_50 ?_
        refine J_aload_n dX9_open_53 0 rfl ?_
        refine J_callVv (okX9_writes G l _ _) mkX9_writes _ _ rfl w_648 w_649 w_650 ⟨by decide, by decide⟩ rfl (Nat.le_of_ble_eq_true rfl) dX9_open_54 (fun _u11 M10 => ?_)
        refine J_aload_n dX9_open_57 0 rfl ?_
        refine J_iconst (v := 0) dX9_open_58 (by decide) ?_
        refine J_callVi (okX9_does G l _ _ _) mkX9_does _ _ rfl w_651 w_652 w_653 ⟨by decide, by decide⟩ rfl (Nat.le_of_ble_eq_true rfl) dX9_open_59 (fun v13 M12 => ?_)
        refine J_pop dX9_open_62 rfl ?_
        refine J_aload_n dX9_open_63 0 rfl ?_
        refine J_getR fd_9_0 w_469 rfl dX9_open_64 (fun r14 => ?_)
        refine J_iconst (v := 0) dX9_open_67 (by decide) ?_
        refine J_iald dX9_open_68 ?_
        refine J_iconst (v := 1) dX9_open_69 (by decide) ?_
        refine J_isub dX9_open_70 ?_
        exact J_iret dX9_open_71
      · refine J_iconst (v := -1) dX9_open_35 (by decide) ?_
        exact J_iret dX9_open_36
    · refine J_bipush (v := -8) dX9_open_21 (by decide) ?_
      exact J_iret dX9_open_23
  · refine J_bipush (v := -6) dX9_open_6 (by decide) ?_
    exact J_iret dX9_open_8
theorem okX9_open (G : Gx) (l : Launch) (l0 : Nat) (l1 : Int64) (M : Mem) : Con G l yX9_open cX9_open 3 (some .int) 3 67 (fun v : Int32 => some (.int v)) [.ref (adr G l0), .long l1] M (fX9_open l0 l1 M) := con_of (own := RX9) (nm := "open") (by decide +kernel) rfl rfl (Nat.le_of_ble_eq_true rfl) (jX9_open G l l0 l1 M)
theorem mkX9_open : MOk yX9_open cX9_open 3 (some .int) 1 := ⟨w_662, tb1 (List.mem_of_getElem? (i := 10) rfl) rfl, by decide +kernel, by decide +kernel, by decide +kernel⟩
-- X9_leg_
def fX9_leg__34   (M : Mem) : Option (Int32 × Mem) := some ((-1 : Int32), M)
set_option maxHeartbeats 4000000 in
set_option maxRecDepth 100000 in
theorem jX9_leg__34 (G : Gx) (l : Launch)    (M : Mem) : J G l cX9_leg_ 4 RX9 (some .int) "leg" 1 22 (QM G (fun v : Int32 => some (.int v))) 34 [] [] M (fX9_leg__34   M) := by
  unfold fX9_leg__34
  refine J_iconst (v := -1) dX9_leg__34 (by decide) ?_
  exact J_iret dX9_leg__35
def fX9_leg_ (l0 : Nat) (l1 : Int32) (l2 : Int64) (M : Mem) : Option (Int32 × Mem) := (gI M 9 37 l0 fun v1 => (if v1 = (8 : Int32) then fX9_leg__34   M else (bd (fX9_in l1 (0 : Int32) (255 : Int32) M) fun v3 M2 => (if v3 = 0 then fX9_leg__34   M2 else (if l2 = (0 : Int64) then fX9_leg__34   M2 else (if l2 = (-9223372036854775808 : Int64) then fX9_leg__34   M2 else (gR M2 9 38 l0 fun r4 => (gI M2 9 37 l0 fun v5 => (wI M2 .int r4 v5 l1 fun M6 => (gR M6 9 39 l0 fun r7 => (gI M6 9 37 l0 fun v8 => (wJ M6 r7 v8 l2 fun M9 => (gI M9 9 37 l0 fun v10 => (pI M9 9 37 l0 (v10 + (1 : Int32)) fun M11 => (gI M11 9 37 l0 fun v12 => some (v12, M11))))))))))))))))
set_option maxHeartbeats 4000000 in
set_option maxRecDepth 100000 in
theorem jX9_leg_ (G : Gx) (l : Launch) (l0 : Nat) (l1 : Int32) (l2 : Int64) (M : Mem) : J G l cX9_leg_ 4 RX9 (some .int) "leg" 1 22 (QM G (fun v : Int32 => some (.int v))) 0 [(0, .ref (adr G l0)), (1, .int l1), (2, .long l2)] [] M (fX9_leg_ l0 l1 l2 M) := by
  unfold fX9_leg_
  refine J_aload_n dX9_leg__0 0 rfl ?_
  refine J_getI fd_9_37 w_663 rfl dX9_leg__1 ?_
  refine J_bipush (v := 8) dX9_leg__4 (by decide) ?_
  refine J_icmp_eq (tgt := 34) dX9_leg__6 (by decide) ?_ ?_
  · refine J_sub [] rfl ?_
    exact jX9_leg__34 G l    _
  · refine J_iload_n dX9_leg__9 1 rfl ?_
    refine J_iconst (v := 0) dX9_leg__10 (by decide) ?_
    refine J_sipush (v := 255) dX9_leg__11 (by decide) ?_
    refine J_callSi (okX9_in G l _ _ _ _) mkX9_in w_665 w_664 ⟨by decide, by decide⟩ rfl (Nat.le_of_ble_eq_true rfl) dX9_leg__14 (fun v3 M2 => ?_)
    refine J_if_eq (tgt := 34) dX9_leg__17 (by decide) ?_ ?_
    · refine J_sub [] rfl ?_
      exact jX9_leg__34 G l    _
    · refine J_lload_n dX9_leg__20 2 rfl ?_
      refine J_lconst (v := 0) dX9_leg__21 (by decide) ?_
      refine J_lcmp_eq (tgt := 34) dX9_leg__22 dX9_leg__23 (by decide) ?_ ?_
      · refine J_sub [] rfl ?_
        exact jX9_leg__34 G l    _
      · refine J_lload_n dX9_leg__26 2 rfl ?_
        refine J_ldc2 (v := -9223372036854775808) dX9_leg__27 w_666 ?_
        refine J_lcmp_ne (tgt := 36) dX9_leg__30 dX9_leg__31 (by decide) ?_ ?_
        · refine J_aload_n dX9_leg__36 0 rfl ?_
          refine J_getR fd_9_38 w_497 rfl dX9_leg__37 (fun r4 => ?_)
          refine J_aload_n dX9_leg__40 0 rfl ?_
          refine J_getI fd_9_37 w_663 rfl dX9_leg__41 ?_
          refine J_iload_n dX9_leg__44 1 rfl ?_
          refine J_iast dX9_leg__45 ?_
          refine J_aload_n dX9_leg__46 0 rfl ?_
          refine J_getR fd_9_39 w_498 rfl dX9_leg__47 (fun r7 => ?_)
          refine J_aload_n dX9_leg__50 0 rfl ?_
          refine J_getI fd_9_37 w_663 rfl dX9_leg__51 ?_
          refine J_lload_n dX9_leg__54 2 rfl ?_
          refine J_last dX9_leg__55 ?_
          refine J_aload_n dX9_leg__56 0 rfl ?_
          refine J_dup dX9_leg__57 rfl ?_
          refine J_getI fd_9_37 w_663 rfl dX9_leg__58 ?_
          refine J_iconst (v := 1) dX9_leg__61 (by decide) ?_
          refine J_iadd dX9_leg__62 ?_
          refine J_putI fd_9_37 w_663 dX9_leg__63 ?_
          refine J_aload_n dX9_leg__66 0 rfl ?_
          refine J_getI fd_9_37 w_663 rfl dX9_leg__67 ?_
          exact J_iret dX9_leg__70
        · refine J_sub [] rfl ?_
          exact jX9_leg__34 G l    _
theorem okX9_leg_ (G : Gx) (l : Launch) (l0 : Nat) (l1 : Int32) (l2 : Int64) (M : Mem) : Con G l yX9_leg_ cX9_leg_ 4 (some .int) 1 22 (fun v : Int32 => some (.int v)) [.ref (adr G l0), .int l1, .long l2] M (fX9_leg_ l0 l1 l2 M) := con_of (own := RX9) (nm := "leg") (by decide +kernel) rfl rfl (Nat.le_of_ble_eq_true rfl) (jX9_leg_ G l l0 l1 l2 M)
theorem mkX9_leg_ : MOk yX9_leg_ cX9_leg_ 4 (some .int) 2 := ⟨w_667, tb1 (List.mem_of_getElem? (i := 10) rfl) rfl, by decide +kernel, by decide +kernel, by decide +kernel⟩
-- X9_clear
def fX9_clear (l0 : Nat) (M : Mem) : Option (Int32 × Mem) := (gI M 9 37 l0 fun v1 => (pI M 9 37 l0 (0 : Int32) fun M2 => some (v1, M2)))
set_option maxHeartbeats 4000000 in
set_option maxRecDepth 100000 in
theorem jX9_clear (G : Gx) (l : Launch) (l0 : Nat) (M : Mem) : J G l cX9_clear 2 RX9 (some .int) "clear" 0 0 (QM G (fun v : Int32 => some (.int v))) 0 [(0, .ref (adr G l0))] [] M (fX9_clear l0 M) := by
  unfold fX9_clear
  refine J_aload_n dX9_clear_0 0 rfl ?_
  refine J_getI fd_9_37 w_663 rfl dX9_clear_1 ?_
  refine J_istore_n (lv' := [(1, .int _), (0, .ref _)]) dX9_clear_4 (by decide) rfl ?_
  refine J_aload_n dX9_clear_5 1 rfl ?_
  refine J_iconst (v := 0) dX9_clear_6 (by decide) ?_
  refine J_putI fd_9_37 w_663 dX9_clear_7 ?_
  refine J_iload_n dX9_clear_10 0 rfl ?_
  exact J_iret dX9_clear_11
theorem okX9_clear (G : Gx) (l : Launch) (l0 : Nat) (M : Mem) : Con G l yX9_clear cX9_clear 2 (some .int) 0 0 (fun v : Int32 => some (.int v)) [.ref (adr G l0)] M (fX9_clear l0 M) := con_of (own := RX9) (nm := "clear") (by decide +kernel) rfl rfl (Nat.le_of_ble_eq_true rfl) (jX9_clear G l l0 M)
theorem mkX9_clear : MOk yX9_clear cX9_clear 2 (some .int) 0 := ⟨w_668, tb1 (List.mem_of_getElem? (i := 10) rfl) rfl, by decide +kernel, by decide +kernel, by decide +kernel⟩
