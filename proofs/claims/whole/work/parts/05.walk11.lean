-- X9_block
def fX9_block_232  : Nat → Nat → Int32 → Int32 → Int32 → Int32 → Int32 → Int32 → Int32 → Int32 → Int32 → Mem → Option (Unit × Mem)
  | 0, _, _, _, _, _, _, _, _, _, _, _ => none
  | n + 1, l0, l2, l3, l4, l5, l6, l7, l8, l9, l10, M => (if (64 : Int32) ≤ l10 then (gR M 9 44 l0 fun r1 => (rI M .int r1 (0 : Int32) fun v2 => (wI M .int r1 (0 : Int32) (v2 + l2) fun M3 => (gR M3 9 44 l0 fun r4 => (rI M3 .int r4 (1 : Int32) fun v5 => (wI M3 .int r4 (1 : Int32) (v5 + l3) fun M6 => (gR M6 9 44 l0 fun r7 => (rI M6 .int r7 (2 : Int32) fun v8 => (wI M6 .int r7 (2 : Int32) (v8 + l4) fun M9 => (gR M9 9 44 l0 fun r10 => (rI M9 .int r10 (3 : Int32) fun v11 => (wI M9 .int r10 (3 : Int32) (v11 + l5) fun M12 => (gR M12 9 44 l0 fun r13 => (rI M12 .int r13 (4 : Int32) fun v14 => (wI M12 .int r13 (4 : Int32) (v14 + l6) fun M15 => (gR M15 9 44 l0 fun r16 => (rI M15 .int r16 (5 : Int32) fun v17 => (wI M15 .int r16 (5 : Int32) (v17 + l7) fun M18 => (gR M18 9 44 l0 fun r19 => (rI M18 .int r19 (6 : Int32) fun v20 => (wI M18 .int r19 (6 : Int32) (v20 + l8) fun M21 => (gR M21 9 44 l0 fun r22 => (rI M21 .int r22 (7 : Int32) fun v23 => (wI M21 .int r22 (7 : Int32) (v23 + l9) fun M24 => some ((), M24))))))))))))))))))))))))) else (bd (fX9_turn l6 (6 : Int32) M) fun v26 M25 => (bd (fX9_turn l6 (11 : Int32) M25) fun v28 M27 => (bd (fX9_turn l6 (25 : Int32) M27) fun v30 M29 => (gR M29 9 40 l0 fun r31 => (rI M29 .int r31 l10 fun v32 => (gR M29 9 43 l0 fun r33 => (rI M29 .int r33 l10 fun v34 => (bd (fX9_turn l2 (2 : Int32) M29) fun v36 M35 => (bd (fX9_turn l2 (13 : Int32) M35) fun v38 M37 => (bd (fX9_turn l2 (22 : Int32) M37) fun v40 M39 => fX9_block_232  n l0 (((((l9 + ((v26 ^^^ v28) ^^^ v30)) + ((l6 &&& l7) ^^^ ((l6 ^^^ (-1 : Int32)) &&& l8))) + v32) + v34) + (((v36 ^^^ v38) ^^^ v40) + (((l2 &&& l3) ^^^ (l2 &&& l4)) ^^^ (l3 &&& l4)))) l2 l3 l4 (l5 + ((((l9 + ((v26 ^^^ v28) ^^^ v30)) + ((l6 &&& l7) ^^^ ((l6 ^^^ (-1 : Int32)) &&& l8))) + v32) + v34)) l6 l7 l8 (l10 + (1 : Int32)) M39)))))))))))
set_option maxHeartbeats 4000000 in
set_option maxRecDepth 100000 in
theorem jX9_block_232 (G : Gx) (l : Launch)   : ∀ (n : Nat) (l0 : Nat) (l2 : Int32) (l3 : Int32) (l4 : Int32) (l5 : Int32) (l6 : Int32) (l7 : Int32) (l8 : Int32) (l9 : Int32) (l10 : Int32) (M : Mem), J G l cX9_block 15 RX9 none "block" 1 21 (QM G (fun _ : Unit => none)) 232 [(0, .ref (adr G l0)), (2, .int l2), (3, .int l3), (4, .int l4), (5, .int l5), (6, .int l6), (7, .int l7), (8, .int l8), (9, .int l9), (10, .int l10)] [] M (fX9_block_232  n l0 l2 l3 l4 l5 l6 l7 l8 l9 l10 M) := by
  intro n
  induction n with
  | zero => intro l0 l2 l3 l4 l5 l6 l7 l8 l9 l10 M; exact J_none
  | succ n ih =>
    intro l0 l2 l3 l4 l5 l6 l7 l8 l9 l10 M
    rw [fX9_block_232]
    refine J_iload dX9_block_232 9 rfl ?_
    refine J_bipush (v := 64) dX9_block_234 (by decide) ?_
    refine J_icmp_ge (tgt := 380) dX9_block_236 (by decide) ?_ ?_
    · refine J_aload_n dX9_block_380 0 rfl ?_
      refine J_getR fd_9_44 w_566 rfl dX9_block_381 (fun r1 => ?_)
      refine J_iconst (v := 0) dX9_block_384 (by decide) ?_
      refine J_dup2 dX9_block_385 rfl rfl ?_
      refine J_iald dX9_block_386 ?_
      refine J_iload_n dX9_block_387 1 rfl ?_
      refine J_iadd dX9_block_388 ?_
      refine J_iast dX9_block_389 ?_
      refine J_aload_n dX9_block_390 0 rfl ?_
      refine J_getR fd_9_44 w_566 rfl dX9_block_391 (fun r4 => ?_)
      refine J_iconst (v := 1) dX9_block_394 (by decide) ?_
      refine J_dup2 dX9_block_395 rfl rfl ?_
      refine J_iald dX9_block_396 ?_
      refine J_iload_n dX9_block_397 2 rfl ?_
      refine J_iadd dX9_block_398 ?_
      refine J_iast dX9_block_399 ?_
      refine J_aload_n dX9_block_400 0 rfl ?_
      refine J_getR fd_9_44 w_566 rfl dX9_block_401 (fun r7 => ?_)
      refine J_iconst (v := 2) dX9_block_404 (by decide) ?_
      refine J_dup2 dX9_block_405 rfl rfl ?_
      refine J_iald dX9_block_406 ?_
      refine J_iload dX9_block_407 3 rfl ?_
      refine J_iadd dX9_block_409 ?_
      refine J_iast dX9_block_410 ?_
      refine J_aload_n dX9_block_411 0 rfl ?_
      refine J_getR fd_9_44 w_566 rfl dX9_block_412 (fun r10 => ?_)
      refine J_iconst (v := 3) dX9_block_415 (by decide) ?_
      refine J_dup2 dX9_block_416 rfl rfl ?_
      refine J_iald dX9_block_417 ?_
      refine J_iload dX9_block_418 4 rfl ?_
      refine J_iadd dX9_block_420 ?_
      refine J_iast dX9_block_421 ?_
      refine J_aload_n dX9_block_422 0 rfl ?_
      refine J_getR fd_9_44 w_566 rfl dX9_block_423 (fun r13 => ?_)
      refine J_iconst (v := 4) dX9_block_426 (by decide) ?_
      refine J_dup2 dX9_block_427 rfl rfl ?_
      refine J_iald dX9_block_428 ?_
      refine J_iload dX9_block_429 5 rfl ?_
      refine J_iadd dX9_block_431 ?_
      refine J_iast dX9_block_432 ?_
      refine J_aload_n dX9_block_433 0 rfl ?_
      refine J_getR fd_9_44 w_566 rfl dX9_block_434 (fun r16 => ?_)
      refine J_iconst (v := 5) dX9_block_437 (by decide) ?_
      refine J_dup2 dX9_block_438 rfl rfl ?_
      refine J_iald dX9_block_439 ?_
      refine J_iload dX9_block_440 6 rfl ?_
      refine J_iadd dX9_block_442 ?_
      refine J_iast dX9_block_443 ?_
      refine J_aload_n dX9_block_444 0 rfl ?_
      refine J_getR fd_9_44 w_566 rfl dX9_block_445 (fun r19 => ?_)
      refine J_bipush (v := 6) dX9_block_448 (by decide) ?_
      refine J_dup2 dX9_block_450 rfl rfl ?_
      refine J_iald dX9_block_451 ?_
      refine J_iload dX9_block_452 7 rfl ?_
      refine J_iadd dX9_block_454 ?_
      refine J_iast dX9_block_455 ?_
      refine J_aload_n dX9_block_456 0 rfl ?_
      refine J_getR fd_9_44 w_566 rfl dX9_block_457 (fun r22 => ?_)
      refine J_bipush (v := 7) dX9_block_460 (by decide) ?_
      refine J_dup2 dX9_block_462 rfl rfl ?_
      refine J_iald dX9_block_463 ?_
      refine J_iload dX9_block_464 8 rfl ?_
      refine J_iadd dX9_block_466 ?_
      refine J_iast dX9_block_467 ?_
      exact J_vret dX9_block_468
    · refine J_iload dX9_block_239 5 rfl ?_
      refine J_bipush (v := 6) dX9_block_241 (by decide) ?_
      refine J_callSi (okX9_turn G l _ _ _) mkX9_turn w_690 w_689 ⟨by decide, by decide⟩ rfl (Nat.le_of_ble_eq_true rfl) dX9_block_243 (fun v26 M25 => ?_)
      refine J_iload dX9_block_246 5 rfl ?_
      refine J_bipush (v := 11) dX9_block_248 (by decide) ?_
      refine J_callSi (okX9_turn G l _ _ _) mkX9_turn w_690 w_689 ⟨by decide, by decide⟩ rfl (Nat.le_of_ble_eq_true rfl) dX9_block_250 (fun v28 M27 => ?_)
      refine J_ixor dX9_block_253 ?_
      refine J_iload dX9_block_254 5 rfl ?_
      refine J_bipush (v := 25) dX9_block_256 (by decide) ?_
      refine J_callSi (okX9_turn G l _ _ _) mkX9_turn w_690 w_689 ⟨by decide, by decide⟩ rfl (Nat.le_of_ble_eq_true rfl) dX9_block_258 (fun v30 M29 => ?_)
      refine J_ixor dX9_block_261 ?_
      refine J_istore (lv' := [(11, .int _), (0, .ref _), (2, .int _), (3, .int _), (4, .int _), (5, .int _), (6, .int _), (7, .int _), (8, .int _), (9, .int _), (10, .int _)]) dX9_block_262 (by decide) rfl ?_
      refine J_iload dX9_block_264 9 rfl ?_
      refine J_iload dX9_block_266 0 rfl ?_
      refine J_iadd dX9_block_268 ?_
      refine J_iload dX9_block_269 6 rfl ?_
      refine J_iload dX9_block_271 7 rfl ?_
      refine J_iand dX9_block_273 ?_
      refine J_iload dX9_block_274 6 rfl ?_
      refine J_iconst (v := -1) dX9_block_276 (by decide) ?_
      refine J_ixor dX9_block_277 ?_
      refine J_iload dX9_block_278 8 rfl ?_
      refine J_iand dX9_block_280 ?_
      refine J_ixor dX9_block_281 ?_
      refine J_iadd dX9_block_282 ?_
      refine J_aload_n dX9_block_283 1 rfl ?_
      refine J_getR fd_9_40 w_563 rfl dX9_block_284 (fun r31 => ?_)
      refine J_iload dX9_block_287 10 rfl ?_
      refine J_iald dX9_block_289 ?_
      refine J_iadd dX9_block_290 ?_
      refine J_aload_n dX9_block_291 1 rfl ?_
      refine J_getR fd_9_43 w_565 rfl dX9_block_292 (fun r33 => ?_)
      refine J_iload dX9_block_295 10 rfl ?_
      refine J_iald dX9_block_297 ?_
      refine J_iadd dX9_block_298 ?_
      refine J_istore (lv' := [(12, .int _), (11, .int _), (0, .ref _), (2, .int _), (3, .int _), (4, .int _), (5, .int _), (6, .int _), (7, .int _), (8, .int _), (9, .int _), (10, .int _)]) dX9_block_299 (by decide) rfl ?_
      refine J_iload_n dX9_block_301 3 rfl ?_
      refine J_iconst (v := 2) dX9_block_302 (by decide) ?_
      refine J_callSi (okX9_turn G l _ _ _) mkX9_turn w_690 w_689 ⟨by decide, by decide⟩ rfl (Nat.le_of_ble_eq_true rfl) dX9_block_303 (fun v36 M35 => ?_)
      refine J_iload_n dX9_block_306 3 rfl ?_
      refine J_bipush (v := 13) dX9_block_307 (by decide) ?_
      refine J_callSi (okX9_turn G l _ _ _) mkX9_turn w_690 w_689 ⟨by decide, by decide⟩ rfl (Nat.le_of_ble_eq_true rfl) dX9_block_309 (fun v38 M37 => ?_)
      refine J_ixor dX9_block_312 ?_
      refine J_iload_n dX9_block_313 3 rfl ?_
      refine J_bipush (v := 22) dX9_block_314 (by decide) ?_
      refine J_callSi (okX9_turn G l _ _ _) mkX9_turn w_690 w_689 ⟨by decide, by decide⟩ rfl (Nat.le_of_ble_eq_true rfl) dX9_block_316 (fun v40 M39 => ?_)
      refine J_ixor dX9_block_319 ?_
      refine J_istore (lv' := [(13, .int _), (12, .int _), (11, .int _), (0, .ref _), (2, .int _), (3, .int _), (4, .int _), (5, .int _), (6, .int _), (7, .int _), (8, .int _), (9, .int _), (10, .int _)]) dX9_block_320 (by decide) rfl ?_
      refine J_iload dX9_block_322 0 rfl ?_
      refine J_iload_n dX9_block_324 4 rfl ?_
      refine J_iload_n dX9_block_325 5 rfl ?_
      refine J_iand dX9_block_326 ?_
      refine J_iload_n dX9_block_327 4 rfl ?_
      refine J_iload dX9_block_328 6 rfl ?_
      refine J_iand dX9_block_330 ?_
      refine J_ixor dX9_block_331 ?_
      refine J_iload_n dX9_block_332 5 rfl ?_
      refine J_iload dX9_block_333 6 rfl ?_
      refine J_iand dX9_block_335 ?_
      refine J_ixor dX9_block_336 ?_
      refine J_iadd dX9_block_337 ?_
      refine J_istore (lv' := [(14, .int _), (13, .int _), (12, .int _), (11, .int _), (0, .ref _), (2, .int _), (3, .int _), (4, .int _), (5, .int _), (6, .int _), (7, .int _), (8, .int _), (9, .int _), (10, .int _)]) dX9_block_338 (by decide) rfl ?_
      refine J_iload dX9_block_340 11 rfl ?_
      refine J_istore (lv' := [(9, .int _), (14, .int _), (13, .int _), (12, .int _), (11, .int _), (0, .ref _), (2, .int _), (3, .int _), (4, .int _), (5, .int _), (6, .int _), (7, .int _), (8, .int _), (10, .int _)]) dX9_block_342 (by decide) rfl ?_
      refine J_iload dX9_block_344 11 rfl ?_
      refine J_istore (lv' := [(8, .int _), (9, .int _), (14, .int _), (13, .int _), (12, .int _), (11, .int _), (0, .ref _), (2, .int _), (3, .int _), (4, .int _), (5, .int _), (6, .int _), (7, .int _), (10, .int _)]) dX9_block_346 (by decide) rfl ?_
      refine J_iload dX9_block_348 11 rfl ?_
      refine J_istore (lv' := [(7, .int _), (8, .int _), (9, .int _), (14, .int _), (13, .int _), (12, .int _), (11, .int _), (0, .ref _), (2, .int _), (3, .int _), (4, .int _), (5, .int _), (6, .int _), (10, .int _)]) dX9_block_350 (by decide) rfl ?_
      refine J_iload dX9_block_352 11 rfl ?_
      refine J_iload dX9_block_354 5 rfl ?_
      refine J_iadd dX9_block_356 ?_
      refine J_istore (lv' := [(6, .int _), (7, .int _), (8, .int _), (9, .int _), (14, .int _), (13, .int _), (12, .int _), (11, .int _), (0, .ref _), (2, .int _), (3, .int _), (4, .int _), (5, .int _), (10, .int _)]) dX9_block_357 (by decide) rfl ?_
      refine J_iload dX9_block_359 11 rfl ?_
      refine J_istore (lv' := [(5, .int _), (6, .int _), (7, .int _), (8, .int _), (9, .int _), (14, .int _), (13, .int _), (12, .int _), (11, .int _), (0, .ref _), (2, .int _), (3, .int _), (4, .int _), (10, .int _)]) dX9_block_361 (by decide) rfl ?_
      refine J_iload_n dX9_block_363 11 rfl ?_
      refine J_istore (lv' := [(4, .int _), (5, .int _), (6, .int _), (7, .int _), (8, .int _), (9, .int _), (14, .int _), (13, .int _), (12, .int _), (11, .int _), (0, .ref _), (2, .int _), (3, .int _), (10, .int _)]) dX9_block_364 (by decide) rfl ?_
      refine J_iload_n dX9_block_366 11 rfl ?_
      refine J_istore_n (lv' := [(3, .int _), (4, .int _), (5, .int _), (6, .int _), (7, .int _), (8, .int _), (9, .int _), (14, .int _), (13, .int _), (12, .int _), (11, .int _), (0, .ref _), (2, .int _), (10, .int _)]) dX9_block_367 (by decide) rfl ?_
      refine J_iload dX9_block_368 9 rfl ?_
      refine J_iload dX9_block_370 7 rfl ?_
      refine J_iadd dX9_block_372 ?_
      refine J_istore_n (lv' := [(2, .int _), (3, .int _), (4, .int _), (5, .int _), (6, .int _), (7, .int _), (8, .int _), (9, .int _), (14, .int _), (13, .int _), (12, .int _), (11, .int _), (0, .ref _), (10, .int _)]) dX9_block_373 (by decide) rfl ?_
      refine J_iincK (z := 1) (lv' := [(10, .int _), (2, .int _), (3, .int _), (4, .int _), (5, .int _), (6, .int _), (7, .int _), (8, .int _), (9, .int _), (14, .int _), (13, .int _), (12, .int _), (11, .int _), (0, .ref _)]) dX9_block_374 13 rfl (by decide) (by decide) rfl ?_
      refine J_goto (tgt := 232) dX9_block_377 (by decide) ?_
      refine J_sub [13, 1, 2, 3, 4, 5, 6, 7, 8, 0] rfl ?_
      exact ih _ _ _ _ _ _ _ _ _ _ _
def fX9_block_60  : Nat → Nat → Int32 → Mem → Option (Unit × Mem)
  | 0, _, _, _ => none
  | n + 1, l0, l2, M => (if (64 : Int32) ≤ l2 then (gR M 9 44 l0 fun r1 => (rI M .int r1 (0 : Int32) fun v2 => (gR M 9 44 l0 fun r3 => (rI M .int r3 (1 : Int32) fun v4 => (gR M 9 44 l0 fun r5 => (rI M .int r5 (2 : Int32) fun v6 => (gR M 9 44 l0 fun r7 => (rI M .int r7 (3 : Int32) fun v8 => (gR M 9 44 l0 fun r9 => (rI M .int r9 (4 : Int32) fun v10 => (gR M 9 44 l0 fun r11 => (rI M .int r11 (5 : Int32) fun v12 => (gR M 9 44 l0 fun r13 => (rI M .int r13 (6 : Int32) fun v14 => (gR M 9 44 l0 fun r15 => (rI M .int r15 (7 : Int32) fun v16 => fX9_block_232  FU l0 v2 v4 v6 v8 v10 v12 v14 v16 (0 : Int32) M)))))))))))))))) else (gR M 9 43 l0 fun r17 => (rI M .int r17 (l2 - (15 : Int32)) fun v18 => (gR M 9 43 l0 fun r19 => (rI M .int r19 (l2 - (2 : Int32)) fun v20 => (bd (fX9_turn v18 (7 : Int32) M) fun v22 M21 => (bd (fX9_turn v18 (18 : Int32) M21) fun v24 M23 => (bd (fX9_turn v20 (17 : Int32) M23) fun v26 M25 => (bd (fX9_turn v20 (19 : Int32) M25) fun v28 M27 => (gR M27 9 43 l0 fun r29 => (gR M27 9 43 l0 fun r30 => (rI M27 .int r30 (l2 - (16 : Int32)) fun v31 => (gR M27 9 43 l0 fun r32 => (rI M27 .int r32 (l2 - (7 : Int32)) fun v33 => (wI M27 .int r29 l2 (((v31 + ((v22 ^^^ v24) ^^^ (xushr v18 (3 : Int32)))) + v33) + ((v26 ^^^ v28) ^^^ (xushr v20 (10 : Int32)))) fun M34 => fX9_block_60  n l0 (l2 + (1 : Int32)) M34)))))))))))))))
set_option maxHeartbeats 4000000 in
set_option maxRecDepth 100000 in
theorem jX9_block_60 (G : Gx) (l : Launch)   : ∀ (n : Nat) (l0 : Nat) (l2 : Int32) (M : Mem), J G l cX9_block 15 RX9 none "block" 1 21 (QM G (fun _ : Unit => none)) 60 [(0, .ref (adr G l0)), (2, .int l2)] [] M (fX9_block_60  n l0 l2 M) := by
  intro n
  induction n with
  | zero => intro l0 l2 M; exact J_none
  | succ n ih =>
    intro l0 l2 M
    rw [fX9_block_60]
    refine J_iload_n dX9_block_60 1 rfl ?_
    refine J_bipush (v := 64) dX9_block_61 (by decide) ?_
    refine J_icmp_ge (tgt := 165) dX9_block_63 (by decide) ?_ ?_
    · refine J_aload_n dX9_block_165 0 rfl ?_
      refine J_getR fd_9_44 w_566 rfl dX9_block_166 (fun r1 => ?_)
      refine J_iconst (v := 0) dX9_block_169 (by decide) ?_
      refine J_iald dX9_block_170 ?_
      refine J_istore_n (lv' := [(2, .int _), (0, .ref _)]) dX9_block_171 (by decide) rfl ?_
      refine J_aload_n dX9_block_172 1 rfl ?_
      refine J_getR fd_9_44 w_566 rfl dX9_block_173 (fun r3 => ?_)
      refine J_iconst (v := 1) dX9_block_176 (by decide) ?_
      refine J_iald dX9_block_177 ?_
      refine J_istore_n (lv' := [(3, .int _), (2, .int _), (0, .ref _)]) dX9_block_178 (by decide) rfl ?_
      refine J_aload_n dX9_block_179 2 rfl ?_
      refine J_getR fd_9_44 w_566 rfl dX9_block_180 (fun r5 => ?_)
      refine J_iconst (v := 2) dX9_block_183 (by decide) ?_
      refine J_iald dX9_block_184 ?_
      refine J_istore (lv' := [(4, .int _), (3, .int _), (2, .int _), (0, .ref _)]) dX9_block_185 (by decide) rfl ?_
      refine J_aload_n dX9_block_187 3 rfl ?_
      refine J_getR fd_9_44 w_566 rfl dX9_block_188 (fun r7 => ?_)
      refine J_iconst (v := 3) dX9_block_191 (by decide) ?_
      refine J_iald dX9_block_192 ?_
      refine J_istore (lv' := [(5, .int _), (4, .int _), (3, .int _), (2, .int _), (0, .ref _)]) dX9_block_193 (by decide) rfl ?_
      refine J_aload_n dX9_block_195 4 rfl ?_
      refine J_getR fd_9_44 w_566 rfl dX9_block_196 (fun r9 => ?_)
      refine J_iconst (v := 4) dX9_block_199 (by decide) ?_
      refine J_iald dX9_block_200 ?_
      refine J_istore (lv' := [(6, .int _), (5, .int _), (4, .int _), (3, .int _), (2, .int _), (0, .ref _)]) dX9_block_201 (by decide) rfl ?_
      refine J_aload_n dX9_block_203 5 rfl ?_
      refine J_getR fd_9_44 w_566 rfl dX9_block_204 (fun r11 => ?_)
      refine J_iconst (v := 5) dX9_block_207 (by decide) ?_
      refine J_iald dX9_block_208 ?_
      refine J_istore (lv' := [(7, .int _), (6, .int _), (5, .int _), (4, .int _), (3, .int _), (2, .int _), (0, .ref _)]) dX9_block_209 (by decide) rfl ?_
      refine J_aload_n dX9_block_211 6 rfl ?_
      refine J_getR fd_9_44 w_566 rfl dX9_block_212 (fun r13 => ?_)
      refine J_bipush (v := 6) dX9_block_215 (by decide) ?_
      refine J_iald dX9_block_217 ?_
      refine J_istore (lv' := [(8, .int _), (7, .int _), (6, .int _), (5, .int _), (4, .int _), (3, .int _), (2, .int _), (0, .ref _)]) dX9_block_218 (by decide) rfl ?_
      refine J_aload_n dX9_block_220 7 rfl ?_
      refine J_getR fd_9_44 w_566 rfl dX9_block_221 (fun r15 => ?_)
      refine J_bipush (v := 7) dX9_block_224 (by decide) ?_
      refine J_iald dX9_block_226 ?_
      refine J_istore (lv' := [(9, .int _), (8, .int _), (7, .int _), (6, .int _), (5, .int _), (4, .int _), (3, .int _), (2, .int _), (0, .ref _)]) dX9_block_227 (by decide) rfl ?_
      refine J_iconst (v := 0) dX9_block_229 (by decide) ?_
      refine J_istore (lv' := [(10, .int _), (9, .int _), (8, .int _), (7, .int _), (6, .int _), (5, .int _), (4, .int _), (3, .int _), (2, .int _), (0, .ref _)]) dX9_block_230 (by decide) rfl ?_
      refine J_sub [9, 8, 7, 6, 5, 4, 3, 2, 1, 0] rfl ?_
      exact jX9_block_232 G l   FU _ _ _ _ _ _ _ _ _ _ _
    · refine J_aload_n dX9_block_66 0 rfl ?_
      refine J_getR fd_9_43 w_565 rfl dX9_block_67 (fun r17 => ?_)
      refine J_iload_n dX9_block_70 1 rfl ?_
      refine J_bipush (v := 15) dX9_block_71 (by decide) ?_
      refine J_isub dX9_block_73 ?_
      refine J_iald dX9_block_74 ?_
      refine J_istore_n (lv' := [(3, .int _), (0, .ref _), (2, .int _)]) dX9_block_75 (by decide) rfl ?_
      refine J_aload_n dX9_block_76 1 rfl ?_
      refine J_getR fd_9_43 w_565 rfl dX9_block_77 (fun r19 => ?_)
      refine J_iload_n dX9_block_80 2 rfl ?_
      refine J_iconst (v := 2) dX9_block_81 (by decide) ?_
      refine J_isub dX9_block_82 ?_
      refine J_iald dX9_block_83 ?_
      refine J_istore (lv' := [(4, .int _), (3, .int _), (0, .ref _), (2, .int _)]) dX9_block_84 (by decide) rfl ?_
      refine J_iload_n dX9_block_86 1 rfl ?_
      refine J_bipush (v := 7) dX9_block_87 (by decide) ?_
      refine J_callSi (okX9_turn G l _ _ _) mkX9_turn w_690 w_689 ⟨by decide, by decide⟩ rfl (Nat.le_of_ble_eq_true rfl) dX9_block_89 (fun v22 M21 => ?_)
      refine J_iload_n dX9_block_92 1 rfl ?_
      refine J_bipush (v := 18) dX9_block_93 (by decide) ?_
      refine J_callSi (okX9_turn G l _ _ _) mkX9_turn w_690 w_689 ⟨by decide, by decide⟩ rfl (Nat.le_of_ble_eq_true rfl) dX9_block_95 (fun v24 M23 => ?_)
      refine J_ixor dX9_block_98 ?_
      refine J_iload_n dX9_block_99 1 rfl ?_
      refine J_iconst (v := 3) dX9_block_100 (by decide) ?_
      refine J_iushrK dX9_block_101 ?_
      refine J_ixor dX9_block_102 ?_
      refine J_istore (lv' := [(5, .int _), (4, .int _), (3, .int _), (0, .ref _), (2, .int _)]) dX9_block_103 (by decide) rfl ?_
      refine J_iload dX9_block_105 1 rfl ?_
      refine J_bipush (v := 17) dX9_block_107 (by decide) ?_
      refine J_callSi (okX9_turn G l _ _ _) mkX9_turn w_690 w_689 ⟨by decide, by decide⟩ rfl (Nat.le_of_ble_eq_true rfl) dX9_block_109 (fun v26 M25 => ?_)
      refine J_iload dX9_block_112 1 rfl ?_
      refine J_bipush (v := 19) dX9_block_114 (by decide) ?_
      refine J_callSi (okX9_turn G l _ _ _) mkX9_turn w_690 w_689 ⟨by decide, by decide⟩ rfl (Nat.le_of_ble_eq_true rfl) dX9_block_116 (fun v28 M27 => ?_)
      refine J_ixor dX9_block_119 ?_
      refine J_iload dX9_block_120 1 rfl ?_
      refine J_bipush (v := 10) dX9_block_122 (by decide) ?_
      refine J_iushrK dX9_block_124 ?_
      refine J_ixor dX9_block_125 ?_
      refine J_istore (lv' := [(6, .int _), (5, .int _), (4, .int _), (3, .int _), (0, .ref _), (2, .int _)]) dX9_block_126 (by decide) rfl ?_
      refine J_aload_n dX9_block_128 4 rfl ?_
      refine J_getR fd_9_43 w_565 rfl dX9_block_129 (fun r29 => ?_)
      refine J_iload_n dX9_block_132 5 rfl ?_
      refine J_aload_n dX9_block_133 4 rfl ?_
      refine J_getR fd_9_43 w_565 rfl dX9_block_134 (fun r30 => ?_)
      refine J_iload_n dX9_block_137 5 rfl ?_
      refine J_bipush (v := 16) dX9_block_138 (by decide) ?_
      refine J_isub dX9_block_140 ?_
      refine J_iald dX9_block_141 ?_
      refine J_iload dX9_block_142 1 rfl ?_
      refine J_iadd dX9_block_144 ?_
      refine J_aload_n dX9_block_145 4 rfl ?_
      refine J_getR fd_9_43 w_565 rfl dX9_block_146 (fun r32 => ?_)
      refine J_iload_n dX9_block_149 5 rfl ?_
      refine J_bipush (v := 7) dX9_block_150 (by decide) ?_
      refine J_isub dX9_block_152 ?_
      refine J_iald dX9_block_153 ?_
      refine J_iadd dX9_block_154 ?_
      refine J_iload dX9_block_155 0 rfl ?_
      refine J_iadd dX9_block_157 ?_
      refine J_iast dX9_block_158 ?_
      refine J_iincK (z := 1) (lv' := [(2, .int _), (6, .int _), (5, .int _), (4, .int _), (3, .int _), (0, .ref _)]) dX9_block_159 5 rfl (by decide) (by decide) rfl ?_
      refine J_goto (tgt := 60) dX9_block_162 (by decide) ?_
      refine J_sub [5, 0] rfl ?_
      exact ih _ _ _
def fX9_block_13 (k2 : Nat → Int32 → Int32 → Mem → Option (Unit × Mem)) : Nat → Nat → Int32 → Int32 → Int32 → Int32 → Mem → Option (Unit × Mem)
  | 0, _, _, _, _, _, _ => none
  | n + 1, l0, l1, l2, l3, l4, M => (if (4 : Int32) ≤ l4 then (gR M 9 43 l0 fun r1 => (wI M .int r1 l2 l3 fun M2 => k2 l0 l1 (l2 + (1 : Int32)) M2)) else (gR M 9 41 l0 fun r3 => (rI M .int r3 ((l1 + ((4 : Int32) * l2)) + l4) fun v4 => fX9_block_13 k2 n l0 l1 l2 ((xshl l3 (8 : Int32)) ||| v4) (l4 + (1 : Int32)) M)))
set_option maxHeartbeats 4000000 in
set_option maxRecDepth 100000 in
theorem jX9_block_13 (G : Gx) (l : Launch) (k2 : Nat → Int32 → Int32 → Mem → Option (Unit × Mem)) (h2 : ∀ (l0 : Nat) (l1 : Int32) (l2 : Int32) (M : Mem), J G l cX9_block 15 RX9 none "block" 1 21 (QM G (fun _ : Unit => none)) 2 [(0, .ref (adr G l0)), (1, .int l1), (2, .int l2)] [] M (k2 l0 l1 l2 M)) : ∀ (n : Nat) (l0 : Nat) (l1 : Int32) (l2 : Int32) (l3 : Int32) (l4 : Int32) (M : Mem), J G l cX9_block 15 RX9 none "block" 1 21 (QM G (fun _ : Unit => none)) 13 [(0, .ref (adr G l0)), (1, .int l1), (2, .int l2), (3, .int l3), (4, .int l4)] [] M (fX9_block_13 k2 n l0 l1 l2 l3 l4 M) := by
  intro n
  induction n with
  | zero => intro l0 l1 l2 l3 l4 M; exact J_none
  | succ n ih =>
    intro l0 l1 l2 l3 l4 M
    rw [fX9_block_13]
    refine J_iload dX9_block_13 4 rfl ?_
    refine J_iconst (v := 4) dX9_block_15 (by decide) ?_
    refine J_icmp_ge (tgt := 44) dX9_block_16 (by decide) ?_ ?_
    · refine J_aload_n dX9_block_44 0 rfl ?_
      refine J_getR fd_9_43 w_565 rfl dX9_block_45 (fun r1 => ?_)
      refine J_iload_n dX9_block_48 2 rfl ?_
      refine J_iload_n dX9_block_49 3 rfl ?_
      refine J_iast dX9_block_50 ?_
      refine J_iincK (z := 1) (lv' := [(2, .int _), (0, .ref _), (1, .int _), (3, .int _), (4, .int _)]) dX9_block_51 2 rfl (by decide) (by decide) rfl ?_
      refine J_goto (tgt := 2) dX9_block_54 (by decide) ?_
      refine J_sub [1, 2, 0] rfl ?_
      exact h2 _ _ _ _
    · refine J_iload_n dX9_block_19 3 rfl ?_
      refine J_bipush (v := 8) dX9_block_20 (by decide) ?_
      refine J_ishlK dX9_block_22 ?_
      refine J_aload_n dX9_block_23 0 rfl ?_
      refine J_getR fd_9_41 w_564 rfl dX9_block_24 (fun r3 => ?_)
      refine J_iload_n dX9_block_27 1 rfl ?_
      refine J_iconst (v := 4) dX9_block_28 (by decide) ?_
      refine J_iload_n dX9_block_29 2 rfl ?_
      refine J_imul dX9_block_30 ?_
      refine J_iadd dX9_block_31 ?_
      refine J_iload dX9_block_32 4 rfl ?_
      refine J_iadd dX9_block_34 ?_
      refine J_iald dX9_block_35 ?_
      refine J_ior dX9_block_36 ?_
      refine J_istore_n (lv' := [(3, .int _), (0, .ref _), (1, .int _), (2, .int _), (4, .int _)]) dX9_block_37 (by decide) rfl ?_
      refine J_iincK (z := 1) (lv' := [(4, .int _), (3, .int _), (0, .ref _), (1, .int _), (2, .int _)]) dX9_block_38 4 rfl (by decide) (by decide) rfl ?_
      refine J_goto (tgt := 13) dX9_block_41 (by decide) ?_
      refine J_sub [2, 3, 4, 1, 0] rfl ?_
      exact ih _ _ _ _ _ _
def fX9_block_2  : Nat → Nat → Int32 → Int32 → Mem → Option (Unit × Mem)
  | 0, _, _, _, _ => none
  | n + 1, l0, l1, l2, M => (if (16 : Int32) ≤ l2 then fX9_block_60  FU l0 (16 : Int32) M else fX9_block_13 (fX9_block_2  n) FU l0 l1 l2 (0 : Int32) (0 : Int32) M)
set_option maxHeartbeats 4000000 in
set_option maxRecDepth 100000 in
theorem jX9_block_2 (G : Gx) (l : Launch)   : ∀ (n : Nat) (l0 : Nat) (l1 : Int32) (l2 : Int32) (M : Mem), J G l cX9_block 15 RX9 none "block" 1 21 (QM G (fun _ : Unit => none)) 2 [(0, .ref (adr G l0)), (1, .int l1), (2, .int l2)] [] M (fX9_block_2  n l0 l1 l2 M) := by
  intro n
  induction n with
  | zero => intro l0 l1 l2 M; exact J_none
  | succ n ih =>
    intro l0 l1 l2 M
    rw [fX9_block_2]
    refine J_iload_n dX9_block_2 2 rfl ?_
    refine J_bipush (v := 16) dX9_block_3 (by decide) ?_
    refine J_icmp_ge (tgt := 57) dX9_block_5 (by decide) ?_ ?_
    · refine J_bipush (v := 16) dX9_block_57 (by decide) ?_
      refine J_istore_n (lv' := [(2, .int _), (0, .ref _), (1, .int _)]) dX9_block_59 (by decide) rfl ?_
      refine J_sub [1, 0] rfl ?_
      exact jX9_block_60 G l   FU _ _ _
    · refine J_iconst (v := 0) dX9_block_8 (by decide) ?_
      refine J_istore_n (lv' := [(3, .int _), (0, .ref _), (1, .int _), (2, .int _)]) dX9_block_9 (by decide) rfl ?_
      refine J_iconst (v := 0) dX9_block_10 (by decide) ?_
      refine J_istore (lv' := [(4, .int _), (3, .int _), (0, .ref _), (1, .int _), (2, .int _)]) dX9_block_11 (by decide) rfl ?_
      refine J_sub [2, 3, 4, 1, 0] rfl ?_
      exact jX9_block_13 G l _ ih FU _ _ _ _ _ _
def fX9_block (l0 : Nat) (l1 : Int32) (M : Mem) : Option (Unit × Mem) := fX9_block_2  FU l0 l1 (0 : Int32) M
set_option maxHeartbeats 4000000 in
set_option maxRecDepth 100000 in
theorem jX9_block (G : Gx) (l : Launch) (l0 : Nat) (l1 : Int32) (M : Mem) : J G l cX9_block 15 RX9 none "block" 1 21 (QM G (fun _ : Unit => none)) 0 [(0, .ref (adr G l0)), (1, .int l1)] [] M (fX9_block l0 l1 M) := by
  unfold fX9_block
  refine J_iconst (v := 0) dX9_block_0 (by decide) ?_
  refine J_istore_n (lv' := [(2, .int _), (0, .ref _), (1, .int _)]) dX9_block_1 (by decide) rfl ?_
  refine J_sub [1, 2, 0] rfl ?_
  exact jX9_block_2 G l   FU _ _ _ _
theorem okX9_block (G : Gx) (l : Launch) (l0 : Nat) (l1 : Int32) (M : Mem) : Con G l yX9_block cX9_block 15 none 1 21 (fun _ : Unit => none) [.ref (adr G l0), .int l1] M (fX9_block l0 l1 M) := con_of (own := RX9) (nm := "block") (by decide +kernel) rfl rfl (Nat.le_of_ble_eq_true rfl) (jX9_block G l l0 l1 M)
theorem mkX9_block : MOk yX9_block cX9_block 15 none 1 := ⟨w_691, tb1 (List.mem_of_getElem? (i := 10) rfl) rfl, by decide +kernel, by decide +kernel, by decide +kernel⟩
-- X9_sum
def fX9_sum_174  : Nat → Nat → Int32 → Mem → Option (Unit × Mem)
  | 0, _, _, _ => none
  | n + 1, l0, l2, M => (if (32 : Int32) ≤ l2 then (pI M 9 42 l0 (0 : Int32) fun M1 => some ((), M1)) else (gR M 9 45 l0 fun r2 => (gR M 9 44 l0 fun r3 => if (4 : Int32) = 0 then none else (rI M .int r3 (l2 / (4 : Int32)) fun v4 => if (4 : Int32) = 0 then none else (wI M .int r2 l2 ((xshr v4 ((24 : Int32) - ((8 : Int32) * (l2 - l2 / (4 : Int32) * (4 : Int32))))) &&& (255 : Int32)) fun M5 => fX9_sum_174  n l0 (l2 + (1 : Int32)) M5)))))
set_option maxHeartbeats 4000000 in
set_option maxRecDepth 100000 in
theorem jX9_sum_174 (G : Gx) (l : Launch)   : ∀ (n : Nat) (l0 : Nat) (l2 : Int32) (M : Mem), J G l cX9_sum 3 RX9 none "sum" 2 55 (QM G (fun _ : Unit => none)) 174 [(0, .ref (adr G l0)), (2, .int l2)] [] M (fX9_sum_174  n l0 l2 M) := by
  intro n
  induction n with
  | zero => intro l0 l2 M; exact J_none
  | succ n ih =>
    intro l0 l2 M
    rw [fX9_sum_174]
    refine J_iload_n dX9_sum_174 1 rfl ?_
    refine J_bipush (v := 32) dX9_sum_175 (by decide) ?_
    refine J_icmp_ge (tgt := 214) dX9_sum_177 (by decide) ?_ ?_
    · refine J_aload_n dX9_sum_214 0 rfl ?_
      refine J_iconst (v := 0) dX9_sum_215 (by decide) ?_
      refine J_putI fd_9_42 w_687 dX9_sum_216 ?_
      exact J_vret dX9_sum_219
    · refine J_aload_n dX9_sum_180 0 rfl ?_
      refine J_getR fd_9_45 w_567 rfl dX9_sum_181 (fun r2 => ?_)
      refine J_iload_n dX9_sum_184 1 rfl ?_
      refine J_aload_n dX9_sum_185 0 rfl ?_
      refine J_getR fd_9_44 w_566 rfl dX9_sum_186 (fun r3 => ?_)
      refine J_iload_n dX9_sum_189 1 rfl ?_
      refine J_iconst (v := 4) dX9_sum_190 (by decide) ?_
      refine J_idiv dX9_sum_191 ?_
      refine J_iald dX9_sum_192 ?_
      refine J_bipush (v := 24) dX9_sum_193 (by decide) ?_
      refine J_bipush (v := 8) dX9_sum_195 (by decide) ?_
      refine J_iload_n dX9_sum_197 1 rfl ?_
      refine J_iconst (v := 4) dX9_sum_198 (by decide) ?_
      refine J_irem dX9_sum_199 ?_
      refine J_imul dX9_sum_200 ?_
      refine J_isub dX9_sum_201 ?_
      refine J_ishrK dX9_sum_202 ?_
      refine J_sipush (v := 255) dX9_sum_203 (by decide) ?_
      refine J_iand dX9_sum_206 ?_
      refine J_iast dX9_sum_207 ?_
      refine J_iincK (z := 1) (lv' := [(2, .int _), (0, .ref _)]) dX9_sum_208 1 rfl (by decide) (by decide) rfl ?_
      refine J_goto (tgt := 174) dX9_sum_211 (by decide) ?_
      refine J_sub [1, 0] rfl ?_
      exact ih _ _ _
def fX9_sum_153  : Nat → Nat → Int32 → Mem → Option (Unit × Mem)
  | 0, _, _, _ => none
  | n + 1, l0, l2, M => (gI M 9 42 l0 fun v1 => (if v1 ≤ l2 then fX9_sum_174  FU l0 (0 : Int32) M else (cV M 9 l0 (fX9_block l0 l2 M) fun _u3 M2 => fX9_sum_153  n l0 (l2 + (64 : Int32)) M2)))
set_option maxHeartbeats 4000000 in
set_option maxRecDepth 100000 in
theorem jX9_sum_153 (G : Gx) (l : Launch)   : ∀ (n : Nat) (l0 : Nat) (l2 : Int32) (M : Mem), J G l cX9_sum 3 RX9 none "sum" 2 55 (QM G (fun _ : Unit => none)) 153 [(0, .ref (adr G l0)), (2, .int l2)] [] M (fX9_sum_153  n l0 l2 M) := by
  intro n
  induction n with
  | zero => intro l0 l2 M; exact J_none
  | succ n ih =>
    intro l0 l2 M
    rw [fX9_sum_153]
    refine J_iload_n dX9_sum_153 1 rfl ?_
    refine J_aload_n dX9_sum_154 0 rfl ?_
    refine J_getI fd_9_42 w_687 rfl dX9_sum_155 ?_
    refine J_icmp_ge (tgt := 172) dX9_sum_158 (by decide) ?_ ?_
    · refine J_iconst (v := 0) dX9_sum_172 (by decide) ?_
      refine J_istore_n (lv' := [(2, .int _), (0, .ref _)]) dX9_sum_173 (by decide) rfl ?_
      refine J_sub [1, 0] rfl ?_
      exact jX9_sum_174 G l   FU _ _ _
    · refine J_aload_n dX9_sum_161 0 rfl ?_
      refine J_iload_n dX9_sum_162 1 rfl ?_
      refine J_callVv (okX9_block G l _ _ _) mkX9_block _ _ rfl w_692 w_693 w_694 ⟨by decide, by decide⟩ rfl (Nat.le_of_ble_eq_true rfl) dX9_sum_163 (fun _u3 M2 => ?_)
      refine J_iincK (z := 64) (lv' := [(2, .int _), (0, .ref _)]) dX9_sum_166 1 rfl (by decide) (by decide) rfl ?_
      refine J_goto (tgt := 153) dX9_sum_169 (by decide) ?_
      refine J_sub [1, 0] rfl ?_
      exact ih _ _ _
def fX9_sum_53  : Nat → Nat → Int32 → Int32 → Mem → Option (Unit × Mem)
  | 0, _, _, _, _ => none
  | n + 1, l0, l1, l2, M => (if l2 < 0 then (gR M 9 44 l0 fun r1 => (wI M .int r1 (0 : Int32) (1779033703 : Int32) fun M2 => (gR M2 9 44 l0 fun r3 => (wI M2 .int r3 (1 : Int32) (-1150833019 : Int32) fun M4 => (gR M4 9 44 l0 fun r5 => (wI M4 .int r5 (2 : Int32) (1013904242 : Int32) fun M6 => (gR M6 9 44 l0 fun r7 => (wI M6 .int r7 (3 : Int32) (-1521486534 : Int32) fun M8 => (gR M8 9 44 l0 fun r9 => (wI M8 .int r9 (4 : Int32) (1359893119 : Int32) fun M10 => (gR M10 9 44 l0 fun r11 => (wI M10 .int r11 (5 : Int32) (-1694144372 : Int32) fun M12 => (gR M12 9 44 l0 fun r13 => (wI M12 .int r13 (6 : Int32) (528734635 : Int32) fun M14 => (gR M14 9 44 l0 fun r15 => (wI M14 .int r15 (7 : Int32) (1541459225 : Int32) fun M16 => fX9_sum_153  FU l0 (0 : Int32) M16)))))))))))))))) else (cV M 9 l0 (fX9_says l0 ((xshr ((8 : Int32) * l1) l2) &&& (255 : Int32)) M) fun _u18 M17 => fX9_sum_53  n l0 l1 (l2 + (-8 : Int32)) M17))
set_option maxHeartbeats 4000000 in
set_option maxRecDepth 100000 in
theorem jX9_sum_53 (G : Gx) (l : Launch)   : ∀ (n : Nat) (l0 : Nat) (l1 : Int32) (l2 : Int32) (M : Mem), J G l cX9_sum 3 RX9 none "sum" 2 55 (QM G (fun _ : Unit => none)) 53 [(0, .ref (adr G l0)), (1, .int l1), (2, .int l2)] [] M (fX9_sum_53  n l0 l1 l2 M) := by
  intro n
  induction n with
  | zero => intro l0 l1 l2 M; exact J_none
  | succ n ih =>
    intro l0 l1 l2 M
    rw [fX9_sum_53]
    refine J_iload_n dX9_sum_53 2 rfl ?_
    refine J_if_lt (tgt := 77) dX9_sum_54 (by decide) ?_ ?_
    · refine J_aload_n dX9_sum_77 0 rfl ?_
      refine J_getR fd_9_44 w_566 rfl dX9_sum_78 (fun r1 => ?_)
      refine J_iconst (v := 0) dX9_sum_81 (by decide) ?_
      refine J_ldcw (v := 1779033703) dX9_sum_82 w_695 ?_
      refine J_iast dX9_sum_85 ?_
      refine J_aload_n dX9_sum_86 0 rfl ?_
      refine J_getR fd_9_44 w_566 rfl dX9_sum_87 (fun r3 => ?_)
      refine J_iconst (v := 1) dX9_sum_90 (by decide) ?_
      refine J_ldcw (v := -1150833019) dX9_sum_91 w_696 ?_
      refine J_iast dX9_sum_94 ?_
      refine J_aload_n dX9_sum_95 0 rfl ?_
      refine J_getR fd_9_44 w_566 rfl dX9_sum_96 (fun r5 => ?_)
      refine J_iconst (v := 2) dX9_sum_99 (by decide) ?_
      refine J_ldcw (v := 1013904242) dX9_sum_100 w_697 ?_
      refine J_iast dX9_sum_103 ?_
      refine J_aload_n dX9_sum_104 0 rfl ?_
      refine J_getR fd_9_44 w_566 rfl dX9_sum_105 (fun r7 => ?_)
      refine J_iconst (v := 3) dX9_sum_108 (by decide) ?_
      refine J_ldcw (v := -1521486534) dX9_sum_109 w_698 ?_
      refine J_iast dX9_sum_112 ?_
      refine J_aload_n dX9_sum_113 0 rfl ?_
      refine J_getR fd_9_44 w_566 rfl dX9_sum_114 (fun r9 => ?_)
      refine J_iconst (v := 4) dX9_sum_117 (by decide) ?_
      refine J_ldcw (v := 1359893119) dX9_sum_118 w_699 ?_
      refine J_iast dX9_sum_121 ?_
      refine J_aload_n dX9_sum_122 0 rfl ?_
      refine J_getR fd_9_44 w_566 rfl dX9_sum_123 (fun r11 => ?_)
      refine J_iconst (v := 5) dX9_sum_126 (by decide) ?_
      refine J_ldcw (v := -1694144372) dX9_sum_127 w_700 ?_
      refine J_iast dX9_sum_130 ?_
      refine J_aload_n dX9_sum_131 0 rfl ?_
      refine J_getR fd_9_44 w_566 rfl dX9_sum_132 (fun r13 => ?_)
      refine J_bipush (v := 6) dX9_sum_135 (by decide) ?_
      refine J_ldcw (v := 528734635) dX9_sum_137 w_701 ?_
      refine J_iast dX9_sum_140 ?_
      refine J_aload_n dX9_sum_141 0 rfl ?_
      refine J_getR fd_9_44 w_566 rfl dX9_sum_142 (fun r15 => ?_)
      refine J_bipush (v := 7) dX9_sum_145 (by decide) ?_
      refine J_ldcw (v := 1541459225) dX9_sum_147 w_702 ?_
      refine J_iast dX9_sum_150 ?_
      refine J_iconst (v := 0) dX9_sum_151 (by decide) ?_
      refine J_istore_n (lv' := [(2, .int _), (0, .ref _), (1, .int _)]) dX9_sum_152 (by decide) rfl ?_
      refine J_sub [1, 0] rfl ?_
      exact jX9_sum_153 G l   FU _ _ _
    · refine J_aload_n dX9_sum_57 0 rfl ?_
      refine J_bipush (v := 8) dX9_sum_58 (by decide) ?_
      refine J_iload_n dX9_sum_60 1 rfl ?_
      refine J_imul dX9_sum_61 ?_
      refine J_iload_n dX9_sum_62 2 rfl ?_
      refine J_ishrK dX9_sum_63 ?_
      refine J_sipush (v := 255) dX9_sum_64 (by decide) ?_
      refine J_iand dX9_sum_67 ?_
      refine J_callVv (okX9_says G l _ _ _) mkX9_says _ _ rfl w_703 w_704 w_705 ⟨by decide, by decide⟩ rfl (Nat.le_of_ble_eq_true rfl) dX9_sum_68 (fun _u18 M17 => ?_)
      refine J_iincK (z := -8) (lv' := [(2, .int _), (0, .ref _), (1, .int _)]) dX9_sum_71 2 rfl (by decide) (by decide) rfl ?_
      refine J_goto (tgt := 53) dX9_sum_74 (by decide) ?_
      refine J_sub [1, 2, 0] rfl ?_
      exact ih _ _ _ _
def fX9_sum_34  : Nat → Nat → Int32 → Int32 → Mem → Option (Unit × Mem)
  | 0, _, _, _, _ => none
  | n + 1, l0, l1, l2, M => (if (4 : Int32) ≤ l2 then fX9_sum_53  FU l0 l1 (24 : Int32) M else (cV M 9 l0 (fX9_says l0 (0 : Int32) M) fun _u2 M1 => fX9_sum_34  n l0 l1 (l2 + (1 : Int32)) M1))
set_option maxHeartbeats 4000000 in
set_option maxRecDepth 100000 in
theorem jX9_sum_34 (G : Gx) (l : Launch)   : ∀ (n : Nat) (l0 : Nat) (l1 : Int32) (l2 : Int32) (M : Mem), J G l cX9_sum 3 RX9 none "sum" 2 55 (QM G (fun _ : Unit => none)) 34 [(0, .ref (adr G l0)), (1, .int l1), (2, .int l2)] [] M (fX9_sum_34  n l0 l1 l2 M) := by
  intro n
  induction n with
  | zero => intro l0 l1 l2 M; exact J_none
  | succ n ih =>
    intro l0 l1 l2 M
    rw [fX9_sum_34]
    refine J_iload_n dX9_sum_34 2 rfl ?_
    refine J_iconst (v := 4) dX9_sum_35 (by decide) ?_
    refine J_icmp_ge (tgt := 50) dX9_sum_36 (by decide) ?_ ?_
    · refine J_bipush (v := 24) dX9_sum_50 (by decide) ?_
      refine J_istore_n (lv' := [(2, .int _), (0, .ref _), (1, .int _)]) dX9_sum_52 (by decide) rfl ?_
      refine J_sub [1, 2, 0] rfl ?_
      exact jX9_sum_53 G l   FU _ _ _ _
    · refine J_aload_n dX9_sum_39 0 rfl ?_
      refine J_iconst (v := 0) dX9_sum_40 (by decide) ?_
      refine J_callVv (okX9_says G l _ _ _) mkX9_says _ _ rfl w_703 w_704 w_705 ⟨by decide, by decide⟩ rfl (Nat.le_of_ble_eq_true rfl) dX9_sum_41 (fun _u2 M1 => ?_)
      refine J_iincK (z := 1) (lv' := [(2, .int _), (0, .ref _), (1, .int _)]) dX9_sum_44 2 rfl (by decide) (by decide) rfl ?_
      refine J_goto (tgt := 34) dX9_sum_47 (by decide) ?_
      refine J_sub [1, 2, 0] rfl ?_
      exact ih _ _ _ _
def fX9_sum_12  : Nat → Nat → Int32 → Mem → Option (Unit × Mem)
  | 0, _, _, _ => none
  | n + 1, l0, l1, M => (gI M 9 42 l0 fun v1 => if (64 : Int32) = 0 then none else (if (v1 - v1 / (64 : Int32) * (64 : Int32)) = (56 : Int32) then fX9_sum_34  FU l0 l1 (0 : Int32) M else (cV M 9 l0 (fX9_says l0 (0 : Int32) M) fun _u3 M2 => fX9_sum_12  n l0 l1 M2)))
set_option maxHeartbeats 4000000 in
set_option maxRecDepth 100000 in
theorem jX9_sum_12 (G : Gx) (l : Launch)   : ∀ (n : Nat) (l0 : Nat) (l1 : Int32) (M : Mem), J G l cX9_sum 3 RX9 none "sum" 2 55 (QM G (fun _ : Unit => none)) 12 [(0, .ref (adr G l0)), (1, .int l1)] [] M (fX9_sum_12  n l0 l1 M) := by
  intro n
  induction n with
  | zero => intro l0 l1 M; exact J_none
  | succ n ih =>
    intro l0 l1 M
    rw [fX9_sum_12]
    refine J_aload_n dX9_sum_12 0 rfl ?_
    refine J_getI fd_9_42 w_687 rfl dX9_sum_13 ?_
    refine J_bipush (v := 64) dX9_sum_16 (by decide) ?_
    refine J_irem dX9_sum_18 ?_
    refine J_bipush (v := 56) dX9_sum_19 (by decide) ?_
    refine J_icmp_eq (tgt := 32) dX9_sum_21 (by decide) ?_ ?_
    · refine J_iconst (v := 0) dX9_sum_32 (by decide) ?_
      refine J_istore_n (lv' := [(2, .int _), (0, .ref _), (1, .int _)]) dX9_sum_33 (by decide) rfl ?_
      refine J_sub [1, 2, 0] rfl ?_
      exact jX9_sum_34 G l   FU _ _ _ _
    · refine J_aload_n dX9_sum_24 0 rfl ?_
      refine J_iconst (v := 0) dX9_sum_25 (by decide) ?_
      refine J_callVv (okX9_says G l _ _ _) mkX9_says _ _ rfl w_703 w_704 w_705 ⟨by decide, by decide⟩ rfl (Nat.le_of_ble_eq_true rfl) dX9_sum_26 (fun _u3 M2 => ?_)
      refine J_goto (tgt := 12) dX9_sum_29 (by decide) ?_
      refine J_sub [0, 1] rfl ?_
      exact ih _ _ _
def fX9_sum (l0 : Nat) (M : Mem) : Option (Unit × Mem) := (gI M 9 42 l0 fun v1 => (cV M 9 l0 (fX9_says l0 (128 : Int32) M) fun _u3 M2 => fX9_sum_12  FU l0 v1 M2))
set_option maxHeartbeats 4000000 in
set_option maxRecDepth 100000 in
theorem jX9_sum (G : Gx) (l : Launch) (l0 : Nat) (M : Mem) : J G l cX9_sum 3 RX9 none "sum" 2 55 (QM G (fun _ : Unit => none)) 0 [(0, .ref (adr G l0))] [] M (fX9_sum l0 M) := by
  unfold fX9_sum
  refine J_aload_n dX9_sum_0 0 rfl ?_
  refine J_getI fd_9_42 w_687 rfl dX9_sum_1 ?_
  refine J_istore_n (lv' := [(1, .int _), (0, .ref _)]) dX9_sum_4 (by decide) rfl ?_
  refine J_aload_n dX9_sum_5 1 rfl ?_
  refine J_sipush (v := 128) dX9_sum_6 (by decide) ?_
  refine J_callVv (okX9_says G l _ _ _) mkX9_says _ _ rfl w_703 w_704 w_705 ⟨by decide, by decide⟩ rfl (Nat.le_of_ble_eq_true rfl) dX9_sum_9 (fun _u3 M2 => ?_)
  refine J_sub [1, 0] rfl ?_
  exact jX9_sum_12 G l   FU _ _ _
theorem okX9_sum (G : Gx) (l : Launch) (l0 : Nat) (M : Mem) : Con G l yX9_sum cX9_sum 3 none 2 55 (fun _ : Unit => none) [.ref (adr G l0)] M (fX9_sum l0 M) := con_of (own := RX9) (nm := "sum") (by decide +kernel) rfl rfl (Nat.le_of_ble_eq_true rfl) (jX9_sum G l l0 M)
theorem mkX9_sum : MOk yX9_sum cX9_sum 3 none 0 := ⟨w_706, tb1 (List.mem_of_getElem? (i := 10) rfl) rfl, by decide +kernel, by decide +kernel, by decide +kernel⟩
-- X9_saysEntry
def fX9_saysEntry_2  : Nat → Nat → Int32 → Int32 → Mem → Option (Unit × Mem)
  | 0, _, _, _, _ => none
  | n + 1, l0, l1, l2, M => (gR M 9 22 l0 fun r1 => (rI M .int r1 l1 fun v2 => (if v2 ≤ l2 then some ((), M) else (gR M 9 18 l0 fun r3 => (gR M 9 21 l0 fun r4 => (rI M .int r4 l1 fun v5 => (rI M .int r3 (v5 + l2) fun v6 => (cV M 9 l0 (fX9_says l0 v6 M) fun _u8 M7 => fX9_saysEntry_2  n l0 l1 (l2 + (1 : Int32)) M7))))))))
set_option maxHeartbeats 4000000 in
set_option maxRecDepth 100000 in
theorem jX9_saysEntry_2 (G : Gx) (l : Launch)   : ∀ (n : Nat) (l0 : Nat) (l1 : Int32) (l2 : Int32) (M : Mem), J G l cX9_saysEntry 3 RX9 none "saysEntry" 1 21 (QM G (fun _ : Unit => none)) 2 [(0, .ref (adr G l0)), (1, .int l1), (2, .int l2)] [] M (fX9_saysEntry_2  n l0 l1 l2 M) := by
  intro n
  induction n with
  | zero => intro l0 l1 l2 M; exact J_none
  | succ n ih =>
    intro l0 l1 l2 M
    rw [fX9_saysEntry_2]
    refine J_iload_n dX9_saysEntry_2 2 rfl ?_
    refine J_aload_n dX9_saysEntry_3 0 rfl ?_
    refine J_getR fd_9_22 w_490 rfl dX9_saysEntry_4 (fun r1 => ?_)
    refine J_iload_n dX9_saysEntry_7 1 rfl ?_
    refine J_iald dX9_saysEntry_8 ?_
    refine J_icmp_ge (tgt := 35) dX9_saysEntry_9 (by decide) ?_ ?_
    · exact J_vret dX9_saysEntry_35
    · refine J_aload_n dX9_saysEntry_12 0 rfl ?_
      refine J_aload_n dX9_saysEntry_13 0 rfl ?_
      refine J_getR fd_9_18 w_487 rfl dX9_saysEntry_14 (fun r3 => ?_)
      refine J_aload_n dX9_saysEntry_17 0 rfl ?_
      refine J_getR fd_9_21 w_489 rfl dX9_saysEntry_18 (fun r4 => ?_)
      refine J_iload_n dX9_saysEntry_21 1 rfl ?_
      refine J_iald dX9_saysEntry_22 ?_
      refine J_iload_n dX9_saysEntry_23 2 rfl ?_
      refine J_iadd dX9_saysEntry_24 ?_
      refine J_iald dX9_saysEntry_25 ?_
      refine J_callVv (okX9_says G l _ _ _) mkX9_says _ _ rfl w_703 w_704 w_705 ⟨by decide, by decide⟩ rfl (Nat.le_of_ble_eq_true rfl) dX9_saysEntry_26 (fun _u8 M7 => ?_)
      refine J_iincK (z := 1) (lv' := [(2, .int _), (0, .ref _), (1, .int _)]) dX9_saysEntry_29 2 rfl (by decide) (by decide) rfl ?_
      refine J_goto (tgt := 2) dX9_saysEntry_32 (by decide) ?_
      refine J_sub [1, 2, 0] rfl ?_
      exact ih _ _ _ _
def fX9_saysEntry (l0 : Nat) (l1 : Int32) (M : Mem) : Option (Unit × Mem) := fX9_saysEntry_2  FU l0 l1 (0 : Int32) M
set_option maxHeartbeats 4000000 in
set_option maxRecDepth 100000 in
theorem jX9_saysEntry (G : Gx) (l : Launch) (l0 : Nat) (l1 : Int32) (M : Mem) : J G l cX9_saysEntry 3 RX9 none "saysEntry" 1 21 (QM G (fun _ : Unit => none)) 0 [(0, .ref (adr G l0)), (1, .int l1)] [] M (fX9_saysEntry l0 l1 M) := by
  unfold fX9_saysEntry
  refine J_iconst (v := 0) dX9_saysEntry_0 (by decide) ?_
  refine J_istore_n (lv' := [(2, .int _), (0, .ref _), (1, .int _)]) dX9_saysEntry_1 (by decide) rfl ?_
  refine J_sub [1, 2, 0] rfl ?_
  exact jX9_saysEntry_2 G l   FU _ _ _ _
theorem okX9_saysEntry (G : Gx) (l : Launch) (l0 : Nat) (l1 : Int32) (M : Mem) : Con G l yX9_saysEntry cX9_saysEntry 3 none 1 21 (fun _ : Unit => none) [.ref (adr G l0), .int l1] M (fX9_saysEntry l0 l1 M) := con_of (own := RX9) (nm := "saysEntry") (by decide +kernel) rfl rfl (Nat.le_of_ble_eq_true rfl) (jX9_saysEntry G l l0 l1 M)
theorem mkX9_saysEntry : MOk yX9_saysEntry cX9_saysEntry 3 none 1 := ⟨w_707, tb1 (List.mem_of_getElem? (i := 10) rfl) rfl, by decide +kernel, by decide +kernel, by decide +kernel⟩
-- X9_chain
def fX9_chain_30 (k23 : Nat → Int32 → Int32 → Mem → Option (Unit × Mem)) : Nat → Nat → Int32 → Int32 → Int32 → Mem → Option (Unit × Mem)
  | 0, _, _, _, _, _ => none
  | n + 1, l0, l1, l2, l3, M => (if (32 : Int32) ≤ l3 then (cV M 9 l0 (fX9_saysEntry l0 l2 M) fun _u2 M1 => (cV M1 9 l0 (fX9_sum l0 M1) fun _u4 M3 => k23 l0 l1 (l2 + (1 : Int32)) M3)) else (gR M 9 45 l0 fun r5 => (rI M .int r5 l3 fun v6 => (cV M 9 l0 (fX9_says l0 v6 M) fun _u8 M7 => fX9_chain_30 k23 n l0 l1 l2 (l3 + (1 : Int32)) M7))))
set_option maxHeartbeats 4000000 in
set_option maxRecDepth 100000 in
theorem jX9_chain_30 (G : Gx) (l : Launch) (k23 : Nat → Int32 → Int32 → Mem → Option (Unit × Mem)) (h23 : ∀ (l0 : Nat) (l1 : Int32) (l2 : Int32) (M : Mem), J G l cX9_chain 4 RX9 none "chain" 3 77 (QM G (fun _ : Unit => none)) 23 [(0, .ref (adr G l0)), (1, .int l1), (2, .int l2)] [] M (k23 l0 l1 l2 M)) : ∀ (n : Nat) (l0 : Nat) (l1 : Int32) (l2 : Int32) (l3 : Int32) (M : Mem), J G l cX9_chain 4 RX9 none "chain" 3 77 (QM G (fun _ : Unit => none)) 30 [(0, .ref (adr G l0)), (1, .int l1), (2, .int l2), (3, .int l3)] [] M (fX9_chain_30 k23 n l0 l1 l2 l3 M) := by
  intro n
  induction n with
  | zero => intro l0 l1 l2 l3 M; exact J_none
  | succ n ih =>
    intro l0 l1 l2 l3 M
    rw [fX9_chain_30]
    refine J_iload_n dX9_chain_30 3 rfl ?_
    refine J_bipush (v := 32) dX9_chain_31 (by decide) ?_
    refine J_icmp_ge (tgt := 52) dX9_chain_33 (by decide) ?_ ?_
    · refine J_aload_n dX9_chain_52 0 rfl ?_
      refine J_iload_n dX9_chain_53 2 rfl ?_
      refine J_callVv (okX9_saysEntry G l _ _ _) mkX9_saysEntry _ _ rfl w_708 w_709 w_710 ⟨by decide, by decide⟩ rfl (Nat.le_of_ble_eq_true rfl) dX9_chain_54 (fun _u2 M1 => ?_)
      refine J_aload_n dX9_chain_57 0 rfl ?_
      refine J_callVv (okX9_sum G l _ _) mkX9_sum _ _ rfl w_711 w_712 w_713 ⟨by decide, by decide⟩ rfl (Nat.le_of_ble_eq_true rfl) dX9_chain_58 (fun _u4 M3 => ?_)
      refine J_iincK (z := 1) (lv' := [(2, .int _), (0, .ref _), (1, .int _), (3, .int _)]) dX9_chain_61 2 rfl (by decide) (by decide) rfl ?_
      refine J_goto (tgt := 23) dX9_chain_64 (by decide) ?_
      refine J_sub [1, 2, 0] rfl ?_
      exact h23 _ _ _ _
    · refine J_aload_n dX9_chain_36 0 rfl ?_
      refine J_aload_n dX9_chain_37 0 rfl ?_
      refine J_getR fd_9_45 w_567 rfl dX9_chain_38 (fun r5 => ?_)
      refine J_iload_n dX9_chain_41 3 rfl ?_
      refine J_iald dX9_chain_42 ?_
      refine J_callVv (okX9_says G l _ _ _) mkX9_says _ _ rfl w_703 w_704 w_705 ⟨by decide, by decide⟩ rfl (Nat.le_of_ble_eq_true rfl) dX9_chain_43 (fun _u8 M7 => ?_)
      refine J_iincK (z := 1) (lv' := [(3, .int _), (0, .ref _), (1, .int _), (2, .int _)]) dX9_chain_46 3 rfl (by decide) (by decide) rfl ?_
      refine J_goto (tgt := 30) dX9_chain_49 (by decide) ?_
      refine J_sub [1, 2, 3, 0] rfl ?_
      exact ih _ _ _ _ _
def fX9_chain_23  : Nat → Nat → Int32 → Int32 → Mem → Option (Unit × Mem)
  | 0, _, _, _, _ => none
  | n + 1, l0, l1, l2, M => (if l1 ≤ l2 then some ((), M) else fX9_chain_30 (fX9_chain_23  n) FU l0 l1 l2 (0 : Int32) M)
set_option maxHeartbeats 4000000 in
set_option maxRecDepth 100000 in
theorem jX9_chain_23 (G : Gx) (l : Launch)   : ∀ (n : Nat) (l0 : Nat) (l1 : Int32) (l2 : Int32) (M : Mem), J G l cX9_chain 4 RX9 none "chain" 3 77 (QM G (fun _ : Unit => none)) 23 [(0, .ref (adr G l0)), (1, .int l1), (2, .int l2)] [] M (fX9_chain_23  n l0 l1 l2 M) := by
  intro n
  induction n with
  | zero => intro l0 l1 l2 M; exact J_none
  | succ n ih =>
    intro l0 l1 l2 M
    rw [fX9_chain_23]
    refine J_iload_n dX9_chain_23 2 rfl ?_
    refine J_iload_n dX9_chain_24 1 rfl ?_
    refine J_icmp_ge (tgt := 67) dX9_chain_25 (by decide) ?_ ?_
    · exact J_vret dX9_chain_67
    · refine J_iconst (v := 0) dX9_chain_28 (by decide) ?_
      refine J_istore_n (lv' := [(3, .int _), (0, .ref _), (1, .int _), (2, .int _)]) dX9_chain_29 (by decide) rfl ?_
      refine J_sub [1, 2, 3, 0] rfl ?_
      exact jX9_chain_30 G l _ ih FU _ _ _ _ _
def fX9_chain_2  : Nat → Nat → Int32 → Int32 → Mem → Option (Unit × Mem)
  | 0, _, _, _, _ => none
  | n + 1, l0, l1, l2, M => (if (32 : Int32) ≤ l2 then fX9_chain_23  FU l0 l1 (0 : Int32) M else (gR M 9 45 l0 fun r1 => (wI M .int r1 l2 (0 : Int32) fun M2 => fX9_chain_2  n l0 l1 (l2 + (1 : Int32)) M2)))
set_option maxHeartbeats 4000000 in
set_option maxRecDepth 100000 in
theorem jX9_chain_2 (G : Gx) (l : Launch)   : ∀ (n : Nat) (l0 : Nat) (l1 : Int32) (l2 : Int32) (M : Mem), J G l cX9_chain 4 RX9 none "chain" 3 77 (QM G (fun _ : Unit => none)) 2 [(0, .ref (adr G l0)), (1, .int l1), (2, .int l2)] [] M (fX9_chain_2  n l0 l1 l2 M) := by
  intro n
  induction n with
  | zero => intro l0 l1 l2 M; exact J_none
  | succ n ih =>
    intro l0 l1 l2 M
    rw [fX9_chain_2]
    refine J_iload_n dX9_chain_2 2 rfl ?_
    refine J_bipush (v := 32) dX9_chain_3 (by decide) ?_
    refine J_icmp_ge (tgt := 21) dX9_chain_5 (by decide) ?_ ?_
    · refine J_iconst (v := 0) dX9_chain_21 (by decide) ?_
      refine J_istore_n (lv' := [(2, .int _), (0, .ref _), (1, .int _)]) dX9_chain_22 (by decide) rfl ?_
      refine J_sub [1, 2, 0] rfl ?_
      exact jX9_chain_23 G l   FU _ _ _ _
    · refine J_aload_n dX9_chain_8 0 rfl ?_
      refine J_getR fd_9_45 w_567 rfl dX9_chain_9 (fun r1 => ?_)
      refine J_iload_n dX9_chain_12 2 rfl ?_
      refine J_iconst (v := 0) dX9_chain_13 (by decide) ?_
      refine J_iast dX9_chain_14 ?_
      refine J_iincK (z := 1) (lv' := [(2, .int _), (0, .ref _), (1, .int _)]) dX9_chain_15 2 rfl (by decide) (by decide) rfl ?_
      refine J_goto (tgt := 2) dX9_chain_18 (by decide) ?_
      refine J_sub [1, 2, 0] rfl ?_
      exact ih _ _ _ _
def fX9_chain (l0 : Nat) (l1 : Int32) (M : Mem) : Option (Unit × Mem) := fX9_chain_2  FU l0 l1 (0 : Int32) M
set_option maxHeartbeats 4000000 in
set_option maxRecDepth 100000 in
theorem jX9_chain (G : Gx) (l : Launch) (l0 : Nat) (l1 : Int32) (M : Mem) : J G l cX9_chain 4 RX9 none "chain" 3 77 (QM G (fun _ : Unit => none)) 0 [(0, .ref (adr G l0)), (1, .int l1)] [] M (fX9_chain l0 l1 M) := by
  unfold fX9_chain
  refine J_iconst (v := 0) dX9_chain_0 (by decide) ?_
  refine J_istore_n (lv' := [(2, .int _), (0, .ref _), (1, .int _)]) dX9_chain_1 (by decide) rfl ?_
  refine J_sub [1, 2, 0] rfl ?_
  exact jX9_chain_2 G l   FU _ _ _ _
theorem okX9_chain (G : Gx) (l : Launch) (l0 : Nat) (l1 : Int32) (M : Mem) : Con G l yX9_chain cX9_chain 4 none 3 77 (fun _ : Unit => none) [.ref (adr G l0), .int l1] M (fX9_chain l0 l1 M) := con_of (own := RX9) (nm := "chain") (by decide +kernel) rfl rfl (Nat.le_of_ble_eq_true rfl) (jX9_chain G l l0 l1 M)
theorem mkX9_chain : MOk yX9_chain cX9_chain 4 none 1 := ⟨w_714, tb1 (List.mem_of_getElem? (i := 10) rfl) rfl, by decide +kernel, by decide +kernel, by decide +kernel⟩
-- X9_leaf
def fX9_leaf (l0 : Nat) (l1 : Int32) (M : Mem) : Option (Unit × Mem) := (cV M 9 l0 (fX9_says l0 (0 : Int32) M) fun _u2 M1 => (cV M1 9 l0 (fX9_saysEntry l0 l1 M1) fun _u4 M3 => (cV M3 9 l0 (fX9_sum l0 M3) fun _u6 M5 => some ((), M5))))
set_option maxHeartbeats 4000000 in
set_option maxRecDepth 100000 in
theorem jX9_leaf (G : Gx) (l : Launch) (l0 : Nat) (l1 : Int32) (M : Mem) : J G l cX9_leaf 2 RX9 none "leaf" 3 77 (QM G (fun _ : Unit => none)) 0 [(0, .ref (adr G l0)), (1, .int l1)] [] M (fX9_leaf l0 l1 M) := by
  unfold fX9_leaf
  refine J_aload_n dX9_leaf_0 0 rfl ?_
  refine J_iconst (v := 0) dX9_leaf_1 (by decide) ?_
  refine J_callVv (okX9_says G l _ _ _) mkX9_says _ _ rfl w_703 w_704 w_705 ⟨by decide, by decide⟩ rfl (Nat.le_of_ble_eq_true rfl) dX9_leaf_2 (fun _u2 M1 => ?_)
  refine J_aload_n dX9_leaf_5 0 rfl ?_
  refine J_iload_n dX9_leaf_6 1 rfl ?_
  refine J_callVv (okX9_saysEntry G l _ _ _) mkX9_saysEntry _ _ rfl w_708 w_709 w_710 ⟨by decide, by decide⟩ rfl (Nat.le_of_ble_eq_true rfl) dX9_leaf_7 (fun _u4 M3 => ?_)
  refine J_aload_n dX9_leaf_10 0 rfl ?_
  refine J_callVv (okX9_sum G l _ _) mkX9_sum _ _ rfl w_711 w_712 w_713 ⟨by decide, by decide⟩ rfl (Nat.le_of_ble_eq_true rfl) dX9_leaf_11 (fun _u6 M5 => ?_)
  exact J_vret dX9_leaf_14
theorem okX9_leaf (G : Gx) (l : Launch) (l0 : Nat) (l1 : Int32) (M : Mem) : Con G l yX9_leaf cX9_leaf 2 none 3 77 (fun _ : Unit => none) [.ref (adr G l0), .int l1] M (fX9_leaf l0 l1 M) := con_of (own := RX9) (nm := "leaf") (by decide +kernel) rfl rfl (Nat.le_of_ble_eq_true rfl) (jX9_leaf G l l0 l1 M)
theorem mkX9_leaf : MOk yX9_leaf cX9_leaf 2 none 1 := ⟨w_715, tb1 (List.mem_of_getElem? (i := 10) rfl) rfl, by decide +kernel, by decide +kernel, by decide +kernel⟩
-- X9_keepWait
def fX9_keepWait_2  : Nat → Nat → Int32 → Int32 → Mem → Option (Unit × Mem)
  | 0, _, _, _, _ => none
  | n + 1, l0, l1, l2, M => (if (32 : Int32) ≤ l2 then some ((), M) else (gR M 9 46 l0 fun r1 => (gR M 9 45 l0 fun r2 => (rI M .int r2 l2 fun v3 => (wI M .int r1 (((32 : Int32) * l1) + l2) v3 fun M4 => fX9_keepWait_2  n l0 l1 (l2 + (1 : Int32)) M4)))))
set_option maxHeartbeats 4000000 in
set_option maxRecDepth 100000 in
theorem jX9_keepWait_2 (G : Gx) (l : Launch)   : ∀ (n : Nat) (l0 : Nat) (l1 : Int32) (l2 : Int32) (M : Mem), J G l cX9_keepWait 3 RX9 none "keepWait" 0 0 (QM G (fun _ : Unit => none)) 2 [(0, .ref (adr G l0)), (1, .int l1), (2, .int l2)] [] M (fX9_keepWait_2  n l0 l1 l2 M) := by
  intro n
  induction n with
  | zero => intro l0 l1 l2 M; exact J_none
  | succ n ih =>
    intro l0 l1 l2 M
    rw [fX9_keepWait_2]
    refine J_iload_n dX9_keepWait_2 2 rfl ?_
    refine J_bipush (v := 32) dX9_keepWait_3 (by decide) ?_
    refine J_icmp_ge (tgt := 31) dX9_keepWait_5 (by decide) ?_ ?_
    · exact J_vret dX9_keepWait_31
    · refine J_aload_n dX9_keepWait_8 0 rfl ?_
      refine J_getR fd_9_46 w_568 rfl dX9_keepWait_9 (fun r1 => ?_)
      refine J_bipush (v := 32) dX9_keepWait_12 (by decide) ?_
      refine J_iload_n dX9_keepWait_14 1 rfl ?_
      refine J_imul dX9_keepWait_15 ?_
      refine J_iload_n dX9_keepWait_16 2 rfl ?_
      refine J_iadd dX9_keepWait_17 ?_
      refine J_aload_n dX9_keepWait_18 0 rfl ?_
      refine J_getR fd_9_45 w_567 rfl dX9_keepWait_19 (fun r2 => ?_)
      refine J_iload_n dX9_keepWait_22 2 rfl ?_
      refine J_iald dX9_keepWait_23 ?_
      refine J_iast dX9_keepWait_24 ?_
      refine J_iincK (z := 1) (lv' := [(2, .int _), (0, .ref _), (1, .int _)]) dX9_keepWait_25 2 rfl (by decide) (by decide) rfl ?_
      refine J_goto (tgt := 2) dX9_keepWait_28 (by decide) ?_
      refine J_sub [1, 2, 0] rfl ?_
      exact ih _ _ _ _
def fX9_keepWait (l0 : Nat) (l1 : Int32) (M : Mem) : Option (Unit × Mem) := fX9_keepWait_2  FU l0 l1 (0 : Int32) M
set_option maxHeartbeats 4000000 in
set_option maxRecDepth 100000 in
theorem jX9_keepWait (G : Gx) (l : Launch) (l0 : Nat) (l1 : Int32) (M : Mem) : J G l cX9_keepWait 3 RX9 none "keepWait" 0 0 (QM G (fun _ : Unit => none)) 0 [(0, .ref (adr G l0)), (1, .int l1)] [] M (fX9_keepWait l0 l1 M) := by
  unfold fX9_keepWait
  refine J_iconst (v := 0) dX9_keepWait_0 (by decide) ?_
  refine J_istore_n (lv' := [(2, .int _), (0, .ref _), (1, .int _)]) dX9_keepWait_1 (by decide) rfl ?_
  refine J_sub [1, 2, 0] rfl ?_
  exact jX9_keepWait_2 G l   FU _ _ _ _
theorem okX9_keepWait (G : Gx) (l : Launch) (l0 : Nat) (l1 : Int32) (M : Mem) : Con G l yX9_keepWait cX9_keepWait 3 none 0 0 (fun _ : Unit => none) [.ref (adr G l0), .int l1] M (fX9_keepWait l0 l1 M) := con_of (own := RX9) (nm := "keepWait") (by decide +kernel) rfl rfl (Nat.le_of_ble_eq_true rfl) (jX9_keepWait G l l0 l1 M)
theorem mkX9_keepWait : MOk yX9_keepWait cX9_keepWait 3 none 1 := ⟨w_716, tb1 (List.mem_of_getElem? (i := 10) rfl) rfl, by decide +kernel, by decide +kernel, by decide +kernel⟩
-- X9_joins
def fX9_joins_36  : Nat → Nat → Int32 → Mem → Option (Unit × Mem)
  | 0, _, _, _ => none
  | n + 1, l0, l2, M => (if (32 : Int32) ≤ l2 then (cV M 9 l0 (fX9_sum l0 M) fun _u2 M1 => some ((), M1)) else (gR M 9 45 l0 fun r3 => (rI M .int r3 l2 fun v4 => (cV M 9 l0 (fX9_says l0 v4 M) fun _u6 M5 => fX9_joins_36  n l0 (l2 + (1 : Int32)) M5))))
set_option maxHeartbeats 4000000 in
set_option maxRecDepth 100000 in
theorem jX9_joins_36 (G : Gx) (l : Launch)   : ∀ (n : Nat) (l0 : Nat) (l2 : Int32) (M : Mem), J G l cX9_joins 3 RX9 none "joins" 3 77 (QM G (fun _ : Unit => none)) 36 [(0, .ref (adr G l0)), (2, .int l2)] [] M (fX9_joins_36  n l0 l2 M) := by
  intro n
  induction n with
  | zero => intro l0 l2 M; exact J_none
  | succ n ih =>
    intro l0 l2 M
    rw [fX9_joins_36]
    refine J_iload_n dX9_joins_36 1 rfl ?_
    refine J_bipush (v := 32) dX9_joins_37 (by decide) ?_
    refine J_icmp_ge (tgt := 58) dX9_joins_39 (by decide) ?_ ?_
    · refine J_aload_n dX9_joins_58 0 rfl ?_
      refine J_callVv (okX9_sum G l _ _) mkX9_sum _ _ rfl w_711 w_712 w_713 ⟨by decide, by decide⟩ rfl (Nat.le_of_ble_eq_true rfl) dX9_joins_59 (fun _u2 M1 => ?_)
      exact J_vret dX9_joins_62
    · refine J_aload_n dX9_joins_42 0 rfl ?_
      refine J_aload_n dX9_joins_43 0 rfl ?_
      refine J_getR fd_9_45 w_567 rfl dX9_joins_44 (fun r3 => ?_)
      refine J_iload_n dX9_joins_47 1 rfl ?_
      refine J_iald dX9_joins_48 ?_
      refine J_callVv (okX9_says G l _ _ _) mkX9_says _ _ rfl w_703 w_704 w_705 ⟨by decide, by decide⟩ rfl (Nat.le_of_ble_eq_true rfl) dX9_joins_49 (fun _u6 M5 => ?_)
      refine J_iincK (z := 1) (lv' := [(2, .int _), (0, .ref _)]) dX9_joins_52 1 rfl (by decide) (by decide) rfl ?_
      refine J_goto (tgt := 36) dX9_joins_55 (by decide) ?_
      refine J_sub [1, 0] rfl ?_
      exact ih _ _ _
def fX9_joins_7  : Nat → Nat → Int32 → Int32 → Mem → Option (Unit × Mem)
  | 0, _, _, _, _ => none
  | n + 1, l0, l1, l2, M => (if (32 : Int32) ≤ l2 then fX9_joins_36  FU l0 (0 : Int32) M else (gR M 9 46 l0 fun r1 => (rI M .int r1 (((32 : Int32) * l1) + l2) fun v2 => (cV M 9 l0 (fX9_says l0 v2 M) fun _u4 M3 => fX9_joins_7  n l0 l1 (l2 + (1 : Int32)) M3))))
set_option maxHeartbeats 4000000 in
set_option maxRecDepth 100000 in
theorem jX9_joins_7 (G : Gx) (l : Launch)   : ∀ (n : Nat) (l0 : Nat) (l1 : Int32) (l2 : Int32) (M : Mem), J G l cX9_joins 3 RX9 none "joins" 3 77 (QM G (fun _ : Unit => none)) 7 [(0, .ref (adr G l0)), (1, .int l1), (2, .int l2)] [] M (fX9_joins_7  n l0 l1 l2 M) := by
  intro n
  induction n with
  | zero => intro l0 l1 l2 M; exact J_none
  | succ n ih =>
    intro l0 l1 l2 M
    rw [fX9_joins_7]
    refine J_iload_n dX9_joins_7 2 rfl ?_
    refine J_bipush (v := 32) dX9_joins_8 (by decide) ?_
    refine J_icmp_ge (tgt := 34) dX9_joins_10 (by decide) ?_ ?_
    · refine J_iconst (v := 0) dX9_joins_34 (by decide) ?_
      refine J_istore_n (lv' := [(2, .int _), (0, .ref _), (1, .int _)]) dX9_joins_35 (by decide) rfl ?_
      refine J_sub [1, 0] rfl ?_
      exact jX9_joins_36 G l   FU _ _ _
    · refine J_aload_n dX9_joins_13 0 rfl ?_
      refine J_aload_n dX9_joins_14 0 rfl ?_
      refine J_getR fd_9_46 w_568 rfl dX9_joins_15 (fun r1 => ?_)
      refine J_bipush (v := 32) dX9_joins_18 (by decide) ?_
      refine J_iload_n dX9_joins_20 1 rfl ?_
      refine J_imul dX9_joins_21 ?_
      refine J_iload_n dX9_joins_22 2 rfl ?_
      refine J_iadd dX9_joins_23 ?_
      refine J_iald dX9_joins_24 ?_
      refine J_callVv (okX9_says G l _ _ _) mkX9_says _ _ rfl w_703 w_704 w_705 ⟨by decide, by decide⟩ rfl (Nat.le_of_ble_eq_true rfl) dX9_joins_25 (fun _u4 M3 => ?_)
      refine J_iincK (z := 1) (lv' := [(2, .int _), (0, .ref _), (1, .int _)]) dX9_joins_28 2 rfl (by decide) (by decide) rfl ?_
      refine J_goto (tgt := 7) dX9_joins_31 (by decide) ?_
      refine J_sub [1, 2, 0] rfl ?_
      exact ih _ _ _ _
def fX9_joins (l0 : Nat) (l1 : Int32) (M : Mem) : Option (Unit × Mem) := (cV M 9 l0 (fX9_says l0 (1 : Int32) M) fun _u2 M1 => fX9_joins_7  FU l0 l1 (0 : Int32) M1)
set_option maxHeartbeats 4000000 in
set_option maxRecDepth 100000 in
theorem jX9_joins (G : Gx) (l : Launch) (l0 : Nat) (l1 : Int32) (M : Mem) : J G l cX9_joins 3 RX9 none "joins" 3 77 (QM G (fun _ : Unit => none)) 0 [(0, .ref (adr G l0)), (1, .int l1)] [] M (fX9_joins l0 l1 M) := by
  unfold fX9_joins
  refine J_aload_n dX9_joins_0 0 rfl ?_
  refine J_iconst (v := 1) dX9_joins_1 (by decide) ?_
  refine J_callVv (okX9_says G l _ _ _) mkX9_says _ _ rfl w_703 w_704 w_705 ⟨by decide, by decide⟩ rfl (Nat.le_of_ble_eq_true rfl) dX9_joins_2 (fun _u2 M1 => ?_)
  refine J_iconst (v := 0) dX9_joins_5 (by decide) ?_
  refine J_istore_n (lv' := [(2, .int _), (0, .ref _), (1, .int _)]) dX9_joins_6 (by decide) rfl ?_
  refine J_sub [1, 2, 0] rfl ?_
  exact jX9_joins_7 G l   FU _ _ _ _
theorem okX9_joins (G : Gx) (l : Launch) (l0 : Nat) (l1 : Int32) (M : Mem) : Con G l yX9_joins cX9_joins 3 none 3 77 (fun _ : Unit => none) [.ref (adr G l0), .int l1] M (fX9_joins l0 l1 M) := con_of (own := RX9) (nm := "joins") (by decide +kernel) rfl rfl (Nat.le_of_ble_eq_true rfl) (jX9_joins G l l0 l1 M)
theorem mkX9_joins : MOk yX9_joins cX9_joins 3 none 1 := ⟨w_717, tb1 (List.mem_of_getElem? (i := 10) rfl) rfl, by decide +kernel, by decide +kernel, by decide +kernel⟩
