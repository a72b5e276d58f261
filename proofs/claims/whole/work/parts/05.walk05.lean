-- X8_sameHash
def fX8_sameHash_2  : Nat → Nat → Nat → Int32 → Mem → Option (Int32 × Mem)
  | 0, _, _, _, _ => none
  | n + 1, l0, l1, l2, M => (if (8 : Int32) ≤ l2 then retZ (1 : Int32) (some ((1 : Int32), M)) else (rI M .int l0 l2 fun v1 => (rI M .int l1 l2 fun v2 => (if v1 = v2 then fX8_sameHash_2  n l0 l1 (l2 + (1 : Int32)) M else retZ (0 : Int32) (some ((0 : Int32), M))))))
set_option maxHeartbeats 4000000 in
set_option maxRecDepth 100000 in
theorem jX8_sameHash_2 (G : Gx) (l : Launch)   : ∀ (n : Nat) (l0 : Nat) (l1 : Nat) (l2 : Int32) (M : Mem), J G l cX8_sameHash 3 RX8 (some .boolean) "sameHash" 0 0 (QM G (fun v : Int32 => some (.int v))) 2 [(0, .ref (adr G l0)), (1, .ref (adr G l1)), (2, .int l2)] [] M (fX8_sameHash_2  n l0 l1 l2 M) := by
  intro n
  induction n with
  | zero => intro l0 l1 l2 M; exact J_none
  | succ n ih =>
    intro l0 l1 l2 M
    rw [fX8_sameHash_2]
    refine J_iload_n dX8_sameHash_2 2 rfl ?_
    refine J_bipush (v := 8) dX8_sameHash_3 (by decide) ?_
    refine J_icmp_ge (tgt := 25) dX8_sameHash_5 (by decide) ?_ ?_
    · refine J_iconst (v := 1) dX8_sameHash_25 (by decide) ?_
      exact J_zret dX8_sameHash_26
    · refine J_aload_n dX8_sameHash_8 0 rfl ?_
      refine J_iload_n dX8_sameHash_9 2 rfl ?_
      refine J_iald dX8_sameHash_10 ?_
      refine J_aload_n dX8_sameHash_11 1 rfl ?_
      refine J_iload_n dX8_sameHash_12 2 rfl ?_
      refine J_iald dX8_sameHash_13 ?_
      refine J_icmp_eq (tgt := 19) dX8_sameHash_14 (by decide) ?_ ?_
      · refine J_iincK (z := 1) (lv' := [(2, .int _), (0, .ref _), (1, .ref _)]) dX8_sameHash_19 2 rfl (by decide) (by decide) rfl ?_
        refine J_goto (tgt := 2) dX8_sameHash_22 (by decide) ?_
        refine J_sub [1, 2, 0] rfl ?_
        exact ih _ _ _ _
      · refine J_iconst (v := 0) dX8_sameHash_17 (by decide) ?_
        exact J_zret dX8_sameHash_18
def fX8_sameHash (l0 : Nat) (l1 : Nat) (M : Mem) : Option (Int32 × Mem) := fX8_sameHash_2  FU l0 l1 (0 : Int32) M
set_option maxHeartbeats 4000000 in
set_option maxRecDepth 100000 in
theorem jX8_sameHash (G : Gx) (l : Launch) (l0 : Nat) (l1 : Nat) (M : Mem) : J G l cX8_sameHash 3 RX8 (some .boolean) "sameHash" 0 0 (QM G (fun v : Int32 => some (.int v))) 0 [(0, .ref (adr G l0)), (1, .ref (adr G l1))] [] M (fX8_sameHash l0 l1 M) := by
  unfold fX8_sameHash
  refine J_iconst (v := 0) dX8_sameHash_0 (by decide) ?_
  refine J_istore_n (lv' := [(2, .int _), (0, .ref _), (1, .ref _)]) dX8_sameHash_1 (by decide) rfl ?_
  refine J_sub [1, 2, 0] rfl ?_
  exact jX8_sameHash_2 G l   FU _ _ _ _
theorem okX8_sameHash (G : Gx) (l : Launch) (l0 : Nat) (l1 : Nat) (M : Mem) : Con G l yX8_sameHash cX8_sameHash 3 (some .boolean) 0 0 (fun v : Int32 => some (.int v)) [.ref (adr G l0), .ref (adr G l1)] M (fX8_sameHash l0 l1 M) := con_of (own := RX8) (nm := "sameHash") (by decide +kernel) rfl rfl (Nat.le_of_ble_eq_true rfl) (jX8_sameHash G l l0 l1 M)
theorem mkX8_sameHash : MOk yX8_sameHash cX8_sameHash 3 (some .boolean) 2 := ⟨w_337, tb1 (List.mem_of_getElem? (i := 1) rfl) rfl, by decide +kernel, by decide +kernel, by decide +kernel⟩
-- X7_reaches
def fX7_reaches (l0 : Nat) (l1 : Nat) (l2 : Nat) (M : Mem) : Option (Int32 × Mem) := (cV M 7 l0 (fX7_goUp l0 l1 M) fun _u2 M1 => (gR M1 7 14 l0 fun r3 => (gR M1 2 1 l2 fun r4 => (bd (fX8_sameHash r3 r4 M1) fun v6 M5 => retZ v6 (some (v6, M5))))))
set_option maxHeartbeats 4000000 in
set_option maxRecDepth 100000 in
theorem jX7_reaches (G : Gx) (l : Launch) (l0 : Nat) (l1 : Nat) (l2 : Nat) (M : Mem) : J G l cX7_reaches 3 RX7 (some .boolean) "reaches" 4 101 (QM G (fun v : Int32 => some (.int v))) 0 [(0, .ref (adr G l0)), (1, .ref (adr G l1)), (2, .ref (adr G l2))] [] M (fX7_reaches l0 l1 l2 M) := by
  unfold fX7_reaches
  refine J_aload_n dX7_reaches_0 0 rfl ?_
  refine J_aload_n dX7_reaches_1 1 rfl ?_
  refine J_callVv (okX7_goUp G l _ _ _) mkX7_goUp _ _ rfl w_333 w_334 w_335 ⟨by decide, by decide⟩ rfl (Nat.le_of_ble_eq_true rfl) dX7_reaches_2 (fun _u2 M1 => ?_)
  refine J_aload_n dX7_reaches_5 0 rfl ?_
  refine J_getR fd_7_14 w_302 rfl dX7_reaches_6 (fun r3 => ?_)
  refine J_aload_n dX7_reaches_9 2 rfl ?_
  refine J_getR fd_2_1 w_336 rfl dX7_reaches_10 (fun r4 => ?_)
  refine J_callSNi (host := "ChainBooks") (okX8_sameHash G l _ _ _) mkX8_sameHash (List.mem_of_getElem? (i := 20) rfl) w_338 ⟨by decide, by decide⟩ rfl (Nat.le_of_ble_eq_true rfl) dX7_reaches_13 (fun v6 M5 => ?_)
  exact J_zret dX7_reaches_16
theorem okX7_reaches (G : Gx) (l : Launch) (l0 : Nat) (l1 : Nat) (l2 : Nat) (M : Mem) : Con G l yX7_reaches cX7_reaches 3 (some .boolean) 4 101 (fun v : Int32 => some (.int v)) [.ref (adr G l0), .ref (adr G l1), .ref (adr G l2)] M (fX7_reaches l0 l1 l2 M) := con_of (own := RX7) (nm := "reaches") (by decide +kernel) rfl rfl (Nat.le_of_ble_eq_true rfl) (jX7_reaches G l l0 l1 l2 M)
theorem mkX7_reaches : MOk yX7_reaches cX7_reaches 3 (some .boolean) 2 := ⟨w_339, tb1 (List.mem_of_getElem? (i := 8) rfl) rfl, by decide +kernel, by decide +kernel, by decide +kernel⟩
-- X7_joins
def fX7_joins_57  (s0 : Int32) (M : Mem) : Option (Int32 × Mem) := retZ s0 (some (s0, M))
set_option maxHeartbeats 4000000 in
set_option maxRecDepth 100000 in
theorem jX7_joins_57 (G : Gx) (l : Launch)   (s0 : Int32) (M : Mem) : J G l cX7_joins 3 RX7 (some .boolean) "joins" 4 101 (QM G (fun v : Int32 => some (.int v))) 57 [] [.int s0] M (fX7_joins_57  s0 M) := by
  unfold fX7_joins_57
  exact J_zret dX7_joins_57
def fX7_joins_56   (M : Mem) : Option (Int32 × Mem) := fX7_joins_57  (0 : Int32) M
set_option maxHeartbeats 4000000 in
set_option maxRecDepth 100000 in
theorem jX7_joins_56 (G : Gx) (l : Launch)    (M : Mem) : J G l cX7_joins 3 RX7 (some .boolean) "joins" 4 101 (QM G (fun v : Int32 => some (.int v))) 56 [] [] M (fX7_joins_56   M) := by
  unfold fX7_joins_56
  refine J_iconst (v := 0) dX7_joins_56 (by decide) ?_
  refine J_sub [] rfl ?_
  exact jX7_joins_57 G l   _ _
def fX7_joins_21  (l0 : Nat) (l1 : Nat) (l2 : Nat) (s0 : Nat) (s1 : Nat) (M : Mem) : Option (Int32 × Mem) := (cV M 7 s1 (fX7_goUp s1 s0 M) fun _u2 M1 => (gR M1 7 13 l0 fun r3 => (gR M1 2 1 l1 fun r4 => (bd (fX8_sameHash r3 r4 M1) fun v6 M5 => (if v6 = 0 then fX7_joins_56   M5 else (gR M5 7 14 l0 fun r7 => (gR M5 2 1 l2 fun r8 => (bd (fX8_sameHash r7 r8 M5) fun v10 M9 => (if v10 = 0 then fX7_joins_56   M9 else fX7_joins_57  (1 : Int32) M9)))))))))
set_option maxHeartbeats 4000000 in
set_option maxRecDepth 100000 in
theorem jX7_joins_21 (G : Gx) (l : Launch)   (l0 : Nat) (l1 : Nat) (l2 : Nat) (s0 : Nat) (s1 : Nat) (M : Mem) : J G l cX7_joins 3 RX7 (some .boolean) "joins" 4 101 (QM G (fun v : Int32 => some (.int v))) 21 [(0, .ref (adr G l0)), (1, .ref (adr G l1)), (2, .ref (adr G l2))] [.ref (adr G s0), .ref (adr G s1)] M (fX7_joins_21  l0 l1 l2 s0 s1 M) := by
  unfold fX7_joins_21
  refine J_callVv (okX7_goUp G l _ _ _) mkX7_goUp _ _ rfl w_333 w_334 w_335 ⟨by decide, by decide⟩ rfl (Nat.le_of_ble_eq_true rfl) dX7_joins_21 (fun _u2 M1 => ?_)
  refine J_aload_n dX7_joins_24 0 rfl ?_
  refine J_getR fd_7_13 w_301 rfl dX7_joins_25 (fun r3 => ?_)
  refine J_aload_n dX7_joins_28 1 rfl ?_
  refine J_getR fd_2_1 w_336 rfl dX7_joins_29 (fun r4 => ?_)
  refine J_callSNi (host := "ChainBooks") (okX8_sameHash G l _ _ _) mkX8_sameHash (List.mem_of_getElem? (i := 20) rfl) w_338 ⟨by decide, by decide⟩ rfl (Nat.le_of_ble_eq_true rfl) dX7_joins_32 (fun v6 M5 => ?_)
  refine J_if_eq (tgt := 56) dX7_joins_35 (by decide) ?_ ?_
  · refine J_sub [] rfl ?_
    exact jX7_joins_56 G l    _
  · refine J_aload_n dX7_joins_38 0 rfl ?_
    refine J_getR fd_7_14 w_302 rfl dX7_joins_39 (fun r7 => ?_)
    refine J_aload_n dX7_joins_42 2 rfl ?_
    refine J_getR fd_2_1 w_336 rfl dX7_joins_43 (fun r8 => ?_)
    refine J_callSNi (host := "ChainBooks") (okX8_sameHash G l _ _ _) mkX8_sameHash (List.mem_of_getElem? (i := 20) rfl) w_338 ⟨by decide, by decide⟩ rfl (Nat.le_of_ble_eq_true rfl) dX7_joins_46 (fun v10 M9 => ?_)
    refine J_if_eq (tgt := 56) dX7_joins_49 (by decide) ?_ ?_
    · refine J_sub [] rfl ?_
      exact jX7_joins_56 G l    _
    · refine J_iconst (v := 1) dX7_joins_52 (by decide) ?_
      refine J_goto (tgt := 57) dX7_joins_53 (by decide) ?_
      refine J_sub [] rfl ?_
      exact jX7_joins_57 G l   _ _
def fX7_joins (l0 : Nat) (l1 : Nat) (l2 : Nat) (M : Mem) : Option (Int32 × Mem) := (cV M 7 l0 (fX7_hasOwnBeginning l0 M) fun v2 M1 => (if v2 = 0 then (gR M1 2 1 l1 fun r3 => fX7_joins_21  l0 l1 l2 r3 l0 M1) else (gR M1 7 0 l0 fun r4 => (rR M1 (.array .int) r4 (0 : Int32) fun r5 => fX7_joins_21  l0 l1 l2 r5 l0 M1))))
set_option maxHeartbeats 4000000 in
set_option maxRecDepth 100000 in
theorem jX7_joins (G : Gx) (l : Launch) (l0 : Nat) (l1 : Nat) (l2 : Nat) (M : Mem) : J G l cX7_joins 3 RX7 (some .boolean) "joins" 4 101 (QM G (fun v : Int32 => some (.int v))) 0 [(0, .ref (adr G l0)), (1, .ref (adr G l1)), (2, .ref (adr G l2))] [] M (fX7_joins l0 l1 l2 M) := by
  unfold fX7_joins
  refine J_aload_n dX7_joins_0 0 rfl ?_
  refine J_aload_n dX7_joins_1 0 rfl ?_
  refine J_callVi (okX7_hasOwnBeginning G l _ _) mkX7_hasOwnBeginning _ _ rfl w_325 w_326 w_327 ⟨by decide, by decide⟩ rfl (Nat.le_of_ble_eq_true rfl) dX7_joins_2 (fun v2 M1 => ?_)
  refine J_if_eq (tgt := 17) dX7_joins_5 (by decide) ?_ ?_
  · refine J_aload_n dX7_joins_17 1 rfl ?_
    refine J_getR fd_2_1 w_336 rfl dX7_joins_18 (fun r3 => ?_)
    refine J_sub [0, 1, 2] rfl ?_
    exact jX7_joins_21 G l   _ _ _ _ _ _
  · refine J_aload_n dX7_joins_8 0 rfl ?_
    refine J_getR fd_7_0 w_295 rfl dX7_joins_9 (fun r4 => ?_)
    refine J_iconst (v := 0) dX7_joins_12 (by decide) ?_
    refine J_aaldI dX7_joins_13 (fun r5 => ?_)
    refine J_goto (tgt := 21) dX7_joins_14 (by decide) ?_
    refine J_sub [0, 1, 2] rfl ?_
    exact jX7_joins_21 G l   _ _ _ _ _ _
theorem okX7_joins (G : Gx) (l : Launch) (l0 : Nat) (l1 : Nat) (l2 : Nat) (M : Mem) : Con G l yX7_joins cX7_joins 3 (some .boolean) 4 101 (fun v : Int32 => some (.int v)) [.ref (adr G l0), .ref (adr G l1), .ref (adr G l2)] M (fX7_joins l0 l1 l2 M) := con_of (own := RX7) (nm := "joins") (by decide +kernel) rfl rfl (Nat.le_of_ble_eq_true rfl) (jX7_joins G l l0 l1 l2 M)
theorem mkX7_joins : MOk yX7_joins cX7_joins 3 (some .boolean) 2 := ⟨w_340, tb1 (List.mem_of_getElem? (i := 8) rfl) rfl, by decide +kernel, by decide +kernel, by decide +kernel⟩
-- X8_init
def fX8_init_79  : Nat → Nat → Int32 → Mem → Option (Unit × Mem)
  | 0, _, _, _ => none
  | n + 1, l0, l1, M => (if (8 : Int32) ≤ l1 then (nwO M 7 15 fun c1 M2 => (bd (fX7_init c1 M2) fun _u4 M3 => (pR M3 8 5 l0 c1 fun M5 => (nwO M5 0 2 fun c6 M7 => (bd (fX0_init c6 M7) fun _u9 M8 => (pR M8 8 6 l0 c6 fun M10 => (nwA M10 .int (8 : Int32) fun c11 M12 => (pR M12 8 7 l0 c11 fun M13 => some ((), M13))))))))) else (gR M 8 4 l0 fun r14 => (nwO M 2 3 fun c15 M16 => (bd (fX2_init c15 M16) fun _u18 M17 => (wR M17 2 r14 l1 c15 fun M19 => fX8_init_79  n l0 (l1 + (1 : Int32)) M19)))))
set_option maxHeartbeats 4000000 in
set_option maxRecDepth 100000 in
theorem jX8_init_79 (G : Gx) (l : Launch)   : ∀ (n : Nat) (l0 : Nat) (l1 : Int32) (M : Mem), J G l cX8_init 2 RX8 none "<init>" 4 80 (QM G (fun _ : Unit => none)) 79 [(0, .ref (adr G l0)), (1, .int l1)] [] M (fX8_init_79  n l0 l1 M) := by
  intro n
  induction n with
  | zero => intro l0 l1 M; exact J_none
  | succ n ih =>
    intro l0 l1 M
    rw [fX8_init_79]
    refine J_iload_n dX8_init_79 1 rfl ?_
    refine J_bipush (v := 8) dX8_init_80 (by decide) ?_
    refine J_icmp_ge (tgt := 104) dX8_init_82 (by decide) ?_ ?_
    · refine J_aload_n dX8_init_104 0 rfl ?_
      refine J_new nw_7 w_341 dX8_init_105 ?_
      refine J_dup dX8_init_108 rfl ?_
      refine J_callINv (host := "ChainBooks") (okX7_init G l _ _) mkX7_init rfl (List.mem_of_getElem? (i := 7) rfl) w_342 ⟨by decide, by decide⟩ rfl (Nat.le_of_ble_eq_true rfl) dX8_init_109 (fun _u4 M3 => ?_)
      refine J_putRF fd_8_5 w_343 (Or.inr ⟨_, rfl⟩) dX8_init_112 ?_
      refine J_aload_n dX8_init_115 0 rfl ?_
      refine J_new nw_0 w_344 dX8_init_116 ?_
      refine J_dup dX8_init_119 rfl ?_
      refine J_callINv (host := "ChainBooks") (okX0_init G l _ _) mkX0_init rfl (List.mem_of_getElem? (i := 9) rfl) w_345 ⟨by decide, by decide⟩ rfl (Nat.le_of_ble_eq_true rfl) dX8_init_120 (fun _u9 M8 => ?_)
      refine J_putRF fd_8_6 w_346 (Or.inr ⟨_, rfl⟩) dX8_init_123 ?_
      refine J_aload_n dX8_init_126 0 rfl ?_
      refine J_bipush (v := 8) dX8_init_127 (by decide) ?_
      refine J_newa (ty := .int) (t0 := 0) rfl (fun _ _ _ _ => rfl) (fun _ _ h => h) nz_int (by decide) w_12 dX8_init_129 ?_
      refine J_putRF fd_8_7 w_347 (Or.inl ⟨_, rfl⟩) dX8_init_131 ?_
      exact J_vret dX8_init_134
    · refine J_aload_n dX8_init_85 0 rfl ?_
      refine J_getR fd_8_4 w_348 rfl dX8_init_86 (fun r14 => ?_)
      refine J_iload_n dX8_init_89 1 rfl ?_
      refine J_new nw_2 w_349 dX8_init_90 ?_
      refine J_dup dX8_init_93 rfl ?_
      refine J_callINv (host := "ChainBooks") (okX2_init G l _ _) mkX2_init rfl (List.mem_of_getElem? (i := 6) rfl) w_350 ⟨by decide, by decide⟩ rfl (Nat.le_of_ble_eq_true rfl) dX8_init_94 (fun _u18 M17 => ?_)
      refine J_aast _ _ rfl dX8_init_97 ?_
      refine J_iincK (z := 1) (lv' := [(1, .int _), (0, .ref _)]) dX8_init_98 1 rfl (by decide) (by decide) rfl ?_
      refine J_goto (tgt := 79) dX8_init_101 (by decide) ?_
      refine J_sub [1, 0] rfl ?_
      exact ih _ _ _
def fX8_init_37  : Nat → Nat → Int32 → Mem → Option (Unit × Mem)
  | 0, _, _, _ => none
  | n + 1, l0, l1, M => (if (200 : Int32) < l1 then (nwO M 5 8 fun c1 M2 => (bd (fX5_init c1 M2) fun _u4 M3 => (pR M3 8 3 l0 c1 fun M5 => (nwA M5 (.object "ChainBooks$Head") (8 : Int32) fun c6 M7 => (pR M7 8 4 l0 c6 fun M8 => fX8_init_79  FU l0 (0 : Int32) M8))))) else (gR M 8 2 l0 fun r9 => (wI M .int r9 l1 (-1 : Int32) fun M10 => fX8_init_37  n l0 (l1 + (1 : Int32)) M10)))
set_option maxHeartbeats 4000000 in
set_option maxRecDepth 100000 in
theorem jX8_init_37 (G : Gx) (l : Launch)   : ∀ (n : Nat) (l0 : Nat) (l1 : Int32) (M : Mem), J G l cX8_init 2 RX8 none "<init>" 4 80 (QM G (fun _ : Unit => none)) 37 [(0, .ref (adr G l0)), (1, .int l1)] [] M (fX8_init_37  n l0 l1 M) := by
  intro n
  induction n with
  | zero => intro l0 l1 M; exact J_none
  | succ n ih =>
    intro l0 l1 M
    rw [fX8_init_37]
    refine J_iload_n dX8_init_37 1 rfl ?_
    refine J_sipush (v := 200) dX8_init_38 (by decide) ?_
    refine J_icmp_gt (tgt := 57) dX8_init_41 (by decide) ?_ ?_
    · refine J_aload_n dX8_init_57 0 rfl ?_
      refine J_new nw_5 w_351 dX8_init_58 ?_
      refine J_dup dX8_init_61 rfl ?_
      refine J_callINv (host := "ChainBooks") (okX5_init G l _ _) mkX5_init rfl (List.mem_of_getElem? (i := 4) rfl) w_352 ⟨by decide, by decide⟩ rfl (Nat.le_of_ble_eq_true rfl) dX8_init_62 (fun _u4 M3 => ?_)
      refine J_putRF fd_8_3 w_353 (Or.inr ⟨_, rfl⟩) dX8_init_65 ?_
      refine J_aload_n dX8_init_68 0 rfl ?_
      refine J_bipush (v := 8) dX8_init_69 (by decide) ?_
      refine J_anew w_349 dX8_init_71 ?_
      refine J_putRF fd_8_4 w_348 (Or.inl ⟨_, rfl⟩) dX8_init_74 ?_
      refine J_iconst (v := 0) dX8_init_77 (by decide) ?_
      refine J_istore_n (lv' := [(1, .int _), (0, .ref _)]) dX8_init_78 (by decide) rfl ?_
      refine J_sub [1, 0] rfl ?_
      exact jX8_init_79 G l   FU _ _ _
    · refine J_aload_n dX8_init_44 0 rfl ?_
      refine J_getR fd_8_2 w_354 rfl dX8_init_45 (fun r9 => ?_)
      refine J_iload_n dX8_init_48 1 rfl ?_
      refine J_iconst (v := -1) dX8_init_49 (by decide) ?_
      refine J_iast dX8_init_50 ?_
      refine J_iincK (z := 1) (lv' := [(1, .int _), (0, .ref _)]) dX8_init_51 1 rfl (by decide) (by decide) rfl ?_
      refine J_goto (tgt := 37) dX8_init_54 (by decide) ?_
      refine J_sub [1, 0] rfl ?_
      exact ih _ _ _
def fX8_init (l0 : Nat) (M : Mem) : Option (Unit × Mem) := (nwO M 3 18 fun c1 M2 => (bd (fX3_init c1 M2) fun _u4 M3 => (pR M3 8 0 l0 c1 fun M5 => (nwO M5 4 3 fun c6 M7 => (bd (fX4_init c6 M7) fun _u9 M8 => (pR M8 8 1 l0 c6 fun M10 => (nwA M10 .int (201 : Int32) fun c11 M12 => (pR M12 8 2 l0 c11 fun M13 => fX8_init_37  FU l0 (0 : Int32) M13))))))))
set_option maxHeartbeats 4000000 in
set_option maxRecDepth 100000 in
theorem jX8_init (G : Gx) (l : Launch) (l0 : Nat) (M : Mem) : J G l cX8_init 2 RX8 none "<init>" 4 80 (QM G (fun _ : Unit => none)) 0 [(0, .ref (adr G l0))] [] M (fX8_init l0 M) := by
  unfold fX8_init
  refine J_aload_n dX8_init_0 0 rfl ?_
  refine J_objInit w_355 w_1 w_2 ⟨by decide, by decide⟩ (Nat.le_of_ble_eq_true rfl) dX8_init_1 ?_
  refine J_aload_n dX8_init_4 0 rfl ?_
  refine J_new nw_3 w_356 dX8_init_5 ?_
  refine J_dup dX8_init_8 rfl ?_
  refine J_callINv (host := "ChainBooks") (okX3_init G l _ _) mkX3_init rfl (List.mem_of_getElem? (i := 0) rfl) w_33 ⟨by decide, by decide⟩ rfl (Nat.le_of_ble_eq_true rfl) dX8_init_9 (fun _u4 M3 => ?_)
  refine J_putRF fd_8_0 w_357 (Or.inr ⟨_, rfl⟩) dX8_init_12 ?_
  refine J_aload_n dX8_init_15 0 rfl ?_
  refine J_new nw_4 w_358 dX8_init_16 ?_
  refine J_dup dX8_init_19 rfl ?_
  refine J_callINv (host := "ChainBooks") (okX4_init G l _ _) mkX4_init rfl (List.mem_of_getElem? (i := 3) rfl) w_30 ⟨by decide, by decide⟩ rfl (Nat.le_of_ble_eq_true rfl) dX8_init_20 (fun _u9 M8 => ?_)
  refine J_putRF fd_8_1 w_359 (Or.inr ⟨_, rfl⟩) dX8_init_23 ?_
  refine J_aload_n dX8_init_26 0 rfl ?_
  refine J_sipush (v := 201) dX8_init_27 (by decide) ?_
  refine J_newa (ty := .int) (t0 := 0) rfl (fun _ _ _ _ => rfl) (fun _ _ h => h) nz_int (by decide) w_12 dX8_init_30 ?_
  refine J_putRF fd_8_2 w_354 (Or.inl ⟨_, rfl⟩) dX8_init_32 ?_
  refine J_iconst (v := 0) dX8_init_35 (by decide) ?_
  refine J_istore_n (lv' := [(1, .int _), (0, .ref _)]) dX8_init_36 (by decide) rfl ?_
  refine J_sub [1, 0] rfl ?_
  exact jX8_init_37 G l   FU _ _ _
theorem okX8_init (G : Gx) (l : Launch) (l0 : Nat) (M : Mem) : Con G l yX8_init cX8_init 2 none 4 80 (fun _ : Unit => none) [.ref (adr G l0)] M (fX8_init l0 M) := con_of (own := RX8) (nm := "<init>") (by decide +kernel) rfl rfl (Nat.le_of_ble_eq_true rfl) (jX8_init G l l0 M)
theorem mkX8_init : MOk yX8_init cX8_init 2 none 0 := ⟨w_360, tb1 (List.mem_of_getElem? (i := 1) rfl) rfl, by decide +kernel, by decide +kernel, by decide +kernel⟩
-- X8_written
def fX8_written (l0 : Nat) (l1 : Int32) (M : Mem) : Option (Int32 × Mem) := (gR M 8 3 l0 fun r1 => (gR M 8 0 l0 fun r2 => (cV M 5 r1 (fX5_follow r1 r2 M) fun _u4 M3 => some (l1, M3))))
set_option maxHeartbeats 4000000 in
set_option maxRecDepth 100000 in
theorem jX8_written (G : Gx) (l : Launch) (l0 : Nat) (l1 : Int32) (M : Mem) : J G l cX8_written 2 RX8 (some .int) "written" 2 43 (QM G (fun v : Int32 => some (.int v))) 0 [(0, .ref (adr G l0)), (1, .int l1)] [] M (fX8_written l0 l1 M) := by
  unfold fX8_written
  refine J_aload_n dX8_written_0 0 rfl ?_
  refine J_getR fd_8_3 w_353 rfl dX8_written_1 (fun r1 => ?_)
  refine J_aload_n dX8_written_4 0 rfl ?_
  refine J_getR fd_8_0 w_357 rfl dX8_written_5 (fun r2 => ?_)
  refine J_callVv (okX5_follow G l _ _ _) mkX5_follow _ _ rfl w_362 w_363 w_364 ⟨by decide, by decide⟩ rfl (Nat.le_of_ble_eq_true rfl) dX8_written_8 (fun _u4 M3 => ?_)
  refine J_iload_n dX8_written_11 1 rfl ?_
  exact J_iret dX8_written_12
theorem okX8_written (G : Gx) (l : Launch) (l0 : Nat) (l1 : Int32) (M : Mem) : Con G l yX8_written cX8_written 2 (some .int) 2 43 (fun v : Int32 => some (.int v)) [.ref (adr G l0), .int l1] M (fX8_written l0 l1 M) := con_of (own := RX8) (nm := "written") (by decide +kernel) rfl rfl (Nat.le_of_ble_eq_true rfl) (jX8_written G l l0 l1 M)
theorem mkX8_written : MOk yX8_written cX8_written 2 (some .int) 1 := ⟨w_365, tb1 (List.mem_of_getElem? (i := 1) rfl) rfl, by decide +kernel, by decide +kernel, by decide +kernel⟩
-- X8_open
def fX8_open (l0 : Nat) (l1 : Int64) (M : Mem) : Option (Int32 × Mem) := (gR M 8 0 l0 fun r1 => (cV M 3 r1 (fX3_addAccount r1 l1 M) fun v3 M2 => (cV M2 8 l0 (fX8_written l0 v3 M2) fun v5 M4 => some (v5, M4))))
set_option maxHeartbeats 4000000 in
set_option maxRecDepth 100000 in
theorem jX8_open (G : Gx) (l : Launch) (l0 : Nat) (l1 : Int64) (M : Mem) : J G l cX8_open 3 RX8 (some .int) "open" 3 68 (QM G (fun v : Int32 => some (.int v))) 0 [(0, .ref (adr G l0)), (1, .long l1)] [] M (fX8_open l0 l1 M) := by
  unfold fX8_open
  refine J_aload_n dX8_open_0 0 rfl ?_
  refine J_aload_n dX8_open_1 0 rfl ?_
  refine J_getR fd_8_0 w_357 rfl dX8_open_2 (fun r1 => ?_)
  refine J_lload_n dX8_open_5 1 rfl ?_
  refine J_callVi (okX3_addAccount G l _ _ _) mkX3_addAccount _ _ rfl w_361 w_82 w_83 ⟨by decide, by decide⟩ rfl (Nat.le_of_ble_eq_true rfl) dX8_open_6 (fun v3 M2 => ?_)
  refine J_callVi (okX8_written G l _ _ _) mkX8_written _ _ rfl w_366 w_367 w_368 ⟨by decide, by decide⟩ rfl (Nat.le_of_ble_eq_true rfl) dX8_open_9 (fun v5 M4 => ?_)
  exact J_iret dX8_open_12
theorem okX8_open (G : Gx) (l : Launch) (l0 : Nat) (l1 : Int64) (M : Mem) : Con G l yX8_open cX8_open 3 (some .int) 3 68 (fun v : Int32 => some (.int v)) [.ref (adr G l0), .long l1] M (fX8_open l0 l1 M) := con_of (own := RX8) (nm := "open") (by decide +kernel) rfl rfl (Nat.le_of_ble_eq_true rfl) (jX8_open G l l0 l1 M)
theorem mkX8_open : MOk yX8_open cX8_open 3 (some .int) 1 := ⟨w_369, tb1 (List.mem_of_getElem? (i := 1) rfl) rfl, by decide +kernel, by decide +kernel, by decide +kernel⟩
-- X8_leg
def fX8_leg_23  (s0 : Int32) (M : Mem) : Option (Int32 × Mem) := some (s0, M)
set_option maxHeartbeats 4000000 in
set_option maxRecDepth 100000 in
theorem jX8_leg_23 (G : Gx) (l : Launch)   (s0 : Int32) (M : Mem) : J G l cX8_leg 4 RX8 (some .int) "leg" 2 43 (QM G (fun v : Int32 => some (.int v))) 23 [] [.int s0] M (fX8_leg_23  s0 M) := by
  unfold fX8_leg_23
  exact J_iret dX8_leg_23
def fX8_leg (l0 : Nat) (l1 : Int32) (l2 : Int64) (M : Mem) : Option (Int32 × Mem) := (gR M 8 1 l0 fun r1 => (cV M 4 r1 (fX4_add r1 l1 l2 M) fun v3 M2 => (if v3 = 0 then fX8_leg_23  (-1 : Int32) M2 else (gR M2 8 1 l0 fun r4 => (gI M2 4 2 r4 fun v5 => fX8_leg_23  v5 M2)))))
set_option maxHeartbeats 4000000 in
set_option maxRecDepth 100000 in
theorem jX8_leg (G : Gx) (l : Launch) (l0 : Nat) (l1 : Int32) (l2 : Int64) (M : Mem) : J G l cX8_leg 4 RX8 (some .int) "leg" 2 43 (QM G (fun v : Int32 => some (.int v))) 0 [(0, .ref (adr G l0)), (1, .int l1), (2, .long l2)] [] M (fX8_leg l0 l1 l2 M) := by
  unfold fX8_leg
  refine J_aload_n dX8_leg_0 0 rfl ?_
  refine J_getR fd_8_1 w_359 rfl dX8_leg_1 (fun r1 => ?_)
  refine J_iload_n dX8_leg_4 1 rfl ?_
  refine J_lload_n dX8_leg_5 2 rfl ?_
  refine J_callVi (okX4_add G l _ _ _ _) mkX4_add _ _ rfl w_370 w_90 w_91 ⟨by decide, by decide⟩ rfl (Nat.le_of_ble_eq_true rfl) dX8_leg_6 (fun v3 M2 => ?_)
  refine J_if_eq (tgt := 22) dX8_leg_9 (by decide) ?_ ?_
  · refine J_iconst (v := -1) dX8_leg_22 (by decide) ?_
    refine J_sub [] rfl ?_
    exact jX8_leg_23 G l   _ _
  · refine J_aload_n dX8_leg_12 0 rfl ?_
    refine J_getR fd_8_1 w_359 rfl dX8_leg_13 (fun r4 => ?_)
    refine J_getI fd_4_2 w_371 rfl dX8_leg_16 ?_
    refine J_goto (tgt := 23) dX8_leg_19 (by decide) ?_
    refine J_sub [] rfl ?_
    exact jX8_leg_23 G l   _ _
theorem okX8_leg (G : Gx) (l : Launch) (l0 : Nat) (l1 : Int32) (l2 : Int64) (M : Mem) : Con G l yX8_leg cX8_leg 4 (some .int) 2 43 (fun v : Int32 => some (.int v)) [.ref (adr G l0), .int l1, .long l2] M (fX8_leg l0 l1 l2 M) := con_of (own := RX8) (nm := "leg") (by decide +kernel) rfl rfl (Nat.le_of_ble_eq_true rfl) (jX8_leg G l l0 l1 l2 M)
theorem mkX8_leg : MOk yX8_leg cX8_leg 4 (some .int) 2 := ⟨w_372, tb1 (List.mem_of_getElem? (i := 1) rfl) rfl, by decide +kernel, by decide +kernel, by decide +kernel⟩
-- X8_clear
def fX8_clear (l0 : Nat) (M : Mem) : Option (Int32 × Mem) := (gR M 8 1 l0 fun r1 => (gI M 4 2 r1 fun v2 => (gR M 8 1 l0 fun r3 => (pI M 4 2 r3 (0 : Int32) fun M4 => some (v2, M4)))))
set_option maxHeartbeats 4000000 in
set_option maxRecDepth 100000 in
theorem jX8_clear (G : Gx) (l : Launch) (l0 : Nat) (M : Mem) : J G l cX8_clear 2 RX8 (some .int) "clear" 0 0 (QM G (fun v : Int32 => some (.int v))) 0 [(0, .ref (adr G l0))] [] M (fX8_clear l0 M) := by
  unfold fX8_clear
  refine J_aload_n dX8_clear_0 0 rfl ?_
  refine J_getR fd_8_1 w_359 rfl dX8_clear_1 (fun r1 => ?_)
  refine J_getI fd_4_2 w_371 rfl dX8_clear_4 ?_
  refine J_istore_n (lv' := [(1, .int _), (0, .ref _)]) dX8_clear_7 (by decide) rfl ?_
  refine J_aload_n dX8_clear_8 1 rfl ?_
  refine J_getR fd_8_1 w_359 rfl dX8_clear_9 (fun r3 => ?_)
  refine J_iconst (v := 0) dX8_clear_12 (by decide) ?_
  refine J_putI fd_4_2 w_371 dX8_clear_13 ?_
  refine J_iload_n dX8_clear_16 0 rfl ?_
  exact J_iret dX8_clear_17
theorem okX8_clear (G : Gx) (l : Launch) (l0 : Nat) (M : Mem) : Con G l yX8_clear cX8_clear 2 (some .int) 0 0 (fun v : Int32 => some (.int v)) [.ref (adr G l0)] M (fX8_clear l0 M) := con_of (own := RX8) (nm := "clear") (by decide +kernel) rfl rfl (Nat.le_of_ble_eq_true rfl) (jX8_clear G l l0 M)
theorem mkX8_clear : MOk yX8_clear cX8_clear 2 (some .int) 0 := ⟨w_373, tb1 (List.mem_of_getElem? (i := 1) rfl) rfl, by decide +kernel, by decide +kernel, by decide +kernel⟩
-- X8_post
def fX8_post_25  (l0 : Nat) (l3 : Int32) (M : Mem) : Option (Int32 × Mem) := (cV M 8 l0 (fX8_written l0 l3 M) fun v2 M1 => some (v2, M1))
set_option maxHeartbeats 4000000 in
set_option maxRecDepth 100000 in
theorem jX8_post_25 (G : Gx) (l : Launch)   (l0 : Nat) (l3 : Int32) (M : Mem) : J G l cX8_post 4 RX8 (some .int) "post" 5 120 (QM G (fun v : Int32 => some (.int v))) 25 [(0, .ref (adr G l0)), (3, .int l3)] [] M (fX8_post_25  l0 l3 M) := by
  unfold fX8_post_25
  refine J_aload_n dX8_post_25 0 rfl ?_
  refine J_iload_n dX8_post_26 1 rfl ?_
  refine J_callVi (okX8_written G l _ _ _) mkX8_written _ _ rfl w_366 w_367 w_368 ⟨by decide, by decide⟩ rfl (Nat.le_of_ble_eq_true rfl) dX8_post_27 (fun v2 M1 => ?_)
  exact J_iret dX8_post_30
def fX8_post (l0 : Nat) (l1 : Int64) (M : Mem) : Option (Int32 × Mem) := (gR M 8 0 l0 fun r1 => (gR M 8 1 l0 fun r2 => (cV M 3 r1 (fX3_addPost r1 l1 r2 M) fun v4 M3 => (if v4 < 0 then fX8_post_25  l0 v4 M3 else (gR M3 8 1 l0 fun r5 => (pI M3 4 2 r5 (0 : Int32) fun M6 => fX8_post_25  l0 v4 M6))))))
set_option maxHeartbeats 4000000 in
set_option maxRecDepth 100000 in
theorem jX8_post (G : Gx) (l : Launch) (l0 : Nat) (l1 : Int64) (M : Mem) : J G l cX8_post 4 RX8 (some .int) "post" 5 120 (QM G (fun v : Int32 => some (.int v))) 0 [(0, .ref (adr G l0)), (1, .long l1)] [] M (fX8_post l0 l1 M) := by
  unfold fX8_post
  refine J_aload_n dX8_post_0 0 rfl ?_
  refine J_getR fd_8_0 w_357 rfl dX8_post_1 (fun r1 => ?_)
  refine J_lload_n dX8_post_4 1 rfl ?_
  refine J_aload_n dX8_post_5 0 rfl ?_
  refine J_getR fd_8_1 w_359 rfl dX8_post_6 (fun r2 => ?_)
  refine J_callVi (okX3_addPost G l _ _ _ _) mkX3_addPost _ _ rfl w_374 w_141 w_142 ⟨by decide, by decide⟩ rfl (Nat.le_of_ble_eq_true rfl) dX8_post_9 (fun v4 M3 => ?_)
  refine J_istore_n (lv' := [(3, .int _), (0, .ref _), (1, .long _)]) dX8_post_12 (by decide) rfl ?_
  refine J_iload_n dX8_post_13 0 rfl ?_
  refine J_if_lt (tgt := 25) dX8_post_14 (by decide) ?_ ?_
  · refine J_sub [1, 0] rfl ?_
    exact jX8_post_25 G l   _ _ _
  · refine J_aload_n dX8_post_17 1 rfl ?_
    refine J_getR fd_8_1 w_359 rfl dX8_post_18 (fun r5 => ?_)
    refine J_iconst (v := 0) dX8_post_21 (by decide) ?_
    refine J_putI fd_4_2 w_371 dX8_post_22 ?_
    refine J_sub [1, 0] rfl ?_
    exact jX8_post_25 G l   _ _ _
theorem okX8_post (G : Gx) (l : Launch) (l0 : Nat) (l1 : Int64) (M : Mem) : Con G l yX8_post cX8_post 4 (some .int) 5 120 (fun v : Int32 => some (.int v)) [.ref (adr G l0), .long l1] M (fX8_post l0 l1 M) := con_of (own := RX8) (nm := "post") (by decide +kernel) rfl rfl (Nat.le_of_ble_eq_true rfl) (jX8_post G l l0 l1 M)
theorem mkX8_post : MOk yX8_post cX8_post 4 (some .int) 1 := ⟨w_375, tb1 (List.mem_of_getElem? (i := 1) rfl) rfl, by decide +kernel, by decide +kernel, by decide +kernel⟩
-- X8_hold
def fX8_hold (l0 : Nat) (l1 : Int64) (l3 : Int32) (l4 : Int64) (M : Mem) : Option (Int32 × Mem) := (gR M 8 0 l0 fun r1 => (cV M 3 r1 (fX3_addHold r1 l1 l3 l4 M) fun v3 M2 => (cV M2 8 l0 (fX8_written l0 v3 M2) fun v5 M4 => some (v5, M4))))
set_option maxHeartbeats 4000000 in
set_option maxRecDepth 100000 in
theorem jX8_hold (G : Gx) (l : Launch) (l0 : Nat) (l1 : Int64) (l3 : Int32) (l4 : Int64) (M : Mem) : J G l cX8_hold 6 RX8 (some .int) "hold" 4 94 (QM G (fun v : Int32 => some (.int v))) 0 [(0, .ref (adr G l0)), (1, .long l1), (3, .int l3), (4, .long l4)] [] M (fX8_hold l0 l1 l3 l4 M) := by
  unfold fX8_hold
  refine J_aload_n dX8_hold_0 0 rfl ?_
  refine J_aload_n dX8_hold_1 0 rfl ?_
  refine J_getR fd_8_0 w_357 rfl dX8_hold_2 (fun r1 => ?_)
  refine J_lload_n dX8_hold_5 1 rfl ?_
  refine J_iload_n dX8_hold_6 2 rfl ?_
  refine J_lload dX8_hold_7 3 rfl ?_
  refine J_callVi (okX3_addHold G l _ _ _ _ _) mkX3_addHold _ _ rfl w_376 w_146 w_147 ⟨by decide, by decide⟩ rfl (Nat.le_of_ble_eq_true rfl) dX8_hold_9 (fun v3 M2 => ?_)
  refine J_callVi (okX8_written G l _ _ _) mkX8_written _ _ rfl w_366 w_367 w_368 ⟨by decide, by decide⟩ rfl (Nat.le_of_ble_eq_true rfl) dX8_hold_12 (fun v5 M4 => ?_)
  exact J_iret dX8_hold_15
theorem okX8_hold (G : Gx) (l : Launch) (l0 : Nat) (l1 : Int64) (l3 : Int32) (l4 : Int64) (M : Mem) : Con G l yX8_hold cX8_hold 6 (some .int) 4 94 (fun v : Int32 => some (.int v)) [.ref (adr G l0), .long l1, .int l3, .long l4] M (fX8_hold l0 l1 l3 l4 M) := con_of (own := RX8) (nm := "hold") (by decide +kernel) rfl rfl (Nat.le_of_ble_eq_true rfl) (jX8_hold G l l0 l1 l3 l4 M)
theorem mkX8_hold : MOk yX8_hold cX8_hold 6 (some .int) 3 := ⟨w_377, tb1 (List.mem_of_getElem? (i := 1) rfl) rfl, by decide +kernel, by decide +kernel, by decide +kernel⟩
-- X8_release
def fX8_release (l0 : Nat) (l1 : Int32) (M : Mem) : Option (Int32 × Mem) := (gR M 8 0 l0 fun r1 => (cV M 3 r1 (fX3_addRelease r1 l1 M) fun v3 M2 => (cV M2 8 l0 (fX8_written l0 v3 M2) fun v5 M4 => some (v5, M4))))
set_option maxHeartbeats 4000000 in
set_option maxRecDepth 100000 in
theorem jX8_release (G : Gx) (l : Launch) (l0 : Nat) (l1 : Int32) (M : Mem) : J G l cX8_release 2 RX8 (some .int) "release" 3 67 (QM G (fun v : Int32 => some (.int v))) 0 [(0, .ref (adr G l0)), (1, .int l1)] [] M (fX8_release l0 l1 M) := by
  unfold fX8_release
  refine J_aload_n dX8_release_0 0 rfl ?_
  refine J_aload_n dX8_release_1 0 rfl ?_
  refine J_getR fd_8_0 w_357 rfl dX8_release_2 (fun r1 => ?_)
  refine J_iload_n dX8_release_5 1 rfl ?_
  refine J_callVi (okX3_addRelease G l _ _ _) mkX3_addRelease _ _ rfl w_378 w_172 w_173 ⟨by decide, by decide⟩ rfl (Nat.le_of_ble_eq_true rfl) dX8_release_6 (fun v3 M2 => ?_)
  refine J_callVi (okX8_written G l _ _ _) mkX8_written _ _ rfl w_366 w_367 w_368 ⟨by decide, by decide⟩ rfl (Nat.le_of_ble_eq_true rfl) dX8_release_9 (fun v5 M4 => ?_)
  exact J_iret dX8_release_12
theorem okX8_release (G : Gx) (l : Launch) (l0 : Nat) (l1 : Int32) (M : Mem) : Con G l yX8_release cX8_release 2 (some .int) 3 67 (fun v : Int32 => some (.int v)) [.ref (adr G l0), .int l1] M (fX8_release l0 l1 M) := con_of (own := RX8) (nm := "release") (by decide +kernel) rfl rfl (Nat.le_of_ble_eq_true rfl) (jX8_release G l l0 l1 M)
theorem mkX8_release : MOk yX8_release cX8_release 2 (some .int) 1 := ⟨w_379, tb1 (List.mem_of_getElem? (i := 1) rfl) rfl, by decide +kernel, by decide +kernel, by decide +kernel⟩
-- X8_capture
def fX8_capture (l0 : Nat) (l1 : Int64) (l3 : Int32) (l4 : Int32) (l5 : Int64) (M : Mem) : Option (Int32 × Mem) := (gR M 8 0 l0 fun r1 => (cV M 3 r1 (fX3_addCapture r1 l1 l3 l4 l5 M) fun v3 M2 => (cV M2 8 l0 (fX8_written l0 v3 M2) fun v5 M4 => some (v5, M4))))
set_option maxHeartbeats 4000000 in
set_option maxRecDepth 100000 in
theorem jX8_capture (G : Gx) (l : Launch) (l0 : Nat) (l1 : Int64) (l3 : Int32) (l4 : Int32) (l5 : Int64) (M : Mem) : J G l cX8_capture 7 RX8 (some .int) "capture" 5 123 (QM G (fun v : Int32 => some (.int v))) 0 [(0, .ref (adr G l0)), (1, .long l1), (3, .int l3), (4, .int l4), (5, .long l5)] [] M (fX8_capture l0 l1 l3 l4 l5 M) := by
  unfold fX8_capture
  refine J_aload_n dX8_capture_0 0 rfl ?_
  refine J_aload_n dX8_capture_1 0 rfl ?_
  refine J_getR fd_8_0 w_357 rfl dX8_capture_2 (fun r1 => ?_)
  refine J_lload_n dX8_capture_5 1 rfl ?_
  refine J_iload_n dX8_capture_6 2 rfl ?_
  refine J_iload dX8_capture_7 3 rfl ?_
  refine J_lload dX8_capture_9 4 rfl ?_
  refine J_callVi (okX3_addCapture G l _ _ _ _ _ _) mkX3_addCapture _ _ rfl w_380 w_177 w_178 ⟨by decide, by decide⟩ rfl (Nat.le_of_ble_eq_true rfl) dX8_capture_11 (fun v3 M2 => ?_)
  refine J_callVi (okX8_written G l _ _ _) mkX8_written _ _ rfl w_366 w_367 w_368 ⟨by decide, by decide⟩ rfl (Nat.le_of_ble_eq_true rfl) dX8_capture_14 (fun v5 M4 => ?_)
  exact J_iret dX8_capture_17
theorem okX8_capture (G : Gx) (l : Launch) (l0 : Nat) (l1 : Int64) (l3 : Int32) (l4 : Int32) (l5 : Int64) (M : Mem) : Con G l yX8_capture cX8_capture 7 (some .int) 5 123 (fun v : Int32 => some (.int v)) [.ref (adr G l0), .long l1, .int l3, .int l4, .long l5] M (fX8_capture l0 l1 l3 l4 l5 M) := con_of (own := RX8) (nm := "capture") (by decide +kernel) rfl rfl (Nat.le_of_ble_eq_true rfl) (jX8_capture G l l0 l1 l3 l4 l5 M)
theorem mkX8_capture : MOk yX8_capture cX8_capture 7 (some .int) 4 := ⟨w_381, tb1 (List.mem_of_getElem? (i := 1) rfl) rfl, by decide +kernel, by decide +kernel, by decide +kernel⟩
-- X8_reverse
def fX8_reverse (l0 : Nat) (l1 : Int64) (l3 : Int32) (M : Mem) : Option (Int32 × Mem) := (gR M 8 0 l0 fun r1 => (cV M 3 r1 (fX3_addReversal r1 l1 l3 M) fun v3 M2 => (cV M2 8 l0 (fX8_written l0 v3 M2) fun v5 M4 => some (v5, M4))))
set_option maxHeartbeats 4000000 in
set_option maxRecDepth 100000 in
theorem jX8_reverse (G : Gx) (l : Launch) (l0 : Nat) (l1 : Int64) (l3 : Int32) (M : Mem) : J G l cX8_reverse 4 RX8 (some .int) "reverse" 5 120 (QM G (fun v : Int32 => some (.int v))) 0 [(0, .ref (adr G l0)), (1, .long l1), (3, .int l3)] [] M (fX8_reverse l0 l1 l3 M) := by
  unfold fX8_reverse
  refine J_aload_n dX8_reverse_0 0 rfl ?_
  refine J_aload_n dX8_reverse_1 0 rfl ?_
  refine J_getR fd_8_0 w_357 rfl dX8_reverse_2 (fun r1 => ?_)
  refine J_lload_n dX8_reverse_5 1 rfl ?_
  refine J_iload_n dX8_reverse_6 2 rfl ?_
  refine J_callVi (okX3_addReversal G l _ _ _ _) mkX3_addReversal _ _ rfl w_382 w_181 w_182 ⟨by decide, by decide⟩ rfl (Nat.le_of_ble_eq_true rfl) dX8_reverse_7 (fun v3 M2 => ?_)
  refine J_callVi (okX8_written G l _ _ _) mkX8_written _ _ rfl w_366 w_367 w_368 ⟨by decide, by decide⟩ rfl (Nat.le_of_ble_eq_true rfl) dX8_reverse_10 (fun v5 M4 => ?_)
  exact J_iret dX8_reverse_13
theorem okX8_reverse (G : Gx) (l : Launch) (l0 : Nat) (l1 : Int64) (l3 : Int32) (M : Mem) : Con G l yX8_reverse cX8_reverse 4 (some .int) 5 120 (fun v : Int32 => some (.int v)) [.ref (adr G l0), .long l1, .int l3] M (fX8_reverse l0 l1 l3 M) := con_of (own := RX8) (nm := "reverse") (by decide +kernel) rfl rfl (Nat.le_of_ble_eq_true rfl) (jX8_reverse G l l0 l1 l3 M)
theorem mkX8_reverse : MOk yX8_reverse cX8_reverse 4 (some .int) 2 := ⟨w_383, tb1 (List.mem_of_getElem? (i := 1) rfl) rfl, by decide +kernel, by decide +kernel, by decide +kernel⟩
-- X8_every
def fX8_every_10   (M : Mem) : Option (Int32 × Mem) := some ((-1 : Int32), M)
set_option maxHeartbeats 4000000 in
set_option maxRecDepth 100000 in
theorem jX8_every_10 (G : Gx) (l : Launch)    (M : Mem) : J G l cX8_every 3 RX8 (some .int) "every" 1 21 (QM G (fun v : Int32 => some (.int v))) 10 [] [] M (fX8_every_10   M) := by
  unfold fX8_every_10
  refine J_iconst (v := -1) dX8_every_10 (by decide) ?_
  exact J_iret dX8_every_11
def fX8_every (l0 : Nat) (l1 : Int32) (M : Mem) : Option (Int32 × Mem) := (if l1 < 0 then fX8_every_10   M else (if l1 ≤ (50 : Int32) then (gR M 8 0 l0 fun r1 => (gI M 3 16 r1 fun v2 => (gR M 8 0 l0 fun r3 => (cV M 3 r3 (fX3_startEvery r3 l1 M) fun _u5 M4 => (gR M4 8 2 l0 fun r6 => (gR M4 8 0 l0 fun r7 => (gI M4 3 12 r7 fun v8 => (wI M4 .int r6 v8 l1 fun M9 => some (v2, M9))))))))) else fX8_every_10   M))
set_option maxHeartbeats 4000000 in
set_option maxRecDepth 100000 in
theorem jX8_every (G : Gx) (l : Launch) (l0 : Nat) (l1 : Int32) (M : Mem) : J G l cX8_every 3 RX8 (some .int) "every" 1 21 (QM G (fun v : Int32 => some (.int v))) 0 [(0, .ref (adr G l0)), (1, .int l1)] [] M (fX8_every l0 l1 M) := by
  unfold fX8_every
  refine J_iload_n dX8_every_0 1 rfl ?_
  refine J_if_lt (tgt := 10) dX8_every_1 (by decide) ?_ ?_
  · refine J_sub [] rfl ?_
    exact jX8_every_10 G l    _
  · refine J_iload_n dX8_every_4 1 rfl ?_
    refine J_bipush (v := 50) dX8_every_5 (by decide) ?_
    refine J_icmp_le (tgt := 12) dX8_every_7 (by decide) ?_ ?_
    · refine J_aload_n dX8_every_12 0 rfl ?_
      refine J_getR fd_8_0 w_357 rfl dX8_every_13 (fun r1 => ?_)
      refine J_getI fd_3_16 w_384 rfl dX8_every_16 ?_
      refine J_istore_n (lv' := [(2, .int _), (0, .ref _), (1, .int _)]) dX8_every_19 (by decide) rfl ?_
      refine J_aload_n dX8_every_20 1 rfl ?_
      refine J_getR fd_8_0 w_357 rfl dX8_every_21 (fun r3 => ?_)
      refine J_iload_n dX8_every_24 2 rfl ?_
      refine J_callVv (okX3_startEvery G l _ _ _) mkX3_startEvery _ _ rfl w_385 w_193 w_194 ⟨by decide, by decide⟩ rfl (Nat.le_of_ble_eq_true rfl) dX8_every_25 (fun _u5 M4 => ?_)
      refine J_aload_n dX8_every_28 1 rfl ?_
      refine J_getR fd_8_2 w_354 rfl dX8_every_29 (fun r6 => ?_)
      refine J_aload_n dX8_every_32 1 rfl ?_
      refine J_getR fd_8_0 w_357 rfl dX8_every_33 (fun r7 => ?_)
      refine J_getI fd_3_12 w_386 rfl dX8_every_36 ?_
      refine J_iload_n dX8_every_39 2 rfl ?_
      refine J_iast dX8_every_40 ?_
      refine J_iload_n dX8_every_41 0 rfl ?_
      exact J_iret dX8_every_42
    · refine J_sub [] rfl ?_
      exact jX8_every_10 G l    _
theorem okX8_every (G : Gx) (l : Launch) (l0 : Nat) (l1 : Int32) (M : Mem) : Con G l yX8_every cX8_every 3 (some .int) 1 21 (fun v : Int32 => some (.int v)) [.ref (adr G l0), .int l1] M (fX8_every l0 l1 M) := con_of (own := RX8) (nm := "every") (by decide +kernel) rfl rfl (Nat.le_of_ble_eq_true rfl) (jX8_every G l l0 l1 M)
theorem mkX8_every : MOk yX8_every cX8_every 3 (some .int) 1 := ⟨w_387, tb1 (List.mem_of_getElem? (i := 1) rfl) rfl, by decide +kernel, by decide +kernel, by decide +kernel⟩
-- X8_account
def fX8_account_15   (M : Mem) : Option (Int64 × Mem) := some ((-9223372036854775808 : Int64), M)
set_option maxHeartbeats 4000000 in
set_option maxRecDepth 100000 in
theorem jX8_account_15 (G : Gx) (l : Launch)    (M : Mem) : J G l cX8_account 3 RX8 (some .long) "account" 0 0 (QM G (fun v : Int64 => some (.long v))) 15 [] [] M (fX8_account_15   M) := by
  unfold fX8_account_15
  refine J_ldc2 (v := -9223372036854775808) dX8_account_15 w_116 ?_
  exact J_lret dX8_account_18
def fX8_account (l0 : Nat) (l1 : Int32) (l2 : Int32) (M : Mem) : Option (Int64 × Mem) := (if l1 < 0 then fX8_account_15   M else (gR M 8 0 l0 fun r1 => (gI M 3 4 r1 fun v2 => (if l1 < v2 then (if l2 = 0 then (gR M 8 0 l0 fun r3 => (gR M 3 1 r3 fun r4 => (rJ M r4 l1 fun v5 => some (v5, M)))) else if l2 = 1 then (gR M 8 0 l0 fun r6 => (gR M 3 2 r6 fun r7 => (rJ M r7 l1 fun v8 => some (v8, M)))) else if l2 = 2 then (gR M 8 0 l0 fun r9 => (gR M 3 0 r9 fun r10 => (rJ M r10 l1 fun v11 => some (v11, M)))) else some ((-9223372036854775808 : Int64), M)) else fX8_account_15   M))))
set_option maxHeartbeats 4000000 in
set_option maxRecDepth 100000 in
theorem jX8_account (G : Gx) (l : Launch) (l0 : Nat) (l1 : Int32) (l2 : Int32) (M : Mem) : J G l cX8_account 3 RX8 (some .long) "account" 0 0 (QM G (fun v : Int64 => some (.long v))) 0 [(0, .ref (adr G l0)), (1, .int l1), (2, .int l2)] [] M (fX8_account l0 l1 l2 M) := by
  unfold fX8_account
  refine J_iload_n dX8_account_0 1 rfl ?_
  refine J_if_lt (tgt := 15) dX8_account_1 (by decide) ?_ ?_
  · refine J_sub [] rfl ?_
    exact jX8_account_15 G l    _
  · refine J_iload_n dX8_account_4 1 rfl ?_
    refine J_aload_n dX8_account_5 0 rfl ?_
    refine J_getR fd_8_0 w_357 rfl dX8_account_6 (fun r1 => ?_)
    refine J_getI fd_3_4 w_388 rfl dX8_account_9 ?_
    refine J_icmp_lt (tgt := 19) dX8_account_12 (by decide) ?_ ?_
    · refine J_iload_n dX8_account_19 2 rfl ?_
      refine J_ite (fun h20_0 => ?_) (fun h20_0 => ?_)
      · refine J_tabI (off := 28) (tgt := 48) dX8_account_20 (by rw [h20_0]; decide) (by rw [h20_0]; decide) (by rw [h20_0]; decide) (by decide) ?_
        refine J_aload_n dX8_account_48 0 rfl ?_
        refine J_getR fd_8_0 w_357 rfl dX8_account_49 (fun r3 => ?_)
        refine J_getR fd_3_1 w_389 rfl dX8_account_52 (fun r4 => ?_)
        refine J_iload_n dX8_account_55 1 rfl ?_
        refine J_lald dX8_account_56 ?_
        exact J_lret dX8_account_57
      refine J_ite (fun h20_1 => ?_) (fun h20_1 => ?_)
      · refine J_tabI (off := 38) (tgt := 58) dX8_account_20 (by rw [h20_1]; decide) (by rw [h20_1]; decide) (by rw [h20_1]; decide) (by decide) ?_
        refine J_aload_n dX8_account_58 0 rfl ?_
        refine J_getR fd_8_0 w_357 rfl dX8_account_59 (fun r6 => ?_)
        refine J_getR fd_3_2 w_390 rfl dX8_account_62 (fun r7 => ?_)
        refine J_iload_n dX8_account_65 1 rfl ?_
        refine J_lald dX8_account_66 ?_
        exact J_lret dX8_account_67
      refine J_ite (fun h20_2 => ?_) (fun h20_2 => ?_)
      · refine J_tabI (off := 48) (tgt := 68) dX8_account_20 (by rw [h20_2]; decide) (by rw [h20_2]; decide) (by rw [h20_2]; decide) (by decide) ?_
        refine J_aload_n dX8_account_68 0 rfl ?_
        refine J_getR fd_8_0 w_357 rfl dX8_account_69 (fun r9 => ?_)
        refine J_getR fd_3_0 w_391 rfl dX8_account_72 (fun r10 => ?_)
        refine J_iload_n dX8_account_75 1 rfl ?_
        refine J_lald dX8_account_76 ?_
        exact J_lret dX8_account_77
      refine J_tabO (tgt := 78) dX8_account_20 (by have h20_0 := lv_neT h20_0 (show (0 : Int32).toInt = 0 by decide); have h20_1 := lv_neT h20_1 (show (1 : Int32).toInt = 1 by decide); have h20_2 := lv_neT h20_2 (show (2 : Int32).toInt = 2 by decide); omega) (by decide) ?_
      refine J_ldc2 (v := -9223372036854775808) dX8_account_78 w_116 ?_
      exact J_lret dX8_account_81
    · refine J_sub [] rfl ?_
      exact jX8_account_15 G l    _
theorem okX8_account (G : Gx) (l : Launch) (l0 : Nat) (l1 : Int32) (l2 : Int32) (M : Mem) : Con G l yX8_account cX8_account 3 (some .long) 0 0 (fun v : Int64 => some (.long v)) [.ref (adr G l0), .int l1, .int l2] M (fX8_account l0 l1 l2 M) := con_of (own := RX8) (nm := "account") (by decide +kernel) rfl rfl (Nat.le_of_ble_eq_true rfl) (jX8_account G l l0 l1 l2 M)
theorem mkX8_account : MOk yX8_account cX8_account 3 (some .long) 2 := ⟨w_392, tb1 (List.mem_of_getElem? (i := 1) rfl) rfl, by decide +kernel, by decide +kernel, by decide +kernel⟩
-- X8_legOf
def fX8_legOf_75   (M : Mem) : Option (Int64 × Mem) := some ((-9223372036854775808 : Int64), M)
set_option maxHeartbeats 4000000 in
set_option maxRecDepth 100000 in
theorem jX8_legOf_75 (G : Gx) (l : Launch)    (M : Mem) : J G l cX8_legOf 4 RX8 (some .long) "legOf" 0 0 (QM G (fun v : Int64 => some (.long v))) 75 [] [] M (fX8_legOf_75   M) := by
  unfold fX8_legOf_75
  refine J_ldc2 (v := -9223372036854775808) dX8_legOf_75 w_116 ?_
  exact J_lret dX8_legOf_78
def fX8_legOf_43  (l0 : Nat) (l1 : Int32) (l2 : Int32) (l3 : Int32) (M : Mem) : Option (Int64 × Mem) := (if l2 < (30 : Int32) then fX8_legOf_75   M else (if ((30 : Int32) + l3) ≤ l2 then fX8_legOf_75   M else (gR M 8 0 l0 fun r1 => (gR M 3 11 r1 fun r2 => (rJ M r2 (((l1 * (8 : Int32)) + l2) - (30 : Int32)) fun v3 => some (v3, M))))))
set_option maxHeartbeats 4000000 in
set_option maxRecDepth 100000 in
theorem jX8_legOf_43 (G : Gx) (l : Launch)   (l0 : Nat) (l1 : Int32) (l2 : Int32) (l3 : Int32) (M : Mem) : J G l cX8_legOf 4 RX8 (some .long) "legOf" 0 0 (QM G (fun v : Int64 => some (.long v))) 43 [(0, .ref (adr G l0)), (1, .int l1), (2, .int l2), (3, .int l3)] [] M (fX8_legOf_43  l0 l1 l2 l3 M) := by
  unfold fX8_legOf_43
  refine J_iload_n dX8_legOf_43 2 rfl ?_
  refine J_bipush (v := 30) dX8_legOf_44 (by decide) ?_
  refine J_icmp_lt (tgt := 75) dX8_legOf_46 (by decide) ?_ ?_
  · refine J_sub [] rfl ?_
    exact jX8_legOf_75 G l    _
  · refine J_iload_n dX8_legOf_49 2 rfl ?_
    refine J_bipush (v := 30) dX8_legOf_50 (by decide) ?_
    refine J_iload_n dX8_legOf_52 3 rfl ?_
    refine J_iadd dX8_legOf_53 ?_
    refine J_icmp_ge (tgt := 75) dX8_legOf_54 (by decide) ?_ ?_
    · refine J_sub [] rfl ?_
      exact jX8_legOf_75 G l    _
    · refine J_aload_n dX8_legOf_57 0 rfl ?_
      refine J_getR fd_8_0 w_357 rfl dX8_legOf_58 (fun r1 => ?_)
      refine J_getR fd_3_11 w_398 rfl dX8_legOf_61 (fun r2 => ?_)
      refine J_iload_n dX8_legOf_64 1 rfl ?_
      refine J_bipush (v := 8) dX8_legOf_65 (by decide) ?_
      refine J_imul dX8_legOf_67 ?_
      refine J_iload_n dX8_legOf_68 2 rfl ?_
      refine J_iadd dX8_legOf_69 ?_
      refine J_bipush (v := 30) dX8_legOf_70 (by decide) ?_
      refine J_isub dX8_legOf_72 ?_
      refine J_lald dX8_legOf_73 ?_
      exact J_lret dX8_legOf_74
def fX8_legOf (l0 : Nat) (l1 : Int32) (l2 : Int32) (M : Mem) : Option (Int64 × Mem) := (gR M 8 0 l0 fun r1 => (gR M 3 9 r1 fun r2 => (rI M .int r2 l1 fun v3 => (if l2 < (10 : Int32) then fX8_legOf_43  l0 l1 l2 v3 M else (if ((10 : Int32) + v3) ≤ l2 then fX8_legOf_43  l0 l1 l2 v3 M else (gR M 8 0 l0 fun r4 => (gR M 3 10 r4 fun r5 => (rI M .int r5 (((l1 * (8 : Int32)) + l2) - (10 : Int32)) fun v6 => some (v6.toInt64, M)))))))))
set_option maxHeartbeats 4000000 in
set_option maxRecDepth 100000 in
theorem jX8_legOf (G : Gx) (l : Launch) (l0 : Nat) (l1 : Int32) (l2 : Int32) (M : Mem) : J G l cX8_legOf 4 RX8 (some .long) "legOf" 0 0 (QM G (fun v : Int64 => some (.long v))) 0 [(0, .ref (adr G l0)), (1, .int l1), (2, .int l2)] [] M (fX8_legOf l0 l1 l2 M) := by
  unfold fX8_legOf
  refine J_aload_n dX8_legOf_0 0 rfl ?_
  refine J_getR fd_8_0 w_357 rfl dX8_legOf_1 (fun r1 => ?_)
  refine J_getR fd_3_9 w_396 rfl dX8_legOf_4 (fun r2 => ?_)
  refine J_iload_n dX8_legOf_7 1 rfl ?_
  refine J_iald dX8_legOf_8 ?_
  refine J_istore_n (lv' := [(3, .int _), (0, .ref _), (1, .int _), (2, .int _)]) dX8_legOf_9 (by decide) rfl ?_
  refine J_iload_n dX8_legOf_10 3 rfl ?_
  refine J_bipush (v := 10) dX8_legOf_11 (by decide) ?_
  refine J_icmp_lt (tgt := 43) dX8_legOf_13 (by decide) ?_ ?_
  · refine J_sub [1, 2, 3, 0] rfl ?_
    exact jX8_legOf_43 G l   _ _ _ _ _
  · refine J_iload_n dX8_legOf_16 3 rfl ?_
    refine J_bipush (v := 10) dX8_legOf_17 (by decide) ?_
    refine J_iload_n dX8_legOf_19 0 rfl ?_
    refine J_iadd dX8_legOf_20 ?_
    refine J_icmp_ge (tgt := 43) dX8_legOf_21 (by decide) ?_ ?_
    · refine J_sub [1, 2, 3, 0] rfl ?_
      exact jX8_legOf_43 G l   _ _ _ _ _
    · refine J_aload_n dX8_legOf_24 1 rfl ?_
      refine J_getR fd_8_0 w_357 rfl dX8_legOf_25 (fun r4 => ?_)
      refine J_getR fd_3_10 w_399 rfl dX8_legOf_28 (fun r5 => ?_)
      refine J_iload_n dX8_legOf_31 2 rfl ?_
      refine J_bipush (v := 8) dX8_legOf_32 (by decide) ?_
      refine J_imul dX8_legOf_34 ?_
      refine J_iload_n dX8_legOf_35 3 rfl ?_
      refine J_iadd dX8_legOf_36 ?_
      refine J_bipush (v := 10) dX8_legOf_37 (by decide) ?_
      refine J_isub dX8_legOf_39 ?_
      refine J_iald dX8_legOf_40 ?_
      refine J_i2l dX8_legOf_41 ?_
      exact J_lret dX8_legOf_42
theorem okX8_legOf (G : Gx) (l : Launch) (l0 : Nat) (l1 : Int32) (l2 : Int32) (M : Mem) : Con G l yX8_legOf cX8_legOf 4 (some .long) 0 0 (fun v : Int64 => some (.long v)) [.ref (adr G l0), .int l1, .int l2] M (fX8_legOf l0 l1 l2 M) := con_of (own := RX8) (nm := "legOf") (by decide +kernel) rfl rfl (Nat.le_of_ble_eq_true rfl) (jX8_legOf G l l0 l1 l2 M)
theorem mkX8_legOf : MOk yX8_legOf cX8_legOf 4 (some .long) 2 := ⟨w_400, tb1 (List.mem_of_getElem? (i := 1) rfl) rfl, by decide +kernel, by decide +kernel, by decide +kernel⟩
-- X8_entry
def fX8_entry_15   (M : Mem) : Option (Int64 × Mem) := some ((-9223372036854775808 : Int64), M)
set_option maxHeartbeats 4000000 in
set_option maxRecDepth 100000 in
theorem jX8_entry_15 (G : Gx) (l : Launch)    (M : Mem) : J G l cX8_entry 3 RX8 (some .long) "entry" 1 23 (QM G (fun v : Int64 => some (.long v))) 15 [] [] M (fX8_entry_15   M) := by
  unfold fX8_entry_15
  refine J_ldc2 (v := -9223372036854775808) dX8_entry_15 w_116 ?_
  exact J_lret dX8_entry_18
def fX8_entry (l0 : Nat) (l1 : Int32) (l2 : Int32) (M : Mem) : Option (Int64 × Mem) := (if l1 < 0 then fX8_entry_15   M else (gR M 8 0 l0 fun r1 => (gI M 3 12 r1 fun v2 => (if l1 < v2 then (if l2 = 0 then (gR M 8 0 l0 fun r3 => (cV M 3 r3 (fX3_kindOf r3 l1 M) fun v5 M4 => some (v5.toInt64, M4))) else if l2 = 1 then (gR M 8 0 l0 fun r6 => (gR M 3 6 r6 fun r7 => (rI M .int r7 (l1 + (1 : Int32)) fun v8 => (gR M 8 0 l0 fun r9 => (gR M 3 6 r9 fun r10 => (rI M .int r10 l1 fun v11 => some ((v8 - v11).toInt64, M))))))) else if l2 = 2 then (gR M 8 0 l0 fun r12 => (gR M 3 6 r12 fun r13 => (rI M .int r13 l1 fun v14 => some (v14.toInt64, M)))) else if l2 = 3 then (gR M 8 0 l0 fun r15 => (gR M 3 7 r15 fun r16 => (rJ M r16 l1 fun v17 => some (v17, M)))) else if l2 = 4 then (gR M 8 0 l0 fun r18 => (gR M 3 9 r18 fun r19 => (rI M .int r19 l1 fun v20 => some (v20.toInt64, M)))) else if l2 = 5 then (gR M 8 0 l0 fun r21 => (gR M 3 8 r21 fun r22 => (rI M .int r22 l1 fun v23 => some (v23.toInt64, M)))) else (cV M 8 l0 (fX8_legOf l0 l1 l2 M) fun v25 M24 => some (v25, M24))) else fX8_entry_15   M))))
set_option maxHeartbeats 4000000 in
set_option maxRecDepth 100000 in
theorem jX8_entry (G : Gx) (l : Launch) (l0 : Nat) (l1 : Int32) (l2 : Int32) (M : Mem) : J G l cX8_entry 3 RX8 (some .long) "entry" 1 23 (QM G (fun v : Int64 => some (.long v))) 0 [(0, .ref (adr G l0)), (1, .int l1), (2, .int l2)] [] M (fX8_entry l0 l1 l2 M) := by
  unfold fX8_entry
  refine J_iload_n dX8_entry_0 1 rfl ?_
  refine J_if_lt (tgt := 15) dX8_entry_1 (by decide) ?_ ?_
  · refine J_sub [] rfl ?_
    exact jX8_entry_15 G l    _
  · refine J_iload_n dX8_entry_4 1 rfl ?_
    refine J_aload_n dX8_entry_5 0 rfl ?_
    refine J_getR fd_8_0 w_357 rfl dX8_entry_6 (fun r1 => ?_)
    refine J_getI fd_3_12 w_386 rfl dX8_entry_9 ?_
    refine J_icmp_lt (tgt := 19) dX8_entry_12 (by decide) ?_ ?_
    · refine J_iload_n dX8_entry_19 2 rfl ?_
      refine J_ite (fun h20_0 => ?_) (fun h20_0 => ?_)
      · refine J_tabI (off := 40) (tgt := 60) dX8_entry_20 (by rw [h20_0]; decide) (by rw [h20_0]; decide) (by rw [h20_0]; decide) (by decide) ?_
        refine J_aload_n dX8_entry_60 0 rfl ?_
        refine J_getR fd_8_0 w_357 rfl dX8_entry_61 (fun r3 => ?_)
        refine J_iload_n dX8_entry_64 1 rfl ?_
        refine J_callVi (okX3_kindOf G l _ _ _) mkX3_kindOf _ _ rfl w_393 w_152 w_153 ⟨by decide, by decide⟩ rfl (Nat.le_of_ble_eq_true rfl) dX8_entry_65 (fun v5 M4 => ?_)
        refine J_i2l dX8_entry_68 ?_
        exact J_lret dX8_entry_69
      refine J_ite (fun h20_1 => ?_) (fun h20_1 => ?_)
      · refine J_tabI (off := 50) (tgt := 70) dX8_entry_20 (by rw [h20_1]; decide) (by rw [h20_1]; decide) (by rw [h20_1]; decide) (by decide) ?_
        refine J_aload_n dX8_entry_70 0 rfl ?_
        refine J_getR fd_8_0 w_357 rfl dX8_entry_71 (fun r6 => ?_)
        refine J_getR fd_3_6 w_394 rfl dX8_entry_74 (fun r7 => ?_)
        refine J_iload_n dX8_entry_77 1 rfl ?_
        refine J_iconst (v := 1) dX8_entry_78 (by decide) ?_
        refine J_iadd dX8_entry_79 ?_
        refine J_iald dX8_entry_80 ?_
        refine J_aload_n dX8_entry_81 0 rfl ?_
        refine J_getR fd_8_0 w_357 rfl dX8_entry_82 (fun r9 => ?_)
        refine J_getR fd_3_6 w_394 rfl dX8_entry_85 (fun r10 => ?_)
        refine J_iload_n dX8_entry_88 1 rfl ?_
        refine J_iald dX8_entry_89 ?_
        refine J_isub dX8_entry_90 ?_
        refine J_i2l dX8_entry_91 ?_
        exact J_lret dX8_entry_92
      refine J_ite (fun h20_2 => ?_) (fun h20_2 => ?_)
      · refine J_tabI (off := 73) (tgt := 93) dX8_entry_20 (by rw [h20_2]; decide) (by rw [h20_2]; decide) (by rw [h20_2]; decide) (by decide) ?_
        refine J_aload_n dX8_entry_93 0 rfl ?_
        refine J_getR fd_8_0 w_357 rfl dX8_entry_94 (fun r12 => ?_)
        refine J_getR fd_3_6 w_394 rfl dX8_entry_97 (fun r13 => ?_)
        refine J_iload_n dX8_entry_100 1 rfl ?_
        refine J_iald dX8_entry_101 ?_
        refine J_i2l dX8_entry_102 ?_
        exact J_lret dX8_entry_103
      refine J_ite (fun h20_3 => ?_) (fun h20_3 => ?_)
      · refine J_tabI (off := 84) (tgt := 104) dX8_entry_20 (by rw [h20_3]; decide) (by rw [h20_3]; decide) (by rw [h20_3]; decide) (by decide) ?_
        refine J_aload_n dX8_entry_104 0 rfl ?_
        refine J_getR fd_8_0 w_357 rfl dX8_entry_105 (fun r15 => ?_)
        refine J_getR fd_3_7 w_395 rfl dX8_entry_108 (fun r16 => ?_)
        refine J_iload_n dX8_entry_111 1 rfl ?_
        refine J_lald dX8_entry_112 ?_
        exact J_lret dX8_entry_113
      refine J_ite (fun h20_4 => ?_) (fun h20_4 => ?_)
      · refine J_tabI (off := 94) (tgt := 114) dX8_entry_20 (by rw [h20_4]; decide) (by rw [h20_4]; decide) (by rw [h20_4]; decide) (by decide) ?_
        refine J_aload_n dX8_entry_114 0 rfl ?_
        refine J_getR fd_8_0 w_357 rfl dX8_entry_115 (fun r18 => ?_)
        refine J_getR fd_3_9 w_396 rfl dX8_entry_118 (fun r19 => ?_)
        refine J_iload_n dX8_entry_121 1 rfl ?_
        refine J_iald dX8_entry_122 ?_
        refine J_i2l dX8_entry_123 ?_
        exact J_lret dX8_entry_124
      refine J_ite (fun h20_5 => ?_) (fun h20_5 => ?_)
      · refine J_tabI (off := 105) (tgt := 125) dX8_entry_20 (by rw [h20_5]; decide) (by rw [h20_5]; decide) (by rw [h20_5]; decide) (by decide) ?_
        refine J_aload_n dX8_entry_125 0 rfl ?_
        refine J_getR fd_8_0 w_357 rfl dX8_entry_126 (fun r21 => ?_)
        refine J_getR fd_3_8 w_397 rfl dX8_entry_129 (fun r22 => ?_)
        refine J_iload_n dX8_entry_132 1 rfl ?_
        refine J_iald dX8_entry_133 ?_
        refine J_i2l dX8_entry_134 ?_
        exact J_lret dX8_entry_135
      refine J_tabO (tgt := 136) dX8_entry_20 (by have h20_0 := lv_neT h20_0 (show (0 : Int32).toInt = 0 by decide); have h20_1 := lv_neT h20_1 (show (1 : Int32).toInt = 1 by decide); have h20_2 := lv_neT h20_2 (show (2 : Int32).toInt = 2 by decide); have h20_3 := lv_neT h20_3 (show (3 : Int32).toInt = 3 by decide); have h20_4 := lv_neT h20_4 (show (4 : Int32).toInt = 4 by decide); have h20_5 := lv_neT h20_5 (show (5 : Int32).toInt = 5 by decide); omega) (by decide) ?_
      refine J_aload_n dX8_entry_136 0 rfl ?_
      refine J_iload_n dX8_entry_137 1 rfl ?_
      refine J_iload_n dX8_entry_138 2 rfl ?_
      refine J_callVl (okX8_legOf G l _ _ _ _) mkX8_legOf _ _ rfl w_401 w_402 w_403 ⟨by decide, by decide⟩ rfl (Nat.le_of_ble_eq_true rfl) dX8_entry_139 (fun v25 M24 => ?_)
      exact J_lret dX8_entry_142
    · refine J_sub [] rfl ?_
      exact jX8_entry_15 G l    _
theorem okX8_entry (G : Gx) (l : Launch) (l0 : Nat) (l1 : Int32) (l2 : Int32) (M : Mem) : Con G l yX8_entry cX8_entry 3 (some .long) 1 23 (fun v : Int64 => some (.long v)) [.ref (adr G l0), .int l1, .int l2] M (fX8_entry l0 l1 l2 M) := con_of (own := RX8) (nm := "entry") (by decide +kernel) rfl rfl (Nat.le_of_ble_eq_true rfl) (jX8_entry G l l0 l1 l2 M)
theorem mkX8_entry : MOk yX8_entry cX8_entry 3 (some .long) 2 := ⟨w_404, tb1 (List.mem_of_getElem? (i := 1) rfl) rfl, by decide +kernel, by decide +kernel, by decide +kernel⟩
-- X8_data
def fX8_data_32  (s0 : Int32) (M : Mem) : Option (Int32 × Mem) := some (s0, M)
set_option maxHeartbeats 4000000 in
set_option maxRecDepth 100000 in
theorem jX8_data_32 (G : Gx) (l : Launch)   (s0 : Int32) (M : Mem) : J G l cX8_data 2 RX8 (some .int) "data" 1 20 (QM G (fun v : Int32 => some (.int v))) 32 [] [.int s0] M (fX8_data_32  s0 M) := by
  unfold fX8_data_32
  exact J_iret dX8_data_32
def fX8_data_31   (M : Mem) : Option (Int32 × Mem) := fX8_data_32  (-1 : Int32) M
set_option maxHeartbeats 4000000 in
set_option maxRecDepth 100000 in
theorem jX8_data_31 (G : Gx) (l : Launch)    (M : Mem) : J G l cX8_data 2 RX8 (some .int) "data" 1 20 (QM G (fun v : Int32 => some (.int v))) 31 [] [] M (fX8_data_31   M) := by
  unfold fX8_data_31
  refine J_iconst (v := -1) dX8_data_31 (by decide) ?_
  refine J_sub [] rfl ?_
  exact jX8_data_32 G l   _ _
def fX8_data (l0 : Nat) (l1 : Int32) (M : Mem) : Option (Int32 × Mem) := (if l1 < 0 then fX8_data_31   M else (gR M 8 3 l0 fun r1 => (cV M 5 r1 (fX5_size r1 M) fun v3 M2 => (if v3 ≤ l1 then fX8_data_31   M2 else (gR M2 8 3 l0 fun r4 => (gR M2 5 0 r4 fun r5 => (rI M2 .byte r5 l1 fun v6 => fX8_data_32  (v6 &&& (255 : Int32)) M2)))))))
set_option maxHeartbeats 4000000 in
set_option maxRecDepth 100000 in
theorem jX8_data (G : Gx) (l : Launch) (l0 : Nat) (l1 : Int32) (M : Mem) : J G l cX8_data 2 RX8 (some .int) "data" 1 20 (QM G (fun v : Int32 => some (.int v))) 0 [(0, .ref (adr G l0)), (1, .int l1)] [] M (fX8_data l0 l1 M) := by
  unfold fX8_data
  refine J_iload_n dX8_data_0 1 rfl ?_
  refine J_if_lt (tgt := 31) dX8_data_1 (by decide) ?_ ?_
  · refine J_sub [] rfl ?_
    exact jX8_data_31 G l    _
  · refine J_iload_n dX8_data_4 1 rfl ?_
    refine J_aload_n dX8_data_5 0 rfl ?_
    refine J_getR fd_8_3 w_353 rfl dX8_data_6 (fun r1 => ?_)
    refine J_callVi (okX5_size G l _ _) mkX5_size _ _ rfl w_405 w_46 w_47 ⟨by decide, by decide⟩ rfl (Nat.le_of_ble_eq_true rfl) dX8_data_9 (fun v3 M2 => ?_)
    refine J_icmp_ge (tgt := 31) dX8_data_12 (by decide) ?_ ?_
    · refine J_sub [] rfl ?_
      exact jX8_data_31 G l    _
    · refine J_aload_n dX8_data_15 0 rfl ?_
      refine J_getR fd_8_3 w_353 rfl dX8_data_16 (fun r4 => ?_)
      refine J_getR fd_5_0 w_406 rfl dX8_data_19 (fun r5 => ?_)
      refine J_iload_n dX8_data_22 1 rfl ?_
      refine J_bald dX8_data_23 ?_
      refine J_sipush (v := 255) dX8_data_24 (by decide) ?_
      refine J_iand dX8_data_27 ?_
      refine J_goto (tgt := 32) dX8_data_28 (by decide) ?_
      refine J_sub [] rfl ?_
      exact jX8_data_32 G l   _ _
theorem okX8_data (G : Gx) (l : Launch) (l0 : Nat) (l1 : Int32) (M : Mem) : Con G l yX8_data cX8_data 2 (some .int) 1 20 (fun v : Int32 => some (.int v)) [.ref (adr G l0), .int l1] M (fX8_data l0 l1 M) := con_of (own := RX8) (nm := "data") (by decide +kernel) rfl rfl (Nat.le_of_ble_eq_true rfl) (jX8_data G l l0 l1 M)
theorem mkX8_data : MOk yX8_data cX8_data 2 (some .int) 1 := ⟨w_407, tb1 (List.mem_of_getElem? (i := 1) rfl) rfl, by decide +kernel, by decide +kernel, by decide +kernel⟩
-- X8_alter
def fX8_alter_27   (M : Mem) : Option (Int32 × Mem) := some ((-1 : Int32), M)
set_option maxHeartbeats 4000000 in
set_option maxRecDepth 100000 in
theorem jX8_alter_27 (G : Gx) (l : Launch)    (M : Mem) : J G l cX8_alter 3 RX8 (some .int) "alter" 2 46 (QM G (fun v : Int32 => some (.int v))) 27 [] [] M (fX8_alter_27   M) := by
  unfold fX8_alter_27
  refine J_iconst (v := -1) dX8_alter_27 (by decide) ?_
  exact J_iret dX8_alter_28
def fX8_alter (l0 : Nat) (l1 : Int32) (l2 : Int32) (M : Mem) : Option (Int32 × Mem) := (if l1 < 0 then fX8_alter_27   M else (gR M 8 3 l0 fun r1 => (cV M 5 r1 (fX5_size r1 M) fun v3 M2 => (if v3 ≤ l1 then fX8_alter_27   M2 else (if l2 < (1 : Int32) then fX8_alter_27   M2 else (if l2 ≤ (255 : Int32) then (gR M2 8 3 l0 fun r4 => (cV M2 5 r4 (fX5_flip r4 l1 l2 M2) fun _u6 M5 => (gR M5 8 3 l0 fun r7 => (gR M5 5 0 r7 fun r8 => (rI M5 .byte r8 l1 fun v9 => some ((v9 &&& (255 : Int32)), M5)))))) else fX8_alter_27   M2))))))
set_option maxHeartbeats 4000000 in
set_option maxRecDepth 100000 in
theorem jX8_alter (G : Gx) (l : Launch) (l0 : Nat) (l1 : Int32) (l2 : Int32) (M : Mem) : J G l cX8_alter 3 RX8 (some .int) "alter" 2 46 (QM G (fun v : Int32 => some (.int v))) 0 [(0, .ref (adr G l0)), (1, .int l1), (2, .int l2)] [] M (fX8_alter l0 l1 l2 M) := by
  unfold fX8_alter
  refine J_iload_n dX8_alter_0 1 rfl ?_
  refine J_if_lt (tgt := 27) dX8_alter_1 (by decide) ?_ ?_
  · refine J_sub [] rfl ?_
    exact jX8_alter_27 G l    _
  · refine J_iload_n dX8_alter_4 1 rfl ?_
    refine J_aload_n dX8_alter_5 0 rfl ?_
    refine J_getR fd_8_3 w_353 rfl dX8_alter_6 (fun r1 => ?_)
    refine J_callVi (okX5_size G l _ _) mkX5_size _ _ rfl w_405 w_46 w_47 ⟨by decide, by decide⟩ rfl (Nat.le_of_ble_eq_true rfl) dX8_alter_9 (fun v3 M2 => ?_)
    refine J_icmp_ge (tgt := 27) dX8_alter_12 (by decide) ?_ ?_
    · refine J_sub [] rfl ?_
      exact jX8_alter_27 G l    _
    · refine J_iload_n dX8_alter_15 2 rfl ?_
      refine J_iconst (v := 1) dX8_alter_16 (by decide) ?_
      refine J_icmp_lt (tgt := 27) dX8_alter_17 (by decide) ?_ ?_
      · refine J_sub [] rfl ?_
        exact jX8_alter_27 G l    _
      · refine J_iload_n dX8_alter_20 2 rfl ?_
        refine J_sipush (v := 255) dX8_alter_21 (by decide) ?_
        refine J_icmp_le (tgt := 29) dX8_alter_24 (by decide) ?_ ?_
        · refine J_aload_n dX8_alter_29 0 rfl ?_
          refine J_getR fd_8_3 w_353 rfl dX8_alter_30 (fun r4 => ?_)
          refine J_iload_n dX8_alter_33 1 rfl ?_
          refine J_iload_n dX8_alter_34 2 rfl ?_
          refine J_callVv (okX5_flip G l _ _ _ _) mkX5_flip _ _ rfl w_408 w_409 w_410 ⟨by decide, by decide⟩ rfl (Nat.le_of_ble_eq_true rfl) dX8_alter_35 (fun _u6 M5 => ?_)
          refine J_aload_n dX8_alter_38 0 rfl ?_
          refine J_getR fd_8_3 w_353 rfl dX8_alter_39 (fun r7 => ?_)
          refine J_getR fd_5_0 w_406 rfl dX8_alter_42 (fun r8 => ?_)
          refine J_iload_n dX8_alter_45 1 rfl ?_
          refine J_bald dX8_alter_46 ?_
          refine J_sipush (v := 255) dX8_alter_47 (by decide) ?_
          refine J_iand dX8_alter_50 ?_
          exact J_iret dX8_alter_51
        · refine J_sub [] rfl ?_
          exact jX8_alter_27 G l    _
theorem okX8_alter (G : Gx) (l : Launch) (l0 : Nat) (l1 : Int32) (l2 : Int32) (M : Mem) : Con G l yX8_alter cX8_alter 3 (some .int) 2 46 (fun v : Int32 => some (.int v)) [.ref (adr G l0), .int l1, .int l2] M (fX8_alter l0 l1 l2 M) := con_of (own := RX8) (nm := "alter") (by decide +kernel) rfl rfl (Nat.le_of_ble_eq_true rfl) (jX8_alter G l l0 l1 l2 M)
theorem mkX8_alter : MOk yX8_alter cX8_alter 3 (some .int) 2 := ⟨w_411, tb1 (List.mem_of_getElem? (i := 1) rfl) rfl, by decide +kernel, by decide +kernel, by decide +kernel⟩
-- X8_hash
def fX8_hash_118  (s0 : Int32) (M : Mem) : Option (Int32 × Mem) := some (s0, M)
set_option maxHeartbeats 4000000 in
set_option maxRecDepth 100000 in
theorem jX8_hash_118 (G : Gx) (l : Launch)   (s0 : Int32) (M : Mem) : J G l cX8_hash 4 RX8 (some .int) "hash" 6 151 (QM G (fun v : Int32 => some (.int v))) 118 [] [.int s0] M (fX8_hash_118  s0 M) := by
  unfold fX8_hash_118
  exact J_iret dX8_hash_118
def fX8_hash_25   (M : Mem) : Option (Int32 × Mem) := some ((-1 : Int32), M)
set_option maxHeartbeats 4000000 in
set_option maxRecDepth 100000 in
theorem jX8_hash_25 (G : Gx) (l : Launch)    (M : Mem) : J G l cX8_hash 4 RX8 (some .int) "hash" 6 151 (QM G (fun v : Int32 => some (.int v))) 25 [] [] M (fX8_hash_25   M) := by
  unfold fX8_hash_25
  refine J_iconst (v := -1) dX8_hash_25 (by decide) ?_
  exact J_iret dX8_hash_26
def fX8_hash (l0 : Nat) (l1 : Int32) (l2 : Int32) (l3 : Int32) (M : Mem) : Option (Int32 × Mem) := (if l2 < 0 then fX8_hash_25   M else (gR M 8 3 l0 fun r1 => (gI M 5 2 r1 fun v2 => (if v2 < l2 then fX8_hash_25   M else (if l3 < 0 then fX8_hash_25   M else (if l3 < (32 : Int32) then (if l1 = 0 then (gR M 8 3 l0 fun r3 => (cV M 5 r3 (fX5_chainBehind r3 l2 M) fun v5 M4 => (bd (fX8_byteOf v5 l3 M4) fun v7 M6 => some (v7, M6)))) else if l1 = 1 then (gR M 8 3 l0 fun r8 => (gR M 8 7 l0 fun r9 => (cV M 5 r8 (fX5_treeOf r8 (0 : Int32) l2 r9 M) fun _u11 M10 => (gR M10 8 7 l0 fun r12 => (bd (fX8_byteOf r12 l3 M10) fun v14 M13 => some (v14, M13)))))) else if l1 = 2 then (gR M 8 3 l0 fun r15 => (gI M 5 2 r15 fun v16 => (if v16 ≤ l2 then fX8_hash_118  (-1 : Int32) M else (gR M 8 3 l0 fun r17 => (cV M 5 r17 (fX5_leafOf r17 l2 M) fun v19 M18 => (bd (fX8_byteOf v19 l3 M18) fun v21 M20 => fX8_hash_118  v21 M20)))))) else some ((-1 : Int32), M)) else fX8_hash_25   M))))))
set_option maxHeartbeats 4000000 in
set_option maxRecDepth 100000 in
theorem jX8_hash (G : Gx) (l : Launch) (l0 : Nat) (l1 : Int32) (l2 : Int32) (l3 : Int32) (M : Mem) : J G l cX8_hash 4 RX8 (some .int) "hash" 6 151 (QM G (fun v : Int32 => some (.int v))) 0 [(0, .ref (adr G l0)), (1, .int l1), (2, .int l2), (3, .int l3)] [] M (fX8_hash l0 l1 l2 l3 M) := by
  unfold fX8_hash
  refine J_iload_n dX8_hash_0 2 rfl ?_
  refine J_if_lt (tgt := 25) dX8_hash_1 (by decide) ?_ ?_
  · refine J_sub [] rfl ?_
    exact jX8_hash_25 G l    _
  · refine J_iload_n dX8_hash_4 2 rfl ?_
    refine J_aload_n dX8_hash_5 0 rfl ?_
    refine J_getR fd_8_3 w_353 rfl dX8_hash_6 (fun r1 => ?_)
    refine J_getI fd_5_2 w_412 rfl dX8_hash_9 ?_
    refine J_icmp_gt (tgt := 25) dX8_hash_12 (by decide) ?_ ?_
    · refine J_sub [] rfl ?_
      exact jX8_hash_25 G l    _
    · refine J_iload_n dX8_hash_15 3 rfl ?_
      refine J_if_lt (tgt := 25) dX8_hash_16 (by decide) ?_ ?_
      · refine J_sub [] rfl ?_
        exact jX8_hash_25 G l    _
      · refine J_iload_n dX8_hash_19 3 rfl ?_
        refine J_bipush (v := 32) dX8_hash_20 (by decide) ?_
        refine J_icmp_lt (tgt := 27) dX8_hash_22 (by decide) ?_ ?_
        · refine J_iload_n dX8_hash_27 1 rfl ?_
          refine J_ite (fun h28_0 => ?_) (fun h28_0 => ?_)
          · refine J_tabI (off := 28) (tgt := 56) dX8_hash_28 (by rw [h28_0]; decide) (by rw [h28_0]; decide) (by rw [h28_0]; decide) (by decide) ?_
            refine J_aload_n dX8_hash_56 0 rfl ?_
            refine J_getR fd_8_3 w_353 rfl dX8_hash_57 (fun r3 => ?_)
            refine J_iload_n dX8_hash_60 2 rfl ?_
            refine J_callVr (okX5_chainBehind G l _ _ _) mkX5_chainBehind _ _ rfl w_413 w_414 w_415 ⟨by decide, by decide⟩ rfl (Nat.le_of_ble_eq_true rfl) dX8_hash_61 (fun v5 M4 => ?_)
            refine J_iload_n dX8_hash_64 3 rfl ?_
            refine J_callSi (okX8_byteOf G l _ _ _) mkX8_byteOf w_416 w_245 ⟨by decide, by decide⟩ rfl (Nat.le_of_ble_eq_true rfl) dX8_hash_65 (fun v7 M6 => ?_)
            exact J_iret dX8_hash_68
          refine J_ite (fun h28_1 => ?_) (fun h28_1 => ?_)
          · refine J_tabI (off := 41) (tgt := 69) dX8_hash_28 (by rw [h28_1]; decide) (by rw [h28_1]; decide) (by rw [h28_1]; decide) (by decide) ?_
            refine J_aload_n dX8_hash_69 0 rfl ?_
            refine J_getR fd_8_3 w_353 rfl dX8_hash_70 (fun r8 => ?_)
            refine J_iconst (v := 0) dX8_hash_73 (by decide) ?_
            refine J_iload_n dX8_hash_74 2 rfl ?_
            refine J_aload_n dX8_hash_75 0 rfl ?_
            refine J_getR fd_8_7 w_347 rfl dX8_hash_76 (fun r9 => ?_)
            refine J_callVv (okX5_treeOf G l _ _ _ _ _) mkX5_treeOf _ _ rfl w_417 w_306 w_307 ⟨by decide, by decide⟩ rfl (Nat.le_of_ble_eq_true rfl) dX8_hash_79 (fun _u11 M10 => ?_)
            refine J_aload_n dX8_hash_82 0 rfl ?_
            refine J_getR fd_8_7 w_347 rfl dX8_hash_83 (fun r12 => ?_)
            refine J_iload_n dX8_hash_86 3 rfl ?_
            refine J_callSi (okX8_byteOf G l _ _ _) mkX8_byteOf w_416 w_245 ⟨by decide, by decide⟩ rfl (Nat.le_of_ble_eq_true rfl) dX8_hash_87 (fun v14 M13 => ?_)
            exact J_iret dX8_hash_90
          refine J_ite (fun h28_2 => ?_) (fun h28_2 => ?_)
          · refine J_tabI (off := 63) (tgt := 91) dX8_hash_28 (by rw [h28_2]; decide) (by rw [h28_2]; decide) (by rw [h28_2]; decide) (by decide) ?_
            refine J_iload_n dX8_hash_91 2 rfl ?_
            refine J_aload_n dX8_hash_92 0 rfl ?_
            refine J_getR fd_8_3 w_353 rfl dX8_hash_93 (fun r15 => ?_)
            refine J_getI fd_5_2 w_412 rfl dX8_hash_96 ?_
            refine J_icmp_ge (tgt := 117) dX8_hash_99 (by decide) ?_ ?_
            · refine J_iconst (v := -1) dX8_hash_117 (by decide) ?_
              refine J_sub [] rfl ?_
              exact jX8_hash_118 G l   _ _
            · refine J_aload_n dX8_hash_102 0 rfl ?_
              refine J_getR fd_8_3 w_353 rfl dX8_hash_103 (fun r17 => ?_)
              refine J_iload_n dX8_hash_106 2 rfl ?_
              refine J_callVr (okX5_leafOf G l _ _ _) mkX5_leafOf _ _ rfl w_418 w_419 w_420 ⟨by decide, by decide⟩ rfl (Nat.le_of_ble_eq_true rfl) dX8_hash_107 (fun v19 M18 => ?_)
              refine J_iload_n dX8_hash_110 3 rfl ?_
              refine J_callSi (okX8_byteOf G l _ _ _) mkX8_byteOf w_416 w_245 ⟨by decide, by decide⟩ rfl (Nat.le_of_ble_eq_true rfl) dX8_hash_111 (fun v21 M20 => ?_)
              refine J_goto (tgt := 118) dX8_hash_114 (by decide) ?_
              refine J_sub [] rfl ?_
              exact jX8_hash_118 G l   _ _
          refine J_tabO (tgt := 119) dX8_hash_28 (by have h28_0 := lv_neT h28_0 (show (0 : Int32).toInt = 0 by decide); have h28_1 := lv_neT h28_1 (show (1 : Int32).toInt = 1 by decide); have h28_2 := lv_neT h28_2 (show (2 : Int32).toInt = 2 by decide); omega) (by decide) ?_
          refine J_iconst (v := -1) dX8_hash_119 (by decide) ?_
          exact J_iret dX8_hash_120
        · refine J_sub [] rfl ?_
          exact jX8_hash_25 G l    _
theorem okX8_hash (G : Gx) (l : Launch) (l0 : Nat) (l1 : Int32) (l2 : Int32) (l3 : Int32) (M : Mem) : Con G l yX8_hash cX8_hash 4 (some .int) 6 151 (fun v : Int32 => some (.int v)) [.ref (adr G l0), .int l1, .int l2, .int l3] M (fX8_hash l0 l1 l2 l3 M) := con_of (own := RX8) (nm := "hash") (by decide +kernel) rfl rfl (Nat.le_of_ble_eq_true rfl) (jX8_hash G l l0 l1 l2 l3 M)
theorem mkX8_hash : MOk yX8_hash cX8_hash 4 (some .int) 3 := ⟨w_421, tb1 (List.mem_of_getElem? (i := 1) rfl) rfl, by decide +kernel, by decide +kernel, by decide +kernel⟩
