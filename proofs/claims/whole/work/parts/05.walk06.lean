-- X8_keep
def fX8_keep_10   (M : Mem) : Option (Int32 × Mem) := some ((-1 : Int32), M)
set_option maxHeartbeats 4000000 in
set_option maxRecDepth 100000 in
theorem jX8_keep_10 (G : Gx) (l : Launch)    (M : Mem) : J G l cX8_keep 3 RX8 (some .int) "keep" 6 151 (QM G (fun v : Int32 => some (.int v))) 10 [] [] M (fX8_keep_10   M) := by
  unfold fX8_keep_10
  refine J_iconst (v := -1) dX8_keep_10 (by decide) ?_
  exact J_iret dX8_keep_11
def fX8_keep (l0 : Nat) (l1 : Int32) (M : Mem) : Option (Int32 × Mem) := (if l1 < 0 then fX8_keep_10   M else (if l1 < (8 : Int32) then (gR M 8 4 l0 fun r1 => (rR M (.object "ChainBooks$Head") r1 l1 fun r2 => (gR M 8 3 l0 fun r3 => (gI M 5 2 r3 fun v4 => (pI M 2 2 r2 v4 fun M5 => (gR M5 8 3 l0 fun r6 => (gI M5 2 2 r2 fun v7 => (cV M5 5 r6 (fX5_chainBehind r6 v7 M5) fun v9 M8 => (gR M8 2 0 r2 fun r10 => (bd (fX8_copyHash v9 r10 M8) fun _u12 M11 => (gR M11 8 3 l0 fun r13 => (gI M11 2 2 r2 fun v14 => (gR M11 2 1 r2 fun r15 => (cV M11 5 r13 (fX5_treeOf r13 (0 : Int32) v14 r15 M11) fun _u17 M16 => (gI M16 2 2 r2 fun v18 => some (v18, M16)))))))))))))))) else fX8_keep_10   M))
set_option maxHeartbeats 4000000 in
set_option maxRecDepth 100000 in
theorem jX8_keep (G : Gx) (l : Launch) (l0 : Nat) (l1 : Int32) (M : Mem) : J G l cX8_keep 3 RX8 (some .int) "keep" 6 151 (QM G (fun v : Int32 => some (.int v))) 0 [(0, .ref (adr G l0)), (1, .int l1)] [] M (fX8_keep l0 l1 M) := by
  unfold fX8_keep
  refine J_iload_n dX8_keep_0 1 rfl ?_
  refine J_if_lt (tgt := 10) dX8_keep_1 (by decide) ?_ ?_
  · refine J_sub [] rfl ?_
    exact jX8_keep_10 G l    _
  · refine J_iload_n dX8_keep_4 1 rfl ?_
    refine J_bipush (v := 8) dX8_keep_5 (by decide) ?_
    refine J_icmp_lt (tgt := 12) dX8_keep_7 (by decide) ?_ ?_
    · refine J_aload_n dX8_keep_12 0 rfl ?_
      refine J_getR fd_8_4 w_348 rfl dX8_keep_13 (fun r1 => ?_)
      refine J_iload_n dX8_keep_16 1 rfl ?_
      refine J_aaldO dX8_keep_17 (fun r2 => ?_)
      refine J_astore_n (lv' := [(2, .ref _), (0, .ref _), (1, .int _)]) dX8_keep_18 (by decide) rfl ?_
      refine J_aload_n dX8_keep_19 0 rfl ?_
      refine J_aload_n dX8_keep_20 1 rfl ?_
      refine J_getR fd_8_3 w_353 rfl dX8_keep_21 (fun r3 => ?_)
      refine J_getI fd_5_2 w_412 rfl dX8_keep_24 ?_
      refine J_putI fd_2_2 w_422 dX8_keep_27 ?_
      refine J_aload_n dX8_keep_30 1 rfl ?_
      refine J_getR fd_8_3 w_353 rfl dX8_keep_31 (fun r6 => ?_)
      refine J_aload_n dX8_keep_34 0 rfl ?_
      refine J_getI fd_2_2 w_422 rfl dX8_keep_35 ?_
      refine J_callVr (okX5_chainBehind G l _ _ _) mkX5_chainBehind _ _ rfl w_413 w_414 w_415 ⟨by decide, by decide⟩ rfl (Nat.le_of_ble_eq_true rfl) dX8_keep_38 (fun v9 M8 => ?_)
      refine J_aload_n dX8_keep_41 0 rfl ?_
      refine J_getR fd_2_0 w_423 rfl dX8_keep_42 (fun r10 => ?_)
      refine J_callSv (okX8_copyHash G l _ _ _) mkX8_copyHash w_424 w_259 ⟨by decide, by decide⟩ rfl (Nat.le_of_ble_eq_true rfl) dX8_keep_45 (fun _u12 M11 => ?_)
      refine J_aload_n dX8_keep_48 1 rfl ?_
      refine J_getR fd_8_3 w_353 rfl dX8_keep_49 (fun r13 => ?_)
      refine J_iconst (v := 0) dX8_keep_52 (by decide) ?_
      refine J_aload_n dX8_keep_53 0 rfl ?_
      refine J_getI fd_2_2 w_422 rfl dX8_keep_54 ?_
      refine J_aload_n dX8_keep_57 0 rfl ?_
      refine J_getR fd_2_1 w_425 rfl dX8_keep_58 (fun r15 => ?_)
      refine J_callVv (okX5_treeOf G l _ _ _ _ _) mkX5_treeOf _ _ rfl w_417 w_306 w_307 ⟨by decide, by decide⟩ rfl (Nat.le_of_ble_eq_true rfl) dX8_keep_61 (fun _u17 M16 => ?_)
      refine J_aload_n dX8_keep_64 0 rfl ?_
      refine J_getI fd_2_2 w_422 rfl dX8_keep_65 ?_
      exact J_iret dX8_keep_68
    · refine J_sub [] rfl ?_
      exact jX8_keep_10 G l    _
theorem okX8_keep (G : Gx) (l : Launch) (l0 : Nat) (l1 : Int32) (M : Mem) : Con G l yX8_keep cX8_keep 3 (some .int) 6 151 (fun v : Int32 => some (.int v)) [.ref (adr G l0), .int l1] M (fX8_keep l0 l1 M) := con_of (own := RX8) (nm := "keep") (by decide +kernel) rfl rfl (Nat.le_of_ble_eq_true rfl) (jX8_keep G l l0 l1 M)
theorem mkX8_keep : MOk yX8_keep cX8_keep 3 (some .int) 1 := ⟨w_426, tb1 (List.mem_of_getElem? (i := 1) rfl) rfl, by decide +kernel, by decide +kernel, by decide +kernel⟩
-- X8_verify
def fX8_verify_90  (s0 : Int32) (M : Mem) : Option (Int32 × Mem) := some (s0, M)
set_option maxHeartbeats 4000000 in
set_option maxRecDepth 100000 in
theorem jX8_verify_90 (G : Gx) (l : Launch)   (s0 : Int32) (M : Mem) : J G l cX8_verify 3 RX8 (some .int) "verify" 6 151 (QM G (fun v : Int32 => some (.int v))) 90 [] [.int s0] M (fX8_verify_90  s0 M) := by
  unfold fX8_verify_90
  exact J_iret dX8_verify_90
def fX8_verify_23   (M : Mem) : Option (Int32 × Mem) := some ((-1 : Int32), M)
set_option maxHeartbeats 4000000 in
set_option maxRecDepth 100000 in
theorem jX8_verify_23 (G : Gx) (l : Launch)    (M : Mem) : J G l cX8_verify 3 RX8 (some .int) "verify" 6 151 (QM G (fun v : Int32 => some (.int v))) 23 [] [] M (fX8_verify_23   M) := by
  unfold fX8_verify_23
  refine J_iconst (v := -1) dX8_verify_23 (by decide) ?_
  exact J_iret dX8_verify_24
def fX8_verify (l0 : Nat) (l1 : Int32) (M : Mem) : Option (Int32 × Mem) := (if l1 < 0 then fX8_verify_23   M else (if (8 : Int32) ≤ l1 then fX8_verify_23   M else (gR M 8 4 l0 fun r1 => (rR M (.object "ChainBooks$Head") r1 l1 fun r2 => (gI M 2 2 r2 fun v3 => (if v3 = (-1 : Int32) then fX8_verify_23   M else (gR M 8 4 l0 fun r4 => (rR M (.object "ChainBooks$Head") r4 l1 fun r5 => (gR M 8 3 l0 fun r6 => (gI M 2 2 r5 fun v7 => (cV M 5 r6 (fX5_chainBehind r6 v7 M) fun v9 M8 => (gR M8 2 0 r5 fun r10 => (bd (fX8_sameHash v9 r10 M8) fun v12 M11 => (if v12 = 0 then some ((1 : Int32), M11) else (gR M11 8 3 l0 fun r13 => (gI M11 2 2 r5 fun v14 => (gR M11 8 7 l0 fun r15 => (cV M11 5 r13 (fX5_treeOf r13 (0 : Int32) v14 r15 M11) fun _u17 M16 => (gR M16 8 7 l0 fun r18 => (gR M16 2 1 r5 fun r19 => (bd (fX8_sameHash r18 r19 M16) fun v21 M20 => (if v21 = 0 then fX8_verify_90  (2 : Int32) M20 else fX8_verify_90  (0 : Int32) M20))))))))))))))))))))))
set_option maxHeartbeats 4000000 in
set_option maxRecDepth 100000 in
theorem jX8_verify (G : Gx) (l : Launch) (l0 : Nat) (l1 : Int32) (M : Mem) : J G l cX8_verify 3 RX8 (some .int) "verify" 6 151 (QM G (fun v : Int32 => some (.int v))) 0 [(0, .ref (adr G l0)), (1, .int l1)] [] M (fX8_verify l0 l1 M) := by
  unfold fX8_verify
  refine J_iload_n dX8_verify_0 1 rfl ?_
  refine J_if_lt (tgt := 23) dX8_verify_1 (by decide) ?_ ?_
  · refine J_sub [] rfl ?_
    exact jX8_verify_23 G l    _
  · refine J_iload_n dX8_verify_4 1 rfl ?_
    refine J_bipush (v := 8) dX8_verify_5 (by decide) ?_
    refine J_icmp_ge (tgt := 23) dX8_verify_7 (by decide) ?_ ?_
    · refine J_sub [] rfl ?_
      exact jX8_verify_23 G l    _
    · refine J_aload_n dX8_verify_10 0 rfl ?_
      refine J_getR fd_8_4 w_348 rfl dX8_verify_11 (fun r1 => ?_)
      refine J_iload_n dX8_verify_14 1 rfl ?_
      refine J_aaldO dX8_verify_15 (fun r2 => ?_)
      refine J_getI fd_2_2 w_422 rfl dX8_verify_16 ?_
      refine J_iconst (v := -1) dX8_verify_19 (by decide) ?_
      refine J_icmp_ne (tgt := 25) dX8_verify_20 (by decide) ?_ ?_
      · refine J_aload_n dX8_verify_25 0 rfl ?_
        refine J_getR fd_8_4 w_348 rfl dX8_verify_26 (fun r4 => ?_)
        refine J_iload_n dX8_verify_29 1 rfl ?_
        refine J_aaldO dX8_verify_30 (fun r5 => ?_)
        refine J_astore_n (lv' := [(2, .ref _), (0, .ref _), (1, .int _)]) dX8_verify_31 (by decide) rfl ?_
        refine J_aload_n dX8_verify_32 1 rfl ?_
        refine J_getR fd_8_3 w_353 rfl dX8_verify_33 (fun r6 => ?_)
        refine J_aload_n dX8_verify_36 0 rfl ?_
        refine J_getI fd_2_2 w_422 rfl dX8_verify_37 ?_
        refine J_callVr (okX5_chainBehind G l _ _ _) mkX5_chainBehind _ _ rfl w_413 w_414 w_415 ⟨by decide, by decide⟩ rfl (Nat.le_of_ble_eq_true rfl) dX8_verify_40 (fun v9 M8 => ?_)
        refine J_aload_n dX8_verify_43 0 rfl ?_
        refine J_getR fd_2_0 w_423 rfl dX8_verify_44 (fun r10 => ?_)
        refine J_callSi (okX8_sameHash G l _ _ _) mkX8_sameHash w_427 w_338 ⟨by decide, by decide⟩ rfl (Nat.le_of_ble_eq_true rfl) dX8_verify_47 (fun v12 M11 => ?_)
        refine J_if_ne (tgt := 55) dX8_verify_50 (by decide) ?_ ?_
        · refine J_aload_n dX8_verify_55 1 rfl ?_
          refine J_getR fd_8_3 w_353 rfl dX8_verify_56 (fun r13 => ?_)
          refine J_iconst (v := 0) dX8_verify_59 (by decide) ?_
          refine J_aload_n dX8_verify_60 0 rfl ?_
          refine J_getI fd_2_2 w_422 rfl dX8_verify_61 ?_
          refine J_aload_n dX8_verify_64 1 rfl ?_
          refine J_getR fd_8_7 w_347 rfl dX8_verify_65 (fun r15 => ?_)
          refine J_callVv (okX5_treeOf G l _ _ _ _ _) mkX5_treeOf _ _ rfl w_417 w_306 w_307 ⟨by decide, by decide⟩ rfl (Nat.le_of_ble_eq_true rfl) dX8_verify_68 (fun _u17 M16 => ?_)
          refine J_aload_n dX8_verify_71 1 rfl ?_
          refine J_getR fd_8_7 w_347 rfl dX8_verify_72 (fun r18 => ?_)
          refine J_aload_n dX8_verify_75 0 rfl ?_
          refine J_getR fd_2_1 w_425 rfl dX8_verify_76 (fun r19 => ?_)
          refine J_callSi (okX8_sameHash G l _ _ _) mkX8_sameHash w_427 w_338 ⟨by decide, by decide⟩ rfl (Nat.le_of_ble_eq_true rfl) dX8_verify_79 (fun v21 M20 => ?_)
          refine J_if_eq (tgt := 89) dX8_verify_82 (by decide) ?_ ?_
          · refine J_iconst (v := 2) dX8_verify_89 (by decide) ?_
            refine J_sub [] rfl ?_
            exact jX8_verify_90 G l   _ _
          · refine J_iconst (v := 0) dX8_verify_85 (by decide) ?_
            refine J_goto (tgt := 90) dX8_verify_86 (by decide) ?_
            refine J_sub [] rfl ?_
            exact jX8_verify_90 G l   _ _
        · refine J_iconst (v := 1) dX8_verify_53 (by decide) ?_
          exact J_iret dX8_verify_54
      · refine J_sub [] rfl ?_
        exact jX8_verify_23 G l    _
theorem okX8_verify (G : Gx) (l : Launch) (l0 : Nat) (l1 : Int32) (M : Mem) : Con G l yX8_verify cX8_verify 3 (some .int) 6 151 (fun v : Int32 => some (.int v)) [.ref (adr G l0), .int l1] M (fX8_verify l0 l1 M) := con_of (own := RX8) (nm := "verify") (by decide +kernel) rfl rfl (Nat.le_of_ble_eq_true rfl) (jX8_verify G l l0 l1 M)
theorem mkX8_verify : MOk yX8_verify cX8_verify 3 (some .int) 1 := ⟨w_428, tb1 (List.mem_of_getElem? (i := 1) rfl) rfl, by decide +kernel, by decide +kernel, by decide +kernel⟩
-- X8_path
def fX8_path_20   (M : Mem) : Option (Int32 × Mem) := some ((-1 : Int32), M)
set_option maxHeartbeats 4000000 in
set_option maxRecDepth 100000 in
theorem jX8_path_20 (G : Gx) (l : Launch)    (M : Mem) : J G l cX8_path 3 RX8 (some .int) "path" 7 176 (QM G (fun v : Int32 => some (.int v))) 20 [] [] M (fX8_path_20   M) := by
  unfold fX8_path_20
  refine J_iconst (v := -1) dX8_path_20 (by decide) ?_
  exact J_iret dX8_path_21
def fX8_path (l0 : Nat) (l1 : Int32) (l2 : Int32) (M : Mem) : Option (Int32 × Mem) := (if l1 < 0 then fX8_path_20   M else (if l2 ≤ l1 then fX8_path_20   M else (gR M 8 3 l0 fun r1 => (gI M 5 2 r1 fun v2 => (if l2 ≤ v2 then (gR M 8 5 l0 fun r3 => (gR M 8 3 l0 fun r4 => (cV M 7 r3 (fX7_make r3 r4 (0 : Int32) l1 l2 M) fun _u6 M5 => (gR M5 8 5 l0 fun r7 => (gI M5 7 1 r7 fun v8 => some (v8, M5)))))) else fX8_path_20   M)))))
set_option maxHeartbeats 4000000 in
set_option maxRecDepth 100000 in
theorem jX8_path (G : Gx) (l : Launch) (l0 : Nat) (l1 : Int32) (l2 : Int32) (M : Mem) : J G l cX8_path 3 RX8 (some .int) "path" 7 176 (QM G (fun v : Int32 => some (.int v))) 0 [(0, .ref (adr G l0)), (1, .int l1), (2, .int l2)] [] M (fX8_path l0 l1 l2 M) := by
  unfold fX8_path
  refine J_iload_n dX8_path_0 1 rfl ?_
  refine J_if_lt (tgt := 20) dX8_path_1 (by decide) ?_ ?_
  · refine J_sub [] rfl ?_
    exact jX8_path_20 G l    _
  · refine J_iload_n dX8_path_4 1 rfl ?_
    refine J_iload_n dX8_path_5 2 rfl ?_
    refine J_icmp_ge (tgt := 20) dX8_path_6 (by decide) ?_ ?_
    · refine J_sub [] rfl ?_
      exact jX8_path_20 G l    _
    · refine J_iload_n dX8_path_9 2 rfl ?_
      refine J_aload_n dX8_path_10 0 rfl ?_
      refine J_getR fd_8_3 w_353 rfl dX8_path_11 (fun r1 => ?_)
      refine J_getI fd_5_2 w_412 rfl dX8_path_14 ?_
      refine J_icmp_le (tgt := 22) dX8_path_17 (by decide) ?_ ?_
      · refine J_aload_n dX8_path_22 0 rfl ?_
        refine J_getR fd_8_5 w_343 rfl dX8_path_23 (fun r3 => ?_)
        refine J_aload_n dX8_path_26 0 rfl ?_
        refine J_getR fd_8_3 w_353 rfl dX8_path_27 (fun r4 => ?_)
        refine J_iconst (v := 0) dX8_path_30 (by decide) ?_
        refine J_iload_n dX8_path_31 1 rfl ?_
        refine J_iload_n dX8_path_32 2 rfl ?_
        refine J_callVv (okX7_make G l _ _ _ _ _ _) mkX7_make _ _ rfl w_429 w_430 w_431 ⟨by decide, by decide⟩ rfl (Nat.le_of_ble_eq_true rfl) dX8_path_33 (fun _u6 M5 => ?_)
        refine J_aload_n dX8_path_36 0 rfl ?_
        refine J_getR fd_8_5 w_343 rfl dX8_path_37 (fun r7 => ?_)
        refine J_getI fd_7_1 w_432 rfl dX8_path_40 ?_
        exact J_iret dX8_path_43
      · refine J_sub [] rfl ?_
        exact jX8_path_20 G l    _
theorem okX8_path (G : Gx) (l : Launch) (l0 : Nat) (l1 : Int32) (l2 : Int32) (M : Mem) : Con G l yX8_path cX8_path 3 (some .int) 7 176 (fun v : Int32 => some (.int v)) [.ref (adr G l0), .int l1, .int l2] M (fX8_path l0 l1 l2 M) := con_of (own := RX8) (nm := "path") (by decide +kernel) rfl rfl (Nat.le_of_ble_eq_true rfl) (jX8_path G l l0 l1 l2 M)
theorem mkX8_path : MOk yX8_path cX8_path 3 (some .int) 2 := ⟨w_433, tb1 (List.mem_of_getElem? (i := 1) rfl) rfl, by decide +kernel, by decide +kernel, by decide +kernel⟩
-- X8_proof
def fX8_proof_20   (M : Mem) : Option (Int32 × Mem) := some ((-1 : Int32), M)
set_option maxHeartbeats 4000000 in
set_option maxRecDepth 100000 in
theorem jX8_proof_20 (G : Gx) (l : Launch)    (M : Mem) : J G l cX8_proof 3 RX8 (some .int) "proof" 7 176 (QM G (fun v : Int32 => some (.int v))) 20 [] [] M (fX8_proof_20   M) := by
  unfold fX8_proof_20
  refine J_iconst (v := -1) dX8_proof_20 (by decide) ?_
  exact J_iret dX8_proof_21
def fX8_proof (l0 : Nat) (l1 : Int32) (l2 : Int32) (M : Mem) : Option (Int32 × Mem) := (if l1 ≤ 0 then fX8_proof_20   M else (if l2 ≤ l1 then fX8_proof_20   M else (gR M 8 3 l0 fun r1 => (gI M 5 2 r1 fun v2 => (if l2 ≤ v2 then (gR M 8 5 l0 fun r3 => (gR M 8 3 l0 fun r4 => (cV M 7 r3 (fX7_make r3 r4 (1 : Int32) l1 l2 M) fun _u6 M5 => (gR M5 8 5 l0 fun r7 => (gI M5 7 1 r7 fun v8 => some (v8, M5)))))) else fX8_proof_20   M)))))
set_option maxHeartbeats 4000000 in
set_option maxRecDepth 100000 in
theorem jX8_proof (G : Gx) (l : Launch) (l0 : Nat) (l1 : Int32) (l2 : Int32) (M : Mem) : J G l cX8_proof 3 RX8 (some .int) "proof" 7 176 (QM G (fun v : Int32 => some (.int v))) 0 [(0, .ref (adr G l0)), (1, .int l1), (2, .int l2)] [] M (fX8_proof l0 l1 l2 M) := by
  unfold fX8_proof
  refine J_iload_n dX8_proof_0 1 rfl ?_
  refine J_if_le (tgt := 20) dX8_proof_1 (by decide) ?_ ?_
  · refine J_sub [] rfl ?_
    exact jX8_proof_20 G l    _
  · refine J_iload_n dX8_proof_4 1 rfl ?_
    refine J_iload_n dX8_proof_5 2 rfl ?_
    refine J_icmp_ge (tgt := 20) dX8_proof_6 (by decide) ?_ ?_
    · refine J_sub [] rfl ?_
      exact jX8_proof_20 G l    _
    · refine J_iload_n dX8_proof_9 2 rfl ?_
      refine J_aload_n dX8_proof_10 0 rfl ?_
      refine J_getR fd_8_3 w_353 rfl dX8_proof_11 (fun r1 => ?_)
      refine J_getI fd_5_2 w_412 rfl dX8_proof_14 ?_
      refine J_icmp_le (tgt := 22) dX8_proof_17 (by decide) ?_ ?_
      · refine J_aload_n dX8_proof_22 0 rfl ?_
        refine J_getR fd_8_5 w_343 rfl dX8_proof_23 (fun r3 => ?_)
        refine J_aload_n dX8_proof_26 0 rfl ?_
        refine J_getR fd_8_3 w_353 rfl dX8_proof_27 (fun r4 => ?_)
        refine J_iconst (v := 1) dX8_proof_30 (by decide) ?_
        refine J_iload_n dX8_proof_31 1 rfl ?_
        refine J_iload_n dX8_proof_32 2 rfl ?_
        refine J_callVv (okX7_make G l _ _ _ _ _ _) mkX7_make _ _ rfl w_429 w_430 w_431 ⟨by decide, by decide⟩ rfl (Nat.le_of_ble_eq_true rfl) dX8_proof_33 (fun _u6 M5 => ?_)
        refine J_aload_n dX8_proof_36 0 rfl ?_
        refine J_getR fd_8_5 w_343 rfl dX8_proof_37 (fun r7 => ?_)
        refine J_getI fd_7_1 w_432 rfl dX8_proof_40 ?_
        exact J_iret dX8_proof_43
      · refine J_sub [] rfl ?_
        exact jX8_proof_20 G l    _
theorem okX8_proof (G : Gx) (l : Launch) (l0 : Nat) (l1 : Int32) (l2 : Int32) (M : Mem) : Con G l yX8_proof cX8_proof 3 (some .int) 7 176 (fun v : Int32 => some (.int v)) [.ref (adr G l0), .int l1, .int l2] M (fX8_proof l0 l1 l2 M) := con_of (own := RX8) (nm := "proof") (by decide +kernel) rfl rfl (Nat.le_of_ble_eq_true rfl) (jX8_proof G l l0 l1 l2 M)
theorem mkX8_proof : MOk yX8_proof cX8_proof 3 (some .int) 2 := ⟨w_434, tb1 (List.mem_of_getElem? (i := 1) rfl) rfl, by decide +kernel, by decide +kernel, by decide +kernel⟩
-- X8_step
def fX8_step_25   (M : Mem) : Option (Int32 × Mem) := some ((-1 : Int32), M)
set_option maxHeartbeats 4000000 in
set_option maxRecDepth 100000 in
theorem jX8_step_25 (G : Gx) (l : Launch)    (M : Mem) : J G l cX8_step 3 RX8 (some .int) "step" 1 21 (QM G (fun v : Int32 => some (.int v))) 25 [] [] M (fX8_step_25   M) := by
  unfold fX8_step_25
  refine J_iconst (v := -1) dX8_step_25 (by decide) ?_
  exact J_iret dX8_step_26
def fX8_step (l0 : Nat) (l1 : Int32) (l2 : Int32) (M : Mem) : Option (Int32 × Mem) := (if l1 < 0 then fX8_step_25   M else (gR M 8 5 l0 fun r1 => (gI M 7 1 r1 fun v2 => (if v2 ≤ l1 then fX8_step_25   M else (if l2 < 0 then fX8_step_25   M else (if l2 < (32 : Int32) then (gR M 8 5 l0 fun r3 => (gR M 7 0 r3 fun r4 => (rR M (.array .int) r4 l1 fun r5 => (bd (fX8_byteOf r5 l2 M) fun v7 M6 => some (v7, M6))))) else fX8_step_25   M))))))
set_option maxHeartbeats 4000000 in
set_option maxRecDepth 100000 in
theorem jX8_step (G : Gx) (l : Launch) (l0 : Nat) (l1 : Int32) (l2 : Int32) (M : Mem) : J G l cX8_step 3 RX8 (some .int) "step" 1 21 (QM G (fun v : Int32 => some (.int v))) 0 [(0, .ref (adr G l0)), (1, .int l1), (2, .int l2)] [] M (fX8_step l0 l1 l2 M) := by
  unfold fX8_step
  refine J_iload_n dX8_step_0 1 rfl ?_
  refine J_if_lt (tgt := 25) dX8_step_1 (by decide) ?_ ?_
  · refine J_sub [] rfl ?_
    exact jX8_step_25 G l    _
  · refine J_iload_n dX8_step_4 1 rfl ?_
    refine J_aload_n dX8_step_5 0 rfl ?_
    refine J_getR fd_8_5 w_343 rfl dX8_step_6 (fun r1 => ?_)
    refine J_getI fd_7_1 w_432 rfl dX8_step_9 ?_
    refine J_icmp_ge (tgt := 25) dX8_step_12 (by decide) ?_ ?_
    · refine J_sub [] rfl ?_
      exact jX8_step_25 G l    _
    · refine J_iload_n dX8_step_15 2 rfl ?_
      refine J_if_lt (tgt := 25) dX8_step_16 (by decide) ?_ ?_
      · refine J_sub [] rfl ?_
        exact jX8_step_25 G l    _
      · refine J_iload_n dX8_step_19 2 rfl ?_
        refine J_bipush (v := 32) dX8_step_20 (by decide) ?_
        refine J_icmp_lt (tgt := 27) dX8_step_22 (by decide) ?_ ?_
        · refine J_aload_n dX8_step_27 0 rfl ?_
          refine J_getR fd_8_5 w_343 rfl dX8_step_28 (fun r3 => ?_)
          refine J_getR fd_7_0 w_435 rfl dX8_step_31 (fun r4 => ?_)
          refine J_iload_n dX8_step_34 1 rfl ?_
          refine J_aaldI dX8_step_35 (fun r5 => ?_)
          refine J_iload_n dX8_step_36 2 rfl ?_
          refine J_callSi (okX8_byteOf G l _ _ _) mkX8_byteOf w_416 w_245 ⟨by decide, by decide⟩ rfl (Nat.le_of_ble_eq_true rfl) dX8_step_37 (fun v7 M6 => ?_)
          exact J_iret dX8_step_40
        · refine J_sub [] rfl ?_
          exact jX8_step_25 G l    _
theorem okX8_step (G : Gx) (l : Launch) (l0 : Nat) (l1 : Int32) (l2 : Int32) (M : Mem) : Con G l yX8_step cX8_step 3 (some .int) 1 21 (fun v : Int32 => some (.int v)) [.ref (adr G l0), .int l1, .int l2] M (fX8_step l0 l1 l2 M) := con_of (own := RX8) (nm := "step") (by decide +kernel) rfl rfl (Nat.le_of_ble_eq_true rfl) (jX8_step G l l0 l1 l2 M)
theorem mkX8_step : MOk yX8_step cX8_step 3 (some .int) 2 := ⟨w_436, tb1 (List.mem_of_getElem? (i := 1) rfl) rfl, by decide +kernel, by decide +kernel, by decide +kernel⟩
-- X8_isHeadOf
def fX8_isHeadOf_28  (s0 : Int32) (M : Mem) : Option (Int32 × Mem) := retZ s0 (some (s0, M))
set_option maxHeartbeats 4000000 in
set_option maxRecDepth 100000 in
theorem jX8_isHeadOf_28 (G : Gx) (l : Launch)   (s0 : Int32) (M : Mem) : J G l cX8_isHeadOf 3 RX8 (some .boolean) "isHeadOf" 0 0 (QM G (fun v : Int32 => some (.int v))) 28 [] [.int s0] M (fX8_isHeadOf_28  s0 M) := by
  unfold fX8_isHeadOf_28
  exact J_zret dX8_isHeadOf_28
def fX8_isHeadOf_27   (M : Mem) : Option (Int32 × Mem) := fX8_isHeadOf_28  (0 : Int32) M
set_option maxHeartbeats 4000000 in
set_option maxRecDepth 100000 in
theorem jX8_isHeadOf_27 (G : Gx) (l : Launch)    (M : Mem) : J G l cX8_isHeadOf 3 RX8 (some .boolean) "isHeadOf" 0 0 (QM G (fun v : Int32 => some (.int v))) 27 [] [] M (fX8_isHeadOf_27   M) := by
  unfold fX8_isHeadOf_27
  refine J_iconst (v := 0) dX8_isHeadOf_27 (by decide) ?_
  refine J_sub [] rfl ?_
  exact jX8_isHeadOf_28 G l   _ _
def fX8_isHeadOf (l0 : Nat) (l1 : Int32) (l2 : Int32) (M : Mem) : Option (Int32 × Mem) := (if l1 < 0 then fX8_isHeadOf_27   M else (if (8 : Int32) ≤ l1 then fX8_isHeadOf_27   M else (gR M 8 4 l0 fun r1 => (rR M (.object "ChainBooks$Head") r1 l1 fun r2 => (gI M 2 2 r2 fun v3 => (if v3 = l2 then fX8_isHeadOf_28  (1 : Int32) M else fX8_isHeadOf_27   M))))))
set_option maxHeartbeats 4000000 in
set_option maxRecDepth 100000 in
theorem jX8_isHeadOf (G : Gx) (l : Launch) (l0 : Nat) (l1 : Int32) (l2 : Int32) (M : Mem) : J G l cX8_isHeadOf 3 RX8 (some .boolean) "isHeadOf" 0 0 (QM G (fun v : Int32 => some (.int v))) 0 [(0, .ref (adr G l0)), (1, .int l1), (2, .int l2)] [] M (fX8_isHeadOf l0 l1 l2 M) := by
  unfold fX8_isHeadOf
  refine J_iload_n dX8_isHeadOf_0 1 rfl ?_
  refine J_if_lt (tgt := 27) dX8_isHeadOf_1 (by decide) ?_ ?_
  · refine J_sub [] rfl ?_
    exact jX8_isHeadOf_27 G l    _
  · refine J_iload_n dX8_isHeadOf_4 1 rfl ?_
    refine J_bipush (v := 8) dX8_isHeadOf_5 (by decide) ?_
    refine J_icmp_ge (tgt := 27) dX8_isHeadOf_7 (by decide) ?_ ?_
    · refine J_sub [] rfl ?_
      exact jX8_isHeadOf_27 G l    _
    · refine J_aload_n dX8_isHeadOf_10 0 rfl ?_
      refine J_getR fd_8_4 w_348 rfl dX8_isHeadOf_11 (fun r1 => ?_)
      refine J_iload_n dX8_isHeadOf_14 1 rfl ?_
      refine J_aaldO dX8_isHeadOf_15 (fun r2 => ?_)
      refine J_getI fd_2_2 w_422 rfl dX8_isHeadOf_16 ?_
      refine J_iload_n dX8_isHeadOf_19 2 rfl ?_
      refine J_icmp_ne (tgt := 27) dX8_isHeadOf_20 (by decide) ?_ ?_
      · refine J_sub [] rfl ?_
        exact jX8_isHeadOf_27 G l    _
      · refine J_iconst (v := 1) dX8_isHeadOf_23 (by decide) ?_
        refine J_goto (tgt := 28) dX8_isHeadOf_24 (by decide) ?_
        refine J_sub [] rfl ?_
        exact jX8_isHeadOf_28 G l   _ _
theorem okX8_isHeadOf (G : Gx) (l : Launch) (l0 : Nat) (l1 : Int32) (l2 : Int32) (M : Mem) : Con G l yX8_isHeadOf cX8_isHeadOf 3 (some .boolean) 0 0 (fun v : Int32 => some (.int v)) [.ref (adr G l0), .int l1, .int l2] M (fX8_isHeadOf l0 l1 l2 M) := con_of (own := RX8) (nm := "isHeadOf") (by decide +kernel) rfl rfl (Nat.le_of_ble_eq_true rfl) (jX8_isHeadOf G l l0 l1 l2 M)
theorem mkX8_isHeadOf : MOk yX8_isHeadOf cX8_isHeadOf 3 (some .boolean) 2 := ⟨w_439, tb1 (List.mem_of_getElem? (i := 1) rfl) rfl, by decide +kernel, by decide +kernel, by decide +kernel⟩
-- X8_oneIf
def fX8_oneIf_9  (s0 : Int32) (M : Mem) : Option (Int32 × Mem) := some (s0, M)
set_option maxHeartbeats 4000000 in
set_option maxRecDepth 100000 in
theorem jX8_oneIf_9 (G : Gx) (l : Launch)   (s0 : Int32) (M : Mem) : J G l cX8_oneIf 1 RX8 (some .int) "oneIf" 0 0 (QM G (fun v : Int32 => some (.int v))) 9 [] [.int s0] M (fX8_oneIf_9  s0 M) := by
  unfold fX8_oneIf_9
  exact J_iret dX8_oneIf_9
def fX8_oneIf (l0 : Int32) (M : Mem) : Option (Int32 × Mem) := (if l0 = 0 then fX8_oneIf_9  (0 : Int32) M else fX8_oneIf_9  (1 : Int32) M)
set_option maxHeartbeats 4000000 in
set_option maxRecDepth 100000 in
theorem jX8_oneIf (G : Gx) (l : Launch) (l0 : Int32) (M : Mem) : J G l cX8_oneIf 1 RX8 (some .int) "oneIf" 0 0 (QM G (fun v : Int32 => some (.int v))) 0 [(0, .int l0)] [] M (fX8_oneIf l0 M) := by
  unfold fX8_oneIf
  refine J_iload_n dX8_oneIf_0 0 rfl ?_
  refine J_if_eq (tgt := 8) dX8_oneIf_1 (by decide) ?_ ?_
  · refine J_iconst (v := 0) dX8_oneIf_8 (by decide) ?_
    refine J_sub [] rfl ?_
    exact jX8_oneIf_9 G l   _ _
  · refine J_iconst (v := 1) dX8_oneIf_4 (by decide) ?_
    refine J_goto (tgt := 9) dX8_oneIf_5 (by decide) ?_
    refine J_sub [] rfl ?_
    exact jX8_oneIf_9 G l   _ _
theorem okX8_oneIf (G : Gx) (l : Launch) (l0 : Int32) (M : Mem) : Con G l yX8_oneIf cX8_oneIf 1 (some .int) 0 0 (fun v : Int32 => some (.int v)) [.int l0] M (fX8_oneIf l0 M) := con_of (own := RX8) (nm := "oneIf") (by decide +kernel) rfl rfl (Nat.le_of_ble_eq_true rfl) (jX8_oneIf G l l0 M)
theorem mkX8_oneIf : MOk yX8_oneIf cX8_oneIf 1 (some .int) 1 := ⟨w_448, tb1 (List.mem_of_getElem? (i := 1) rfl) rfl, by decide +kernel, by decide +kernel, by decide +kernel⟩
-- X8_leads
def fX8_leads_78  (s0 : Int32) (M : Mem) : Option (Int32 × Mem) := some (s0, M)
set_option maxHeartbeats 4000000 in
set_option maxRecDepth 100000 in
theorem jX8_leads_78 (G : Gx) (l : Launch)   (s0 : Int32) (M : Mem) : J G l cX8_leads 3 RX8 (some .int) "leads" 6 146 (QM G (fun v : Int32 => some (.int v))) 78 [] [.int s0] M (fX8_leads_78  s0 M) := by
  unfold fX8_leads_78
  exact J_iret dX8_leads_78
def fX8_leads_25   (M : Mem) : Option (Int32 × Mem) := some ((-1 : Int32), M)
set_option maxHeartbeats 4000000 in
set_option maxRecDepth 100000 in
theorem jX8_leads_25 (G : Gx) (l : Launch)    (M : Mem) : J G l cX8_leads 3 RX8 (some .int) "leads" 6 146 (QM G (fun v : Int32 => some (.int v))) 25 [] [] M (fX8_leads_25   M) := by
  unfold fX8_leads_25
  refine J_iconst (v := -1) dX8_leads_25 (by decide) ?_
  exact J_iret dX8_leads_26
def fX8_leads (l0 : Nat) (l1 : Int32) (l2 : Int32) (M : Mem) : Option (Int32 × Mem) := (gR M 8 5 l0 fun r1 => (gI M 7 2 r1 fun v2 => (if v2 = 0 then fX8_leads_25   M else (gR M 8 5 l0 fun r3 => (gI M 7 5 r3 fun v4 => (cV M 8 l0 (fX8_isHeadOf l0 l2 v4 M) fun v6 M5 => (if v6 = 0 then fX8_leads_25   M5 else (gR M5 8 5 l0 fun r7 => (gI M5 7 3 r7 fun v8 => (if v8 = 0 then (gR M5 8 5 l0 fun r9 => (gR M5 8 3 l0 fun r10 => (gR M5 8 5 l0 fun r11 => (gI M5 7 4 r11 fun v12 => (cV M5 5 r10 (fX5_leafOf r10 v12 M5) fun v14 M13 => (gR M13 8 4 l0 fun r15 => (rR M13 (.object "ChainBooks$Head") r15 l2 fun r16 => (cV M13 7 r9 (fX7_reaches r9 v14 r16 M13) fun v18 M17 => (bd (fX8_oneIf v18 M17) fun v20 M19 => some (v20, M19)))))))))) else (gR M5 8 5 l0 fun r21 => (gI M5 7 4 r21 fun v22 => (cV M5 8 l0 (fX8_isHeadOf l0 l1 v22 M5) fun v24 M23 => (if v24 = 0 then fX8_leads_78  (-1 : Int32) M23 else (gR M23 8 5 l0 fun r25 => (gR M23 8 4 l0 fun r26 => (rR M23 (.object "ChainBooks$Head") r26 l1 fun r27 => (gR M23 8 4 l0 fun r28 => (rR M23 (.object "ChainBooks$Head") r28 l2 fun r29 => (cV M23 7 r25 (fX7_joins r25 r27 r29 M23) fun v31 M30 => (bd (fX8_oneIf v31 M30) fun v33 M32 => fX8_leads_78  v33 M32)))))))))))))))))))))
set_option maxHeartbeats 4000000 in
set_option maxRecDepth 100000 in
theorem jX8_leads (G : Gx) (l : Launch) (l0 : Nat) (l1 : Int32) (l2 : Int32) (M : Mem) : J G l cX8_leads 3 RX8 (some .int) "leads" 6 146 (QM G (fun v : Int32 => some (.int v))) 0 [(0, .ref (adr G l0)), (1, .int l1), (2, .int l2)] [] M (fX8_leads l0 l1 l2 M) := by
  unfold fX8_leads
  refine J_aload_n dX8_leads_0 0 rfl ?_
  refine J_getR fd_8_5 w_343 rfl dX8_leads_1 (fun r1 => ?_)
  refine J_getI fd_7_2 w_437 rfl dX8_leads_4 ?_
  refine J_if_eq (tgt := 25) dX8_leads_7 (by decide) ?_ ?_
  · refine J_sub [] rfl ?_
    exact jX8_leads_25 G l    _
  · refine J_aload_n dX8_leads_10 0 rfl ?_
    refine J_iload_n dX8_leads_11 2 rfl ?_
    refine J_aload_n dX8_leads_12 0 rfl ?_
    refine J_getR fd_8_5 w_343 rfl dX8_leads_13 (fun r3 => ?_)
    refine J_getI fd_7_5 w_438 rfl dX8_leads_16 ?_
    refine J_callVi (okX8_isHeadOf G l _ _ _ _) mkX8_isHeadOf _ _ rfl w_440 w_441 w_442 ⟨by decide, by decide⟩ rfl (Nat.le_of_ble_eq_true rfl) dX8_leads_19 (fun v6 M5 => ?_)
    refine J_if_ne (tgt := 27) dX8_leads_22 (by decide) ?_ ?_
    · refine J_aload_n dX8_leads_27 0 rfl ?_
      refine J_getR fd_8_5 w_343 rfl dX8_leads_28 (fun r7 => ?_)
      refine J_getI fd_7_3 w_443 rfl dX8_leads_31 ?_
      refine J_if_eq (tgt := 79) dX8_leads_34 (by decide) ?_ ?_
      · refine J_aload_n dX8_leads_79 0 rfl ?_
        refine J_getR fd_8_5 w_343 rfl dX8_leads_80 (fun r9 => ?_)
        refine J_aload_n dX8_leads_83 0 rfl ?_
        refine J_getR fd_8_3 w_353 rfl dX8_leads_84 (fun r10 => ?_)
        refine J_aload_n dX8_leads_87 0 rfl ?_
        refine J_getR fd_8_5 w_343 rfl dX8_leads_88 (fun r11 => ?_)
        refine J_getI fd_7_4 w_444 rfl dX8_leads_91 ?_
        refine J_callVr (okX5_leafOf G l _ _ _) mkX5_leafOf _ _ rfl w_418 w_419 w_420 ⟨by decide, by decide⟩ rfl (Nat.le_of_ble_eq_true rfl) dX8_leads_94 (fun v14 M13 => ?_)
        refine J_aload_n dX8_leads_97 0 rfl ?_
        refine J_getR fd_8_4 w_348 rfl dX8_leads_98 (fun r15 => ?_)
        refine J_iload_n dX8_leads_101 2 rfl ?_
        refine J_aaldO dX8_leads_102 (fun r16 => ?_)
        refine J_callVi (okX7_reaches G l _ _ _ _) mkX7_reaches _ _ rfl w_445 w_446 w_447 ⟨by decide, by decide⟩ rfl (Nat.le_of_ble_eq_true rfl) dX8_leads_103 (fun v18 M17 => ?_)
        refine J_callSi (okX8_oneIf G l _ _) mkX8_oneIf w_450 w_449 ⟨by decide, by decide⟩ rfl (Nat.le_of_ble_eq_true rfl) dX8_leads_106 (fun v20 M19 => ?_)
        exact J_iret dX8_leads_109
      · refine J_aload_n dX8_leads_37 0 rfl ?_
        refine J_iload_n dX8_leads_38 1 rfl ?_
        refine J_aload_n dX8_leads_39 0 rfl ?_
        refine J_getR fd_8_5 w_343 rfl dX8_leads_40 (fun r21 => ?_)
        refine J_getI fd_7_4 w_444 rfl dX8_leads_43 ?_
        refine J_callVi (okX8_isHeadOf G l _ _ _ _) mkX8_isHeadOf _ _ rfl w_440 w_441 w_442 ⟨by decide, by decide⟩ rfl (Nat.le_of_ble_eq_true rfl) dX8_leads_46 (fun v24 M23 => ?_)
        refine J_if_eq (tgt := 77) dX8_leads_49 (by decide) ?_ ?_
        · refine J_iconst (v := -1) dX8_leads_77 (by decide) ?_
          refine J_sub [] rfl ?_
          exact jX8_leads_78 G l   _ _
        · refine J_aload_n dX8_leads_52 0 rfl ?_
          refine J_getR fd_8_5 w_343 rfl dX8_leads_53 (fun r25 => ?_)
          refine J_aload_n dX8_leads_56 0 rfl ?_
          refine J_getR fd_8_4 w_348 rfl dX8_leads_57 (fun r26 => ?_)
          refine J_iload_n dX8_leads_60 1 rfl ?_
          refine J_aaldO dX8_leads_61 (fun r27 => ?_)
          refine J_aload_n dX8_leads_62 0 rfl ?_
          refine J_getR fd_8_4 w_348 rfl dX8_leads_63 (fun r28 => ?_)
          refine J_iload_n dX8_leads_66 2 rfl ?_
          refine J_aaldO dX8_leads_67 (fun r29 => ?_)
          refine J_callVi (okX7_joins G l _ _ _ _) mkX7_joins _ _ rfl w_451 w_452 w_453 ⟨by decide, by decide⟩ rfl (Nat.le_of_ble_eq_true rfl) dX8_leads_68 (fun v31 M30 => ?_)
          refine J_callSi (okX8_oneIf G l _ _) mkX8_oneIf w_450 w_449 ⟨by decide, by decide⟩ rfl (Nat.le_of_ble_eq_true rfl) dX8_leads_71 (fun v33 M32 => ?_)
          refine J_goto (tgt := 78) dX8_leads_74 (by decide) ?_
          refine J_sub [] rfl ?_
          exact jX8_leads_78 G l   _ _
    · refine J_sub [] rfl ?_
      exact jX8_leads_25 G l    _
theorem okX8_leads (G : Gx) (l : Launch) (l0 : Nat) (l1 : Int32) (l2 : Int32) (M : Mem) : Con G l yX8_leads cX8_leads 3 (some .int) 6 146 (fun v : Int32 => some (.int v)) [.ref (adr G l0), .int l1, .int l2] M (fX8_leads l0 l1 l2 M) := con_of (own := RX8) (nm := "leads") (by decide +kernel) rfl rfl (Nat.le_of_ble_eq_true rfl) (jX8_leads G l l0 l1 l2 M)
theorem mkX8_leads : MOk yX8_leads cX8_leads 3 (some .int) 2 := ⟨w_454, tb1 (List.mem_of_getElem? (i := 1) rfl) rfl, by decide +kernel, by decide +kernel, by decide +kernel⟩
-- X8_audit
def fX8_audit_25  : Nat → Nat → Int32 → Mem → Option (Int32 × Mem)
  | 0, _, _, _ => none
  | n + 1, l0, l2, M => (gR M 8 3 l0 fun r1 => (cV M 5 r1 (fX5_size r1 M) fun v3 M2 => (if v3 ≤ l2 then some ((-1 : Int32), M2) else (gR M2 8 3 l0 fun r4 => (gR M2 5 0 r4 fun r5 => (rI M2 .byte r5 l2 fun v6 => (gR M2 8 0 l0 fun r7 => (gR M2 3 5 r7 fun r8 => (rI M2 .byte r8 l2 fun v9 => (if v6 = v9 then fX8_audit_25  n l0 (l2 + (1 : Int32)) M2 else (gR M2 8 3 l0 fun r10 => (cV M2 5 r10 (fX5_entryWith r10 l2 M2) fun v12 M11 => some (v12, M11)))))))))))))
set_option maxHeartbeats 4000000 in
set_option maxRecDepth 100000 in
theorem jX8_audit_25 (G : Gx) (l : Launch)   : ∀ (n : Nat) (l0 : Nat) (l2 : Int32) (M : Mem), J G l cX8_audit 3 RX8 (some .int) "audit" 7 172 (QM G (fun v : Int32 => some (.int v))) 25 [(0, .ref (adr G l0)), (2, .int l2)] [] M (fX8_audit_25  n l0 l2 M) := by
  intro n
  induction n with
  | zero => intro l0 l2 M; exact J_none
  | succ n ih =>
    intro l0 l2 M
    rw [fX8_audit_25]
    refine J_iload_n dX8_audit_25 1 rfl ?_
    refine J_aload_n dX8_audit_26 0 rfl ?_
    refine J_getR fd_8_3 w_353 rfl dX8_audit_27 (fun r1 => ?_)
    refine J_callVi (okX5_size G l _ _) mkX5_size _ _ rfl w_405 w_46 w_47 ⟨by decide, by decide⟩ rfl (Nat.le_of_ble_eq_true rfl) dX8_audit_30 (fun v3 M2 => ?_)
    refine J_icmp_ge (tgt := 72) dX8_audit_33 (by decide) ?_ ?_
    · refine J_iconst (v := -1) dX8_audit_72 (by decide) ?_
      exact J_iret dX8_audit_73
    · refine J_aload_n dX8_audit_36 0 rfl ?_
      refine J_getR fd_8_3 w_353 rfl dX8_audit_37 (fun r4 => ?_)
      refine J_getR fd_5_0 w_406 rfl dX8_audit_40 (fun r5 => ?_)
      refine J_iload_n dX8_audit_43 1 rfl ?_
      refine J_bald dX8_audit_44 ?_
      refine J_aload_n dX8_audit_45 0 rfl ?_
      refine J_getR fd_8_0 w_357 rfl dX8_audit_46 (fun r7 => ?_)
      refine J_getR fd_3_5 w_455 rfl dX8_audit_49 (fun r8 => ?_)
      refine J_iload_n dX8_audit_52 1 rfl ?_
      refine J_bald dX8_audit_53 ?_
      refine J_icmp_eq (tgt := 66) dX8_audit_54 (by decide) ?_ ?_
      · refine J_iincK (z := 1) (lv' := [(2, .int _), (0, .ref _)]) dX8_audit_66 1 rfl (by decide) (by decide) rfl ?_
        refine J_goto (tgt := 25) dX8_audit_69 (by decide) ?_
        refine J_sub [1, 0] rfl ?_
        exact ih _ _ _
      · refine J_aload_n dX8_audit_57 0 rfl ?_
        refine J_getR fd_8_3 w_353 rfl dX8_audit_58 (fun r10 => ?_)
        refine J_iload_n dX8_audit_61 1 rfl ?_
        refine J_callVi (okX5_entryWith G l _ _ _) mkX5_entryWith _ _ rfl w_456 w_228 w_229 ⟨by decide, by decide⟩ rfl (Nat.le_of_ble_eq_true rfl) dX8_audit_62 (fun v12 M11 => ?_)
        exact J_iret dX8_audit_65
def fX8_audit (l0 : Nat) (M : Mem) : Option (Int32 × Mem) := (gR M 8 6 l0 fun r1 => (gR M 8 3 l0 fun r2 => (gR M 8 2 l0 fun r3 => (cV M 0 r1 (fX0_firstBad r1 r2 r3 M) fun v5 M4 => (if v5 = (-1 : Int32) then fX8_audit_25  FU l0 (0 : Int32) M4 else some (v5, M4))))))
set_option maxHeartbeats 4000000 in
set_option maxRecDepth 100000 in
theorem jX8_audit (G : Gx) (l : Launch) (l0 : Nat) (M : Mem) : J G l cX8_audit 3 RX8 (some .int) "audit" 7 172 (QM G (fun v : Int32 => some (.int v))) 0 [(0, .ref (adr G l0))] [] M (fX8_audit l0 M) := by
  unfold fX8_audit
  refine J_aload_n dX8_audit_0 0 rfl ?_
  refine J_getR fd_8_6 w_346 rfl dX8_audit_1 (fun r1 => ?_)
  refine J_aload_n dX8_audit_4 0 rfl ?_
  refine J_getR fd_8_3 w_353 rfl dX8_audit_5 (fun r2 => ?_)
  refine J_aload_n dX8_audit_8 0 rfl ?_
  refine J_getR fd_8_2 w_354 rfl dX8_audit_9 (fun r3 => ?_)
  refine J_callVi (okX0_firstBad G l _ _ _ _) mkX0_firstBad _ _ rfl w_457 w_458 w_459 ⟨by decide, by decide⟩ rfl (Nat.le_of_ble_eq_true rfl) dX8_audit_12 (fun v5 M4 => ?_)
  refine J_istore_n (lv' := [(1, .int _), (0, .ref _)]) dX8_audit_15 (by decide) rfl ?_
  refine J_iload_n dX8_audit_16 0 rfl ?_
  refine J_iconst (v := -1) dX8_audit_17 (by decide) ?_
  refine J_icmp_eq (tgt := 23) dX8_audit_18 (by decide) ?_ ?_
  · refine J_iconst (v := 0) dX8_audit_23 (by decide) ?_
    refine J_istore_n (lv' := [(2, .int _), (1, .int _), (0, .ref _)]) dX8_audit_24 (by decide) rfl ?_
    refine J_sub [2, 0] rfl ?_
    exact jX8_audit_25 G l   FU _ _ _
  · refine J_iload_n dX8_audit_21 0 rfl ?_
    exact J_iret dX8_audit_22
theorem okX8_audit (G : Gx) (l : Launch) (l0 : Nat) (M : Mem) : Con G l yX8_audit cX8_audit 3 (some .int) 7 172 (fun v : Int32 => some (.int v)) [.ref (adr G l0)] M (fX8_audit l0 M) := con_of (own := RX8) (nm := "audit") (by decide +kernel) rfl rfl (Nat.le_of_ble_eq_true rfl) (jX8_audit G l l0 M)
theorem mkX8_audit : MOk yX8_audit cX8_audit 3 (some .int) 0 := ⟨w_460, tb1 (List.mem_of_getElem? (i := 1) rfl) rfl, by decide +kernel, by decide +kernel, by decide +kernel⟩
-- X8_alteredBytes
def fX8_alteredBytes_39 (k4 : Nat → Int32 → Int32 → Mem → Option (Int32 × Mem)) (l0 : Nat) (l1 : Int32) (l2 : Int32) (M : Mem) : Option (Int32 × Mem) := k4 l0 l1 (l2 + (1 : Int32)) M
set_option maxHeartbeats 4000000 in
set_option maxRecDepth 100000 in
theorem jX8_alteredBytes_39 (G : Gx) (l : Launch) (k4 : Nat → Int32 → Int32 → Mem → Option (Int32 × Mem)) (h4 : ∀ (l0 : Nat) (l1 : Int32) (l2 : Int32) (M : Mem), J G l cX8_alteredBytes 3 RX8 (some .int) "alteredBytes" 1 20 (QM G (fun v : Int32 => some (.int v))) 4 [(0, .ref (adr G l0)), (1, .int l1), (2, .int l2)] [] M (k4 l0 l1 l2 M)) (l0 : Nat) (l1 : Int32) (l2 : Int32) (M : Mem) : J G l cX8_alteredBytes 3 RX8 (some .int) "alteredBytes" 1 20 (QM G (fun v : Int32 => some (.int v))) 39 [(0, .ref (adr G l0)), (1, .int l1), (2, .int l2)] [] M (fX8_alteredBytes_39 k4 l0 l1 l2 M) := by
  unfold fX8_alteredBytes_39
  refine J_iincK (z := 1) (lv' := [(2, .int _), (0, .ref _), (1, .int _)]) dX8_alteredBytes_39 2 rfl (by decide) (by decide) rfl ?_
  refine J_goto (tgt := 4) dX8_alteredBytes_42 (by decide) ?_
  refine J_sub [1, 2, 0] rfl ?_
  exact h4 _ _ _ _
def fX8_alteredBytes_4  : Nat → Nat → Int32 → Int32 → Mem → Option (Int32 × Mem)
  | 0, _, _, _, _ => none
  | n + 1, l0, l1, l2, M => (gR M 8 3 l0 fun r1 => (cV M 5 r1 (fX5_size r1 M) fun v3 M2 => (if v3 ≤ l2 then some (l1, M2) else (gR M2 8 3 l0 fun r4 => (gR M2 5 0 r4 fun r5 => (rI M2 .byte r5 l2 fun v6 => (gR M2 8 0 l0 fun r7 => (gR M2 3 5 r7 fun r8 => (rI M2 .byte r8 l2 fun v9 => (if v6 = v9 then fX8_alteredBytes_39 (fX8_alteredBytes_4  n) l0 l1 l2 M2 else fX8_alteredBytes_39 (fX8_alteredBytes_4  n) l0 (l1 + (1 : Int32)) l2 M2))))))))))
set_option maxHeartbeats 4000000 in
set_option maxRecDepth 100000 in
theorem jX8_alteredBytes_4 (G : Gx) (l : Launch)   : ∀ (n : Nat) (l0 : Nat) (l1 : Int32) (l2 : Int32) (M : Mem), J G l cX8_alteredBytes 3 RX8 (some .int) "alteredBytes" 1 20 (QM G (fun v : Int32 => some (.int v))) 4 [(0, .ref (adr G l0)), (1, .int l1), (2, .int l2)] [] M (fX8_alteredBytes_4  n l0 l1 l2 M) := by
  intro n
  induction n with
  | zero => intro l0 l1 l2 M; exact J_none
  | succ n ih =>
    intro l0 l1 l2 M
    rw [fX8_alteredBytes_4]
    refine J_iload_n dX8_alteredBytes_4 2 rfl ?_
    refine J_aload_n dX8_alteredBytes_5 0 rfl ?_
    refine J_getR fd_8_3 w_353 rfl dX8_alteredBytes_6 (fun r1 => ?_)
    refine J_callVi (okX5_size G l _ _) mkX5_size _ _ rfl w_405 w_46 w_47 ⟨by decide, by decide⟩ rfl (Nat.le_of_ble_eq_true rfl) dX8_alteredBytes_9 (fun v3 M2 => ?_)
    refine J_icmp_ge (tgt := 45) dX8_alteredBytes_12 (by decide) ?_ ?_
    · refine J_iload_n dX8_alteredBytes_45 1 rfl ?_
      exact J_iret dX8_alteredBytes_46
    · refine J_aload_n dX8_alteredBytes_15 0 rfl ?_
      refine J_getR fd_8_3 w_353 rfl dX8_alteredBytes_16 (fun r4 => ?_)
      refine J_getR fd_5_0 w_406 rfl dX8_alteredBytes_19 (fun r5 => ?_)
      refine J_iload_n dX8_alteredBytes_22 2 rfl ?_
      refine J_bald dX8_alteredBytes_23 ?_
      refine J_aload_n dX8_alteredBytes_24 0 rfl ?_
      refine J_getR fd_8_0 w_357 rfl dX8_alteredBytes_25 (fun r7 => ?_)
      refine J_getR fd_3_5 w_455 rfl dX8_alteredBytes_28 (fun r8 => ?_)
      refine J_iload_n dX8_alteredBytes_31 2 rfl ?_
      refine J_bald dX8_alteredBytes_32 ?_
      refine J_icmp_eq (tgt := 39) dX8_alteredBytes_33 (by decide) ?_ ?_
      · refine J_sub [0, 1, 2] rfl ?_
        exact jX8_alteredBytes_39 G l _ ih _ _ _ _
      · refine J_iincK (z := 1) (lv' := [(1, .int _), (0, .ref _), (2, .int _)]) dX8_alteredBytes_36 1 rfl (by decide) (by decide) rfl ?_
        refine J_sub [1, 0, 2] rfl ?_
        exact jX8_alteredBytes_39 G l _ ih _ _ _ _
def fX8_alteredBytes (l0 : Nat) (M : Mem) : Option (Int32 × Mem) := fX8_alteredBytes_4  FU l0 (0 : Int32) (0 : Int32) M
set_option maxHeartbeats 4000000 in
set_option maxRecDepth 100000 in
theorem jX8_alteredBytes (G : Gx) (l : Launch) (l0 : Nat) (M : Mem) : J G l cX8_alteredBytes 3 RX8 (some .int) "alteredBytes" 1 20 (QM G (fun v : Int32 => some (.int v))) 0 [(0, .ref (adr G l0))] [] M (fX8_alteredBytes l0 M) := by
  unfold fX8_alteredBytes
  refine J_iconst (v := 0) dX8_alteredBytes_0 (by decide) ?_
  refine J_istore_n (lv' := [(1, .int _), (0, .ref _)]) dX8_alteredBytes_1 (by decide) rfl ?_
  refine J_iconst (v := 0) dX8_alteredBytes_2 (by decide) ?_
  refine J_istore_n (lv' := [(2, .int _), (1, .int _), (0, .ref _)]) dX8_alteredBytes_3 (by decide) rfl ?_
  refine J_sub [2, 1, 0] rfl ?_
  exact jX8_alteredBytes_4 G l   FU _ _ _ _
theorem okX8_alteredBytes (G : Gx) (l : Launch) (l0 : Nat) (M : Mem) : Con G l yX8_alteredBytes cX8_alteredBytes 3 (some .int) 1 20 (fun v : Int32 => some (.int v)) [.ref (adr G l0)] M (fX8_alteredBytes l0 M) := con_of (own := RX8) (nm := "alteredBytes") (by decide +kernel) rfl rfl (Nat.le_of_ble_eq_true rfl) (jX8_alteredBytes G l l0 M)
theorem mkX8_alteredBytes : MOk yX8_alteredBytes cX8_alteredBytes 3 (some .int) 0 := ⟨w_463, tb1 (List.mem_of_getElem? (i := 1) rfl) rfl, by decide +kernel, by decide +kernel, by decide +kernel⟩
-- X8_count
def fX8_count (l0 : Nat) (l1 : Int32) (M : Mem) : Option (Int32 × Mem) := (if l1 = 0 then (gR M 8 0 l0 fun r1 => (gI M 3 4 r1 fun v2 => some (v2, M))) else if l1 = 1 then (gR M 8 0 l0 fun r3 => (gI M 3 12 r3 fun v4 => some (v4, M))) else if l1 = 2 then (gR M 8 3 l0 fun r5 => (cV M 5 r5 (fX5_size r5 M) fun v7 M6 => some (v7, M6))) else if l1 = 3 then (gR M 8 0 l0 fun r8 => (gI M 3 15 r8 fun v9 => some (v9, M))) else if l1 = 4 then (gR M 8 0 l0 fun r10 => (gI M 3 16 r10 fun v11 => some (v11, M))) else if l1 = 5 then (gR M 8 0 l0 fun r12 => (gI M 3 17 r12 fun v13 => some (v13, M))) else if l1 = 6 then (gR M 8 1 l0 fun r14 => (gI M 4 2 r14 fun v15 => some (v15, M))) else if l1 = 7 then (cV M 8 l0 (fX8_alteredBytes l0 M) fun v17 M16 => some (v17, M16)) else some ((-1 : Int32), M))
set_option maxHeartbeats 4000000 in
set_option maxRecDepth 100000 in
theorem jX8_count (G : Gx) (l : Launch) (l0 : Nat) (l1 : Int32) (M : Mem) : J G l cX8_count 2 RX8 (some .int) "count" 2 42 (QM G (fun v : Int32 => some (.int v))) 0 [(0, .ref (adr G l0)), (1, .int l1)] [] M (fX8_count l0 l1 M) := by
  unfold fX8_count
  refine J_iload_n dX8_count_0 1 rfl ?_
  refine J_ite (fun h1_0 => ?_) (fun h1_0 => ?_)
  · refine J_tabI (off := 47) (tgt := 48) dX8_count_1 (by rw [h1_0]; decide) (by rw [h1_0]; decide) (by rw [h1_0]; decide) (by decide) ?_
    refine J_aload_n dX8_count_48 0 rfl ?_
    refine J_getR fd_8_0 w_357 rfl dX8_count_49 (fun r1 => ?_)
    refine J_getI fd_3_4 w_388 rfl dX8_count_52 ?_
    exact J_iret dX8_count_55
  refine J_ite (fun h1_1 => ?_) (fun h1_1 => ?_)
  · refine J_tabI (off := 55) (tgt := 56) dX8_count_1 (by rw [h1_1]; decide) (by rw [h1_1]; decide) (by rw [h1_1]; decide) (by decide) ?_
    refine J_aload_n dX8_count_56 0 rfl ?_
    refine J_getR fd_8_0 w_357 rfl dX8_count_57 (fun r3 => ?_)
    refine J_getI fd_3_12 w_386 rfl dX8_count_60 ?_
    exact J_iret dX8_count_63
  refine J_ite (fun h1_2 => ?_) (fun h1_2 => ?_)
  · refine J_tabI (off := 63) (tgt := 64) dX8_count_1 (by rw [h1_2]; decide) (by rw [h1_2]; decide) (by rw [h1_2]; decide) (by decide) ?_
    refine J_aload_n dX8_count_64 0 rfl ?_
    refine J_getR fd_8_3 w_353 rfl dX8_count_65 (fun r5 => ?_)
    refine J_callVi (okX5_size G l _ _) mkX5_size _ _ rfl w_405 w_46 w_47 ⟨by decide, by decide⟩ rfl (Nat.le_of_ble_eq_true rfl) dX8_count_68 (fun v7 M6 => ?_)
    exact J_iret dX8_count_71
  refine J_ite (fun h1_3 => ?_) (fun h1_3 => ?_)
  · refine J_tabI (off := 71) (tgt := 72) dX8_count_1 (by rw [h1_3]; decide) (by rw [h1_3]; decide) (by rw [h1_3]; decide) (by decide) ?_
    refine J_aload_n dX8_count_72 0 rfl ?_
    refine J_getR fd_8_0 w_357 rfl dX8_count_73 (fun r8 => ?_)
    refine J_getI fd_3_15 w_461 rfl dX8_count_76 ?_
    exact J_iret dX8_count_79
  refine J_ite (fun h1_4 => ?_) (fun h1_4 => ?_)
  · refine J_tabI (off := 79) (tgt := 80) dX8_count_1 (by rw [h1_4]; decide) (by rw [h1_4]; decide) (by rw [h1_4]; decide) (by decide) ?_
    refine J_aload_n dX8_count_80 0 rfl ?_
    refine J_getR fd_8_0 w_357 rfl dX8_count_81 (fun r10 => ?_)
    refine J_getI fd_3_16 w_384 rfl dX8_count_84 ?_
    exact J_iret dX8_count_87
  refine J_ite (fun h1_5 => ?_) (fun h1_5 => ?_)
  · refine J_tabI (off := 87) (tgt := 88) dX8_count_1 (by rw [h1_5]; decide) (by rw [h1_5]; decide) (by rw [h1_5]; decide) (by decide) ?_
    refine J_aload_n dX8_count_88 0 rfl ?_
    refine J_getR fd_8_0 w_357 rfl dX8_count_89 (fun r12 => ?_)
    refine J_getI fd_3_17 w_462 rfl dX8_count_92 ?_
    exact J_iret dX8_count_95
  refine J_ite (fun h1_6 => ?_) (fun h1_6 => ?_)
  · refine J_tabI (off := 95) (tgt := 96) dX8_count_1 (by rw [h1_6]; decide) (by rw [h1_6]; decide) (by rw [h1_6]; decide) (by decide) ?_
    refine J_aload_n dX8_count_96 0 rfl ?_
    refine J_getR fd_8_1 w_359 rfl dX8_count_97 (fun r14 => ?_)
    refine J_getI fd_4_2 w_371 rfl dX8_count_100 ?_
    exact J_iret dX8_count_103
  refine J_ite (fun h1_7 => ?_) (fun h1_7 => ?_)
  · refine J_tabI (off := 103) (tgt := 104) dX8_count_1 (by rw [h1_7]; decide) (by rw [h1_7]; decide) (by rw [h1_7]; decide) (by decide) ?_
    refine J_aload_n dX8_count_104 0 rfl ?_
    refine J_callVi (okX8_alteredBytes G l _ _) mkX8_alteredBytes _ _ rfl w_464 w_465 w_466 ⟨by decide, by decide⟩ rfl (Nat.le_of_ble_eq_true rfl) dX8_count_105 (fun v17 M16 => ?_)
    exact J_iret dX8_count_108
  refine J_tabO (tgt := 109) dX8_count_1 (by have h1_0 := lv_neT h1_0 (show (0 : Int32).toInt = 0 by decide); have h1_1 := lv_neT h1_1 (show (1 : Int32).toInt = 1 by decide); have h1_2 := lv_neT h1_2 (show (2 : Int32).toInt = 2 by decide); have h1_3 := lv_neT h1_3 (show (3 : Int32).toInt = 3 by decide); have h1_4 := lv_neT h1_4 (show (4 : Int32).toInt = 4 by decide); have h1_5 := lv_neT h1_5 (show (5 : Int32).toInt = 5 by decide); have h1_6 := lv_neT h1_6 (show (6 : Int32).toInt = 6 by decide); have h1_7 := lv_neT h1_7 (show (7 : Int32).toInt = 7 by decide); omega) (by decide) ?_
  refine J_iconst (v := -1) dX8_count_109 (by decide) ?_
  exact J_iret dX8_count_110
theorem okX8_count (G : Gx) (l : Launch) (l0 : Nat) (l1 : Int32) (M : Mem) : Con G l yX8_count cX8_count 2 (some .int) 2 42 (fun v : Int32 => some (.int v)) [.ref (adr G l0), .int l1] M (fX8_count l0 l1 M) := con_of (own := RX8) (nm := "count") (by decide +kernel) rfl rfl (Nat.le_of_ble_eq_true rfl) (jX8_count G l l0 l1 M)
theorem mkX8_count : MOk yX8_count cX8_count 2 (some .int) 1 := ⟨w_467, tb1 (List.mem_of_getElem? (i := 1) rfl) rfl, by decide +kernel, by decide +kernel, by decide +kernel⟩
