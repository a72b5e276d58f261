-- X5_entryWith
def fX5_entryWith_30  (l2 : Int32) (M : Mem) : Option (Int32 × Mem) := some (l2, M)
set_option maxHeartbeats 4000000 in
set_option maxRecDepth 100000 in
theorem jX5_entryWith_30 (G : Gx) (l : Launch)   (l2 : Int32) (M : Mem) : J G l cX5_entryWith 3 RX5 (some .int) "entryWith" 0 0 (QM G (fun v : Int32 => some (.int v))) 30 [(2, .int l2)] [] M (fX5_entryWith_30  l2 M) := by
  unfold fX5_entryWith_30
  refine J_iload_n dX5_entryWith_30 0 rfl ?_
  exact J_iret dX5_entryWith_31
def fX5_entryWith_2  : Nat → Nat → Int32 → Int32 → Mem → Option (Int32 × Mem)
  | 0, _, _, _, _ => none
  | n + 1, l0, l1, l2, M => (gI M 5 2 l0 fun v1 => (if v1 ≤ (l2 + (1 : Int32)) then fX5_entryWith_30  l2 M else (gR M 5 1 l0 fun r2 => (rI M .int r2 (l2 + (1 : Int32)) fun v3 => (if l1 < v3 then fX5_entryWith_30  l2 M else fX5_entryWith_2  n l0 l1 (l2 + (1 : Int32)) M)))))
set_option maxHeartbeats 4000000 in
set_option maxRecDepth 100000 in
theorem jX5_entryWith_2 (G : Gx) (l : Launch)   : ∀ (n : Nat) (l0 : Nat) (l1 : Int32) (l2 : Int32) (M : Mem), J G l cX5_entryWith 3 RX5 (some .int) "entryWith" 0 0 (QM G (fun v : Int32 => some (.int v))) 2 [(0, .ref (adr G l0)), (1, .int l1), (2, .int l2)] [] M (fX5_entryWith_2  n l0 l1 l2 M) := by
  intro n
  induction n with
  | zero => intro l0 l1 l2 M; exact J_none
  | succ n ih =>
    intro l0 l1 l2 M
    rw [fX5_entryWith_2]
    refine J_iload_n dX5_entryWith_2 2 rfl ?_
    refine J_iconst (v := 1) dX5_entryWith_3 (by decide) ?_
    refine J_iadd dX5_entryWith_4 ?_
    refine J_aload_n dX5_entryWith_5 0 rfl ?_
    refine J_getI fd_5_2 w_43 rfl dX5_entryWith_6 ?_
    refine J_icmp_ge (tgt := 30) dX5_entryWith_9 (by decide) ?_ ?_
    · refine J_sub [2] rfl ?_
      exact jX5_entryWith_30 G l   _ _
    · refine J_aload_n dX5_entryWith_12 0 rfl ?_
      refine J_getR fd_5_1 w_42 rfl dX5_entryWith_13 (fun r2 => ?_)
      refine J_iload_n dX5_entryWith_16 2 rfl ?_
      refine J_iconst (v := 1) dX5_entryWith_17 (by decide) ?_
      refine J_iadd dX5_entryWith_18 ?_
      refine J_iald dX5_entryWith_19 ?_
      refine J_iload_n dX5_entryWith_20 1 rfl ?_
      refine J_icmp_gt (tgt := 30) dX5_entryWith_21 (by decide) ?_ ?_
      · refine J_sub [2] rfl ?_
        exact jX5_entryWith_30 G l   _ _
      · refine J_iincK (z := 1) (lv' := [(2, .int _), (0, .ref _), (1, .int _)]) dX5_entryWith_24 2 rfl (by decide) (by decide) rfl ?_
        refine J_goto (tgt := 2) dX5_entryWith_27 (by decide) ?_
        refine J_sub [1, 2, 0] rfl ?_
        exact ih _ _ _ _
def fX5_entryWith (l0 : Nat) (l1 : Int32) (M : Mem) : Option (Int32 × Mem) := fX5_entryWith_2  FU l0 l1 (0 : Int32) M
set_option maxHeartbeats 4000000 in
set_option maxRecDepth 100000 in
theorem jX5_entryWith (G : Gx) (l : Launch) (l0 : Nat) (l1 : Int32) (M : Mem) : J G l cX5_entryWith 3 RX5 (some .int) "entryWith" 0 0 (QM G (fun v : Int32 => some (.int v))) 0 [(0, .ref (adr G l0)), (1, .int l1)] [] M (fX5_entryWith l0 l1 M) := by
  unfold fX5_entryWith
  refine J_iconst (v := 0) dX5_entryWith_0 (by decide) ?_
  refine J_istore_n (lv' := [(2, .int _), (0, .ref _), (1, .int _)]) dX5_entryWith_1 (by decide) rfl ?_
  refine J_sub [1, 2, 0] rfl ?_
  exact jX5_entryWith_2 G l   FU _ _ _ _
theorem okX5_entryWith (G : Gx) (l : Launch) (l0 : Nat) (l1 : Int32) (M : Mem) : Con G l yX5_entryWith cX5_entryWith 3 (some .int) 0 0 (fun v : Int32 => some (.int v)) [.ref (adr G l0), .int l1] M (fX5_entryWith l0 l1 M) := con_of (own := RX5) (nm := "entryWith") (by decide +kernel) rfl rfl (Nat.le_of_ble_eq_true rfl) (jX5_entryWith G l l0 l1 M)
theorem mkX5_entryWith : MOk yX5_entryWith cX5_entryWith 3 (some .int) 1 := ⟨w_226, tb1 (List.mem_of_getElem? (i := 5) rfl) rfl, by decide +kernel, by decide +kernel, by decide +kernel⟩
-- X5_flip
def fX5_flip_36  : Nat → Nat → Int32 → Int32 → Mem → Option (Unit × Mem)
  | 0, _, _, _, _ => none
  | n + 1, l0, l3, l4, M => (if (8 : Int32) < l4 then some ((), M) else (gR M 5 7 l0 fun r1 => (wI M .boolean r1 (xshr ((256 : Int32) + l3) l4) (0 : Int32) fun M2 => fX5_flip_36  n l0 l3 (l4 + (1 : Int32)) M2)))
set_option maxHeartbeats 4000000 in
set_option maxRecDepth 100000 in
theorem jX5_flip_36 (G : Gx) (l : Launch)   : ∀ (n : Nat) (l0 : Nat) (l3 : Int32) (l4 : Int32) (M : Mem), J G l cX5_flip 5 RX5 none "flip" 1 22 (QM G (fun _ : Unit => none)) 36 [(0, .ref (adr G l0)), (3, .int l3), (4, .int l4)] [] M (fX5_flip_36  n l0 l3 l4 M) := by
  intro n
  induction n with
  | zero => intro l0 l3 l4 M; exact J_none
  | succ n ih =>
    intro l0 l3 l4 M
    rw [fX5_flip_36]
    refine J_iload dX5_flip_36 2 rfl ?_
    refine J_bipush (v := 8) dX5_flip_38 (by decide) ?_
    refine J_icmp_gt (tgt := 63) dX5_flip_40 (by decide) ?_ ?_
    · exact J_vret dX5_flip_63
    · refine J_aload_n dX5_flip_43 0 rfl ?_
      refine J_getR fd_5_7 w_219 rfl dX5_flip_44 (fun r1 => ?_)
      refine J_sipush (v := 256) dX5_flip_47 (by decide) ?_
      refine J_iload_n dX5_flip_50 1 rfl ?_
      refine J_iadd dX5_flip_51 ?_
      refine J_iload dX5_flip_52 2 rfl ?_
      refine J_ishrK dX5_flip_54 ?_
      refine J_iconst (v := 0) dX5_flip_55 (by decide) ?_
      refine J_zast dX5_flip_56 ?_
      refine J_iincK (z := 1) (lv' := [(4, .int _), (0, .ref _), (3, .int _)]) dX5_flip_57 2 rfl (by decide) (by decide) rfl ?_
      refine J_goto (tgt := 36) dX5_flip_60 (by decide) ?_
      refine J_sub [1, 2, 0] rfl ?_
      exact ih _ _ _ _
def fX5_flip (l0 : Nat) (l1 : Int32) (l2 : Int32) (M : Mem) : Option (Unit × Mem) := (gR M 5 0 l0 fun r1 => (gR M 5 0 l0 fun r2 => (rI M .byte r2 l1 fun v3 => (wI M .byte r1 l1 (v3 ^^^ l2).toInt8.toInt32 fun M4 => (cV M4 5 l0 (fX5_entryWith l0 l1 M4) fun v6 M5 => (gI M5 5 5 l0 fun v7 => (pI M5 5 5 l0 (imin v7 v6) fun M8 => fX5_flip_36  FU l0 v6 (0 : Int32) M8)))))))
set_option maxHeartbeats 4000000 in
set_option maxRecDepth 100000 in
theorem jX5_flip (G : Gx) (l : Launch) (l0 : Nat) (l1 : Int32) (l2 : Int32) (M : Mem) : J G l cX5_flip 5 RX5 none "flip" 1 22 (QM G (fun _ : Unit => none)) 0 [(0, .ref (adr G l0)), (1, .int l1), (2, .int l2)] [] M (fX5_flip l0 l1 l2 M) := by
  unfold fX5_flip
  refine J_aload_n dX5_flip_0 0 rfl ?_
  refine J_getR fd_5_0 w_53 rfl dX5_flip_1 (fun r1 => ?_)
  refine J_iload_n dX5_flip_4 1 rfl ?_
  refine J_aload_n dX5_flip_5 0 rfl ?_
  refine J_getR fd_5_0 w_53 rfl dX5_flip_6 (fun r2 => ?_)
  refine J_iload_n dX5_flip_9 1 rfl ?_
  refine J_bald dX5_flip_10 ?_
  refine J_iload_n dX5_flip_11 2 rfl ?_
  refine J_ixor dX5_flip_12 ?_
  refine J_i2b dX5_flip_13 ?_
  refine J_bast dX5_flip_14 ?_
  refine J_aload_n dX5_flip_15 0 rfl ?_
  refine J_iload_n dX5_flip_16 1 rfl ?_
  refine J_callVi (okX5_entryWith G l _ _ _) mkX5_entryWith _ _ rfl w_227 w_228 w_229 ⟨by decide, by decide⟩ rfl (Nat.le_of_ble_eq_true rfl) dX5_flip_17 (fun v6 M5 => ?_)
  refine J_istore_n (lv' := [(3, .int _), (0, .ref _), (1, .int _), (2, .int _)]) dX5_flip_20 (by decide) rfl ?_
  refine J_aload_n dX5_flip_21 1 rfl ?_
  refine J_aload_n dX5_flip_22 1 rfl ?_
  refine J_getI fd_5_5 w_230 rfl dX5_flip_23 ?_
  refine J_iload_n dX5_flip_26 0 rfl ?_
  refine J_mmin w_231 w_232 w_233 w_234 ⟨by decide, Nat.le_of_ble_eq_true rfl⟩ dX5_flip_27 ?_
  refine J_putI fd_5_5 w_230 dX5_flip_30 ?_
  refine J_iconst (v := 0) dX5_flip_33 (by decide) ?_
  refine J_istore (lv' := [(4, .int _), (3, .int _), (0, .ref _), (1, .int _), (2, .int _)]) dX5_flip_34 (by decide) rfl ?_
  refine J_sub [2, 1, 0] rfl ?_
  exact jX5_flip_36 G l   FU _ _ _ _
theorem okX5_flip (G : Gx) (l : Launch) (l0 : Nat) (l1 : Int32) (l2 : Int32) (M : Mem) : Con G l yX5_flip cX5_flip 5 none 1 22 (fun _ : Unit => none) [.ref (adr G l0), .int l1, .int l2] M (fX5_flip l0 l1 l2 M) := con_of (own := RX5) (nm := "flip") (by decide +kernel) rfl rfl (Nat.le_of_ble_eq_true rfl) (jX5_flip G l l0 l1 l2 M)
theorem mkX5_flip : MOk yX5_flip cX5_flip 5 none 2 := ⟨w_235, tb1 (List.mem_of_getElem? (i := 5) rfl) rfl, by decide +kernel, by decide +kernel, by decide +kernel⟩
-- X6_begin
def fX6_begin (l0 : Nat) (M : Mem) : Option (Unit × Mem) := (pI M 6 1 l0 (0 : Int32) fun M1 => some ((), M1))
set_option maxHeartbeats 4000000 in
set_option maxRecDepth 100000 in
theorem jX6_begin (G : Gx) (l : Launch) (l0 : Nat) (M : Mem) : J G l cX6_begin 1 RX6 none "begin" 0 0 (QM G (fun _ : Unit => none)) 0 [(0, .ref (adr G l0))] [] M (fX6_begin l0 M) := by
  unfold fX6_begin
  refine J_aload_n dX6_begin_0 0 rfl ?_
  refine J_iconst (v := 0) dX6_begin_1 (by decide) ?_
  refine J_putI fd_6_1 w_239 dX6_begin_2 ?_
  exact J_vret dX6_begin_5
theorem okX6_begin (G : Gx) (l : Launch) (l0 : Nat) (M : Mem) : Con G l yX6_begin cX6_begin 1 none 0 0 (fun _ : Unit => none) [.ref (adr G l0)] M (fX6_begin l0 M) := con_of (own := RX6) (nm := "begin") (by decide +kernel) rfl rfl (Nat.le_of_ble_eq_true rfl) (jX6_begin G l l0 M)
theorem mkX6_begin : MOk yX6_begin cX6_begin 1 none 0 := ⟨w_240, tb1 (List.mem_of_getElem? (i := 6) rfl) rfl, by decide +kernel, by decide +kernel, by decide +kernel⟩
-- X8_byteOf
def fX8_byteOf (l0 : Nat) (l1 : Int32) (M : Mem) : Option (Int32 × Mem) := (rI M .int l0 (xshr l1 (2 : Int32)) fun v1 => some (((xushr v1 ((24 : Int32) - ((8 : Int32) * (l1 &&& (3 : Int32))))) &&& (255 : Int32)), M))
set_option maxHeartbeats 4000000 in
set_option maxRecDepth 100000 in
theorem jX8_byteOf (G : Gx) (l : Launch) (l0 : Nat) (l1 : Int32) (M : Mem) : J G l cX8_byteOf 2 RX8 (some .int) "byteOf" 0 0 (QM G (fun v : Int32 => some (.int v))) 0 [(0, .ref (adr G l0)), (1, .int l1)] [] M (fX8_byteOf l0 l1 M) := by
  unfold fX8_byteOf
  refine J_aload_n dX8_byteOf_0 0 rfl ?_
  refine J_iload_n dX8_byteOf_1 1 rfl ?_
  refine J_iconst (v := 2) dX8_byteOf_2 (by decide) ?_
  refine J_ishrK dX8_byteOf_3 ?_
  refine J_iald dX8_byteOf_4 ?_
  refine J_bipush (v := 24) dX8_byteOf_5 (by decide) ?_
  refine J_bipush (v := 8) dX8_byteOf_7 (by decide) ?_
  refine J_iload_n dX8_byteOf_9 1 rfl ?_
  refine J_iconst (v := 3) dX8_byteOf_10 (by decide) ?_
  refine J_iand dX8_byteOf_11 ?_
  refine J_imul dX8_byteOf_12 ?_
  refine J_isub dX8_byteOf_13 ?_
  refine J_iushrK dX8_byteOf_14 ?_
  refine J_sipush (v := 255) dX8_byteOf_15 (by decide) ?_
  refine J_iand dX8_byteOf_18 ?_
  exact J_iret dX8_byteOf_19
theorem okX8_byteOf (G : Gx) (l : Launch) (l0 : Nat) (l1 : Int32) (M : Mem) : Con G l yX8_byteOf cX8_byteOf 2 (some .int) 0 0 (fun v : Int32 => some (.int v)) [.ref (adr G l0), .int l1] M (fX8_byteOf l0 l1 M) := con_of (own := RX8) (nm := "byteOf") (by decide +kernel) rfl rfl (Nat.le_of_ble_eq_true rfl) (jX8_byteOf G l l0 l1 M)
theorem mkX8_byteOf : MOk yX8_byteOf cX8_byteOf 2 (some .int) 2 := ⟨w_244, tb1 (List.mem_of_getElem? (i := 1) rfl) rfl, by decide +kernel, by decide +kernel, by decide +kernel⟩
-- X6_add
def fX6_add_30   (M : Mem) : Option (Unit × Mem) := some ((), M)
set_option maxHeartbeats 4000000 in
set_option maxRecDepth 100000 in
theorem jX6_add_30 (G : Gx) (l : Launch)    (M : Mem) : J G l cX6_add 2 RX6 none "add" 0 0 (QM G (fun _ : Unit => none)) 30 [] [] M (fX6_add_30   M) := by
  unfold fX6_add_30
  exact J_vret dX6_add_30
def fX6_add (l0 : Nat) (l1 : Int32) (M : Mem) : Option (Unit × Mem) := (gI M 6 1 l0 fun v1 => (if (119 : Int32) ≤ v1 then fX6_add_30   M else (gR M 6 0 l0 fun r2 => (gI M 6 1 l0 fun v3 => (wI M .byte r2 v3 l1.toInt8.toInt32 fun M4 => (gI M4 6 1 l0 fun v5 => (pI M4 6 1 l0 (v5 + (1 : Int32)) fun M6 => fX6_add_30   M6)))))))
set_option maxHeartbeats 4000000 in
set_option maxRecDepth 100000 in
theorem jX6_add (G : Gx) (l : Launch) (l0 : Nat) (l1 : Int32) (M : Mem) : J G l cX6_add 2 RX6 none "add" 0 0 (QM G (fun _ : Unit => none)) 0 [(0, .ref (adr G l0)), (1, .int l1)] [] M (fX6_add l0 l1 M) := by
  unfold fX6_add
  refine J_aload_n dX6_add_0 0 rfl ?_
  refine J_getI fd_6_1 w_239 rfl dX6_add_1 ?_
  refine J_bipush (v := 119) dX6_add_4 (by decide) ?_
  refine J_icmp_ge (tgt := 30) dX6_add_6 (by decide) ?_ ?_
  · refine J_sub [] rfl ?_
    exact jX6_add_30 G l    _
  · refine J_aload_n dX6_add_9 0 rfl ?_
    refine J_getR fd_6_0 w_209 rfl dX6_add_10 (fun r2 => ?_)
    refine J_aload_n dX6_add_13 0 rfl ?_
    refine J_getI fd_6_1 w_239 rfl dX6_add_14 ?_
    refine J_iload_n dX6_add_17 1 rfl ?_
    refine J_i2b dX6_add_18 ?_
    refine J_bast dX6_add_19 ?_
    refine J_aload_n dX6_add_20 0 rfl ?_
    refine J_dup dX6_add_21 rfl ?_
    refine J_getI fd_6_1 w_239 rfl dX6_add_22 ?_
    refine J_iconst (v := 1) dX6_add_25 (by decide) ?_
    refine J_iadd dX6_add_26 ?_
    refine J_putI fd_6_1 w_239 dX6_add_27 ?_
    refine J_sub [] rfl ?_
    exact jX6_add_30 G l    _
theorem okX6_add (G : Gx) (l : Launch) (l0 : Nat) (l1 : Int32) (M : Mem) : Con G l yX6_add cX6_add 2 none 0 0 (fun _ : Unit => none) [.ref (adr G l0), .int l1] M (fX6_add l0 l1 M) := con_of (own := RX6) (nm := "add") (by decide +kernel) rfl rfl (Nat.le_of_ble_eq_true rfl) (jX6_add G l l0 l1 M)
theorem mkX6_add : MOk yX6_add cX6_add 2 none 1 := ⟨w_246, tb1 (List.mem_of_getElem? (i := 6) rfl) rfl, by decide +kernel, by decide +kernel, by decide +kernel⟩
-- X6_addHash
def fX6_addHash_2  : Nat → Nat → Nat → Int32 → Mem → Option (Unit × Mem)
  | 0, _, _, _, _ => none
  | n + 1, l0, l1, l2, M => (if (32 : Int32) ≤ l2 then some ((), M) else (bd (fX8_byteOf l1 l2 M) fun v2 M1 => (cV M1 6 l0 (fX6_add l0 v2 M1) fun _u4 M3 => fX6_addHash_2  n l0 l1 (l2 + (1 : Int32)) M3)))
set_option maxHeartbeats 4000000 in
set_option maxRecDepth 100000 in
theorem jX6_addHash_2 (G : Gx) (l : Launch)   : ∀ (n : Nat) (l0 : Nat) (l1 : Nat) (l2 : Int32) (M : Mem), J G l cX6_addHash 3 RX6 none "addHash" 1 21 (QM G (fun _ : Unit => none)) 2 [(0, .ref (adr G l0)), (1, .ref (adr G l1)), (2, .int l2)] [] M (fX6_addHash_2  n l0 l1 l2 M) := by
  intro n
  induction n with
  | zero => intro l0 l1 l2 M; exact J_none
  | succ n ih =>
    intro l0 l1 l2 M
    rw [fX6_addHash_2]
    refine J_iload_n dX6_addHash_2 2 rfl ?_
    refine J_bipush (v := 32) dX6_addHash_3 (by decide) ?_
    refine J_icmp_ge (tgt := 23) dX6_addHash_5 (by decide) ?_ ?_
    · exact J_vret dX6_addHash_23
    · refine J_aload_n dX6_addHash_8 0 rfl ?_
      refine J_aload_n dX6_addHash_9 1 rfl ?_
      refine J_iload_n dX6_addHash_10 2 rfl ?_
      refine J_callSNi (host := "ChainBooks") (okX8_byteOf G l _ _ _) mkX8_byteOf (List.mem_of_getElem? (i := 16) rfl) w_245 ⟨by decide, by decide⟩ rfl (Nat.le_of_ble_eq_true rfl) dX6_addHash_11 (fun v2 M1 => ?_)
      refine J_callVv (okX6_add G l _ _ _) mkX6_add _ _ rfl w_247 w_248 w_249 ⟨by decide, by decide⟩ rfl (Nat.le_of_ble_eq_true rfl) dX6_addHash_14 (fun _u4 M3 => ?_)
      refine J_iincK (z := 1) (lv' := [(2, .int _), (0, .ref _), (1, .ref _)]) dX6_addHash_17 2 rfl (by decide) (by decide) rfl ?_
      refine J_goto (tgt := 2) dX6_addHash_20 (by decide) ?_
      refine J_sub [1, 2, 0] rfl ?_
      exact ih _ _ _ _
def fX6_addHash (l0 : Nat) (l1 : Nat) (M : Mem) : Option (Unit × Mem) := fX6_addHash_2  FU l0 l1 (0 : Int32) M
set_option maxHeartbeats 4000000 in
set_option maxRecDepth 100000 in
theorem jX6_addHash (G : Gx) (l : Launch) (l0 : Nat) (l1 : Nat) (M : Mem) : J G l cX6_addHash 3 RX6 none "addHash" 1 21 (QM G (fun _ : Unit => none)) 0 [(0, .ref (adr G l0)), (1, .ref (adr G l1))] [] M (fX6_addHash l0 l1 M) := by
  unfold fX6_addHash
  refine J_iconst (v := 0) dX6_addHash_0 (by decide) ?_
  refine J_istore_n (lv' := [(2, .int _), (0, .ref _), (1, .ref _)]) dX6_addHash_1 (by decide) rfl ?_
  refine J_sub [1, 2, 0] rfl ?_
  exact jX6_addHash_2 G l   FU _ _ _ _
theorem okX6_addHash (G : Gx) (l : Launch) (l0 : Nat) (l1 : Nat) (M : Mem) : Con G l yX6_addHash cX6_addHash 3 none 1 21 (fun _ : Unit => none) [.ref (adr G l0), .ref (adr G l1)] M (fX6_addHash l0 l1 M) := con_of (own := RX6) (nm := "addHash") (by decide +kernel) rfl rfl (Nat.le_of_ble_eq_true rfl) (jX6_addHash G l l0 l1 M)
theorem mkX6_addHash : MOk yX6_addHash cX6_addHash 3 none 1 := ⟨w_250, tb1 (List.mem_of_getElem? (i := 6) rfl) rfl, by decide +kernel, by decide +kernel, by decide +kernel⟩
-- X6_addBytes
def fX6_addBytes_3  : Nat → Nat → Nat → Int32 → Int32 → Mem → Option (Unit × Mem)
  | 0, _, _, _, _, _ => none
  | n + 1, l0, l1, l3, l4, M => (if l3 ≤ l4 then some ((), M) else (rI M .byte l1 l4 fun v1 => (cV M 6 l0 (fX6_add l0 v1 M) fun _u3 M2 => fX6_addBytes_3  n l0 l1 l3 (l4 + (1 : Int32)) M2)))
set_option maxHeartbeats 4000000 in
set_option maxRecDepth 100000 in
theorem jX6_addBytes_3 (G : Gx) (l : Launch)   : ∀ (n : Nat) (l0 : Nat) (l1 : Nat) (l3 : Int32) (l4 : Int32) (M : Mem), J G l cX6_addBytes 5 RX6 none "addBytes" 1 21 (QM G (fun _ : Unit => none)) 3 [(0, .ref (adr G l0)), (1, .ref (adr G l1)), (3, .int l3), (4, .int l4)] [] M (fX6_addBytes_3  n l0 l1 l3 l4 M) := by
  intro n
  induction n with
  | zero => intro l0 l1 l3 l4 M; exact J_none
  | succ n ih =>
    intro l0 l1 l3 l4 M
    rw [fX6_addBytes_3]
    refine J_iload dX6_addBytes_3 3 rfl ?_
    refine J_iload_n dX6_addBytes_5 2 rfl ?_
    refine J_icmp_ge (tgt := 23) dX6_addBytes_6 (by decide) ?_ ?_
    · exact J_vret dX6_addBytes_23
    · refine J_aload_n dX6_addBytes_9 0 rfl ?_
      refine J_aload_n dX6_addBytes_10 1 rfl ?_
      refine J_iload dX6_addBytes_11 3 rfl ?_
      refine J_bald dX6_addBytes_13 ?_
      refine J_callVv (okX6_add G l _ _ _) mkX6_add _ _ rfl w_247 w_248 w_249 ⟨by decide, by decide⟩ rfl (Nat.le_of_ble_eq_true rfl) dX6_addBytes_14 (fun _u3 M2 => ?_)
      refine J_iincK (z := 1) (lv' := [(4, .int _), (0, .ref _), (1, .ref _), (3, .int _)]) dX6_addBytes_17 3 rfl (by decide) (by decide) rfl ?_
      refine J_goto (tgt := 3) dX6_addBytes_20 (by decide) ?_
      refine J_sub [1, 2, 3, 0] rfl ?_
      exact ih _ _ _ _ _
def fX6_addBytes (l0 : Nat) (l1 : Nat) (l2 : Int32) (l3 : Int32) (M : Mem) : Option (Unit × Mem) := fX6_addBytes_3  FU l0 l1 l3 l2 M
set_option maxHeartbeats 4000000 in
set_option maxRecDepth 100000 in
theorem jX6_addBytes (G : Gx) (l : Launch) (l0 : Nat) (l1 : Nat) (l2 : Int32) (l3 : Int32) (M : Mem) : J G l cX6_addBytes 5 RX6 none "addBytes" 1 21 (QM G (fun _ : Unit => none)) 0 [(0, .ref (adr G l0)), (1, .ref (adr G l1)), (2, .int l2), (3, .int l3)] [] M (fX6_addBytes l0 l1 l2 l3 M) := by
  unfold fX6_addBytes
  refine J_iload_n dX6_addBytes_0 2 rfl ?_
  refine J_istore (lv' := [(4, .int _), (0, .ref _), (1, .ref _), (2, .int _), (3, .int _)]) dX6_addBytes_1 (by decide) rfl ?_
  refine J_sub [1, 2, 4, 0] rfl ?_
  exact jX6_addBytes_3 G l   FU _ _ _ _ _
theorem okX6_addBytes (G : Gx) (l : Launch) (l0 : Nat) (l1 : Nat) (l2 : Int32) (l3 : Int32) (M : Mem) : Con G l yX6_addBytes cX6_addBytes 5 none 1 21 (fun _ : Unit => none) [.ref (adr G l0), .ref (adr G l1), .int l2, .int l3] M (fX6_addBytes l0 l1 l2 l3 M) := con_of (own := RX6) (nm := "addBytes") (by decide +kernel) rfl rfl (Nat.le_of_ble_eq_true rfl) (jX6_addBytes G l l0 l1 l2 l3 M)
theorem mkX6_addBytes : MOk yX6_addBytes cX6_addBytes 5 none 3 := ⟨w_254, tb1 (List.mem_of_getElem? (i := 6) rfl) rfl, by decide +kernel, by decide +kernel, by decide +kernel⟩
-- X8_copyHash
def fX8_copyHash_2  : Nat → Nat → Nat → Int32 → Mem → Option (Unit × Mem)
  | 0, _, _, _, _ => none
  | n + 1, l0, l1, l2, M => (if (8 : Int32) ≤ l2 then some ((), M) else (rI M .int l0 l2 fun v1 => (wI M .int l1 l2 v1 fun M2 => fX8_copyHash_2  n l0 l1 (l2 + (1 : Int32)) M2)))
set_option maxHeartbeats 4000000 in
set_option maxRecDepth 100000 in
theorem jX8_copyHash_2 (G : Gx) (l : Launch)   : ∀ (n : Nat) (l0 : Nat) (l1 : Nat) (l2 : Int32) (M : Mem), J G l cX8_copyHash 3 RX8 none "copyHash" 0 0 (QM G (fun _ : Unit => none)) 2 [(0, .ref (adr G l0)), (1, .ref (adr G l1)), (2, .int l2)] [] M (fX8_copyHash_2  n l0 l1 l2 M) := by
  intro n
  induction n with
  | zero => intro l0 l1 l2 M; exact J_none
  | succ n ih =>
    intro l0 l1 l2 M
    rw [fX8_copyHash_2]
    refine J_iload_n dX8_copyHash_2 2 rfl ?_
    refine J_bipush (v := 8) dX8_copyHash_3 (by decide) ?_
    refine J_icmp_ge (tgt := 20) dX8_copyHash_5 (by decide) ?_ ?_
    · exact J_vret dX8_copyHash_20
    · refine J_aload_n dX8_copyHash_8 1 rfl ?_
      refine J_iload_n dX8_copyHash_9 2 rfl ?_
      refine J_aload_n dX8_copyHash_10 0 rfl ?_
      refine J_iload_n dX8_copyHash_11 2 rfl ?_
      refine J_iald dX8_copyHash_12 ?_
      refine J_iast dX8_copyHash_13 ?_
      refine J_iincK (z := 1) (lv' := [(2, .int _), (0, .ref _), (1, .ref _)]) dX8_copyHash_14 2 rfl (by decide) (by decide) rfl ?_
      refine J_goto (tgt := 2) dX8_copyHash_17 (by decide) ?_
      refine J_sub [1, 2, 0] rfl ?_
      exact ih _ _ _ _
def fX8_copyHash (l0 : Nat) (l1 : Nat) (M : Mem) : Option (Unit × Mem) := fX8_copyHash_2  FU l0 l1 (0 : Int32) M
set_option maxHeartbeats 4000000 in
set_option maxRecDepth 100000 in
theorem jX8_copyHash (G : Gx) (l : Launch) (l0 : Nat) (l1 : Nat) (M : Mem) : J G l cX8_copyHash 3 RX8 none "copyHash" 0 0 (QM G (fun _ : Unit => none)) 0 [(0, .ref (adr G l0)), (1, .ref (adr G l1))] [] M (fX8_copyHash l0 l1 M) := by
  unfold fX8_copyHash
  refine J_iconst (v := 0) dX8_copyHash_0 (by decide) ?_
  refine J_istore_n (lv' := [(2, .int _), (0, .ref _), (1, .ref _)]) dX8_copyHash_1 (by decide) rfl ?_
  refine J_sub [1, 2, 0] rfl ?_
  exact jX8_copyHash_2 G l   FU _ _ _ _
theorem okX8_copyHash (G : Gx) (l : Launch) (l0 : Nat) (l1 : Nat) (M : Mem) : Con G l yX8_copyHash cX8_copyHash 3 none 0 0 (fun _ : Unit => none) [.ref (adr G l0), .ref (adr G l1)] M (fX8_copyHash l0 l1 M) := con_of (own := RX8) (nm := "copyHash") (by decide +kernel) rfl rfl (Nat.le_of_ble_eq_true rfl) (jX8_copyHash G l l0 l1 M)
theorem mkX8_copyHash : MOk yX8_copyHash cX8_copyHash 3 none 2 := ⟨w_258, tb1 (List.mem_of_getElem? (i := 1) rfl) rfl, by decide +kernel, by decide +kernel, by decide +kernel⟩
-- X6_readSchedule
def fX6_readSchedule_87  : Nat → Nat → Int32 → Mem → Option (Unit × Mem)
  | 0, _, _, _ => none
  | n + 1, l0, l2, M => (if (64 : Int32) ≤ l2 then some ((), M) else (gR M 6 2 l0 fun r1 => (rI M .int r1 (l2 - (15 : Int32)) fun v2 => (gR M 6 2 l0 fun r3 => (rI M .int r3 (l2 - (2 : Int32)) fun v4 => (gR M 6 2 l0 fun r5 => (gR M 6 2 l0 fun r6 => (rI M .int r6 (l2 - (16 : Int32)) fun v7 => (gR M 6 2 l0 fun r8 => (rI M .int r8 (l2 - (7 : Int32)) fun v9 => (wI M .int r5 l2 (((v7 + v9) + ((((xushr v2 (7 : Int32)) ||| (xshl v2 (25 : Int32))) ^^^ ((xushr v2 (18 : Int32)) ||| (xshl v2 (14 : Int32)))) ^^^ (xushr v2 (3 : Int32)))) + ((((xushr v4 (17 : Int32)) ||| (xshl v4 (15 : Int32))) ^^^ ((xushr v4 (19 : Int32)) ||| (xshl v4 (13 : Int32)))) ^^^ (xushr v4 (10 : Int32)))) fun M10 => fX6_readSchedule_87  n l0 (l2 + (1 : Int32)) M10)))))))))))
set_option maxHeartbeats 4000000 in
set_option maxRecDepth 100000 in
theorem jX6_readSchedule_87 (G : Gx) (l : Launch)   : ∀ (n : Nat) (l0 : Nat) (l2 : Int32) (M : Mem), J G l cX6_readSchedule 5 RX6 none "readSchedule" 0 0 (QM G (fun _ : Unit => none)) 87 [(0, .ref (adr G l0)), (2, .int l2)] [] M (fX6_readSchedule_87  n l0 l2 M) := by
  intro n
  induction n with
  | zero => intro l0 l2 M; exact J_none
  | succ n ih =>
    intro l0 l2 M
    rw [fX6_readSchedule_87]
    refine J_iload_n dX6_readSchedule_87 1 rfl ?_
    refine J_bipush (v := 64) dX6_readSchedule_88 (by decide) ?_
    refine J_icmp_ge (tgt := 198) dX6_readSchedule_90 (by decide) ?_ ?_
    · exact J_vret dX6_readSchedule_198
    · refine J_aload_n dX6_readSchedule_93 0 rfl ?_
      refine J_getR fd_6_2 w_210 rfl dX6_readSchedule_94 (fun r1 => ?_)
      refine J_iload_n dX6_readSchedule_97 1 rfl ?_
      refine J_bipush (v := 15) dX6_readSchedule_98 (by decide) ?_
      refine J_isub dX6_readSchedule_100 ?_
      refine J_iald dX6_readSchedule_101 ?_
      refine J_istore_n (lv' := [(3, .int _), (0, .ref _), (2, .int _)]) dX6_readSchedule_102 (by decide) rfl ?_
      refine J_aload_n dX6_readSchedule_103 1 rfl ?_
      refine J_getR fd_6_2 w_210 rfl dX6_readSchedule_104 (fun r3 => ?_)
      refine J_iload_n dX6_readSchedule_107 2 rfl ?_
      refine J_iconst (v := 2) dX6_readSchedule_108 (by decide) ?_
      refine J_isub dX6_readSchedule_109 ?_
      refine J_iald dX6_readSchedule_110 ?_
      refine J_istore (lv' := [(4, .int _), (3, .int _), (0, .ref _), (2, .int _)]) dX6_readSchedule_111 (by decide) rfl ?_
      refine J_aload_n dX6_readSchedule_113 2 rfl ?_
      refine J_getR fd_6_2 w_210 rfl dX6_readSchedule_114 (fun r5 => ?_)
      refine J_iload_n dX6_readSchedule_117 3 rfl ?_
      refine J_aload_n dX6_readSchedule_118 2 rfl ?_
      refine J_getR fd_6_2 w_210 rfl dX6_readSchedule_119 (fun r6 => ?_)
      refine J_iload_n dX6_readSchedule_122 3 rfl ?_
      refine J_bipush (v := 16) dX6_readSchedule_123 (by decide) ?_
      refine J_isub dX6_readSchedule_125 ?_
      refine J_iald dX6_readSchedule_126 ?_
      refine J_aload_n dX6_readSchedule_127 2 rfl ?_
      refine J_getR fd_6_2 w_210 rfl dX6_readSchedule_128 (fun r8 => ?_)
      refine J_iload_n dX6_readSchedule_131 3 rfl ?_
      refine J_bipush (v := 7) dX6_readSchedule_132 (by decide) ?_
      refine J_isub dX6_readSchedule_134 ?_
      refine J_iald dX6_readSchedule_135 ?_
      refine J_iadd dX6_readSchedule_136 ?_
      refine J_iload_n dX6_readSchedule_137 1 rfl ?_
      refine J_bipush (v := 7) dX6_readSchedule_138 (by decide) ?_
      refine J_iushrK dX6_readSchedule_140 ?_
      refine J_iload_n dX6_readSchedule_141 1 rfl ?_
      refine J_bipush (v := 25) dX6_readSchedule_142 (by decide) ?_
      refine J_ishlK dX6_readSchedule_144 ?_
      refine J_ior dX6_readSchedule_145 ?_
      refine J_iload_n dX6_readSchedule_146 1 rfl ?_
      refine J_bipush (v := 18) dX6_readSchedule_147 (by decide) ?_
      refine J_iushrK dX6_readSchedule_149 ?_
      refine J_iload_n dX6_readSchedule_150 1 rfl ?_
      refine J_bipush (v := 14) dX6_readSchedule_151 (by decide) ?_
      refine J_ishlK dX6_readSchedule_153 ?_
      refine J_ior dX6_readSchedule_154 ?_
      refine J_ixor dX6_readSchedule_155 ?_
      refine J_iload_n dX6_readSchedule_156 1 rfl ?_
      refine J_iconst (v := 3) dX6_readSchedule_157 (by decide) ?_
      refine J_iushrK dX6_readSchedule_158 ?_
      refine J_ixor dX6_readSchedule_159 ?_
      refine J_iadd dX6_readSchedule_160 ?_
      refine J_iload dX6_readSchedule_161 0 rfl ?_
      refine J_bipush (v := 17) dX6_readSchedule_163 (by decide) ?_
      refine J_iushrK dX6_readSchedule_165 ?_
      refine J_iload dX6_readSchedule_166 0 rfl ?_
      refine J_bipush (v := 15) dX6_readSchedule_168 (by decide) ?_
      refine J_ishlK dX6_readSchedule_170 ?_
      refine J_ior dX6_readSchedule_171 ?_
      refine J_iload dX6_readSchedule_172 0 rfl ?_
      refine J_bipush (v := 19) dX6_readSchedule_174 (by decide) ?_
      refine J_iushrK dX6_readSchedule_176 ?_
      refine J_iload dX6_readSchedule_177 0 rfl ?_
      refine J_bipush (v := 13) dX6_readSchedule_179 (by decide) ?_
      refine J_ishlK dX6_readSchedule_181 ?_
      refine J_ior dX6_readSchedule_182 ?_
      refine J_ixor dX6_readSchedule_183 ?_
      refine J_iload dX6_readSchedule_184 0 rfl ?_
      refine J_bipush (v := 10) dX6_readSchedule_186 (by decide) ?_
      refine J_iushrK dX6_readSchedule_188 ?_
      refine J_ixor dX6_readSchedule_189 ?_
      refine J_iadd dX6_readSchedule_190 ?_
      refine J_iast dX6_readSchedule_191 ?_
      refine J_iincK (z := 1) (lv' := [(2, .int _), (4, .int _), (3, .int _), (0, .ref _)]) dX6_readSchedule_192 3 rfl (by decide) (by decide) rfl ?_
      refine J_goto (tgt := 87) dX6_readSchedule_195 (by decide) ?_
      refine J_sub [3, 0] rfl ?_
      exact ih _ _ _
def fX6_readSchedule_2  : Nat → Nat → Int32 → Int32 → Mem → Option (Unit × Mem)
  | 0, _, _, _, _ => none
  | n + 1, l0, l1, l2, M => (if (16 : Int32) ≤ l2 then fX6_readSchedule_87  FU l0 (16 : Int32) M else (gR M 6 2 l0 fun r1 => (gR M 6 0 l0 fun r2 => (rI M .byte r2 (l1 + ((4 : Int32) * l2)) fun v3 => (gR M 6 0 l0 fun r4 => (rI M .byte r4 ((l1 + ((4 : Int32) * l2)) + (1 : Int32)) fun v5 => (gR M 6 0 l0 fun r6 => (rI M .byte r6 ((l1 + ((4 : Int32) * l2)) + (2 : Int32)) fun v7 => (gR M 6 0 l0 fun r8 => (rI M .byte r8 ((l1 + ((4 : Int32) * l2)) + (3 : Int32)) fun v9 => (wI M .int r1 l2 ((((xshl (v3 &&& (255 : Int32)) (24 : Int32)) ||| (xshl (v5 &&& (255 : Int32)) (16 : Int32))) ||| (xshl (v7 &&& (255 : Int32)) (8 : Int32))) ||| (v9 &&& (255 : Int32))) fun M10 => fX6_readSchedule_2  n l0 l1 (l2 + (1 : Int32)) M10)))))))))))
set_option maxHeartbeats 4000000 in
set_option maxRecDepth 100000 in
theorem jX6_readSchedule_2 (G : Gx) (l : Launch)   : ∀ (n : Nat) (l0 : Nat) (l1 : Int32) (l2 : Int32) (M : Mem), J G l cX6_readSchedule 5 RX6 none "readSchedule" 0 0 (QM G (fun _ : Unit => none)) 2 [(0, .ref (adr G l0)), (1, .int l1), (2, .int l2)] [] M (fX6_readSchedule_2  n l0 l1 l2 M) := by
  intro n
  induction n with
  | zero => intro l0 l1 l2 M; exact J_none
  | succ n ih =>
    intro l0 l1 l2 M
    rw [fX6_readSchedule_2]
    refine J_iload_n dX6_readSchedule_2 2 rfl ?_
    refine J_bipush (v := 16) dX6_readSchedule_3 (by decide) ?_
    refine J_icmp_ge (tgt := 84) dX6_readSchedule_5 (by decide) ?_ ?_
    · refine J_bipush (v := 16) dX6_readSchedule_84 (by decide) ?_
      refine J_istore_n (lv' := [(2, .int _), (0, .ref _), (1, .int _)]) dX6_readSchedule_86 (by decide) rfl ?_
      refine J_sub [1, 0] rfl ?_
      exact jX6_readSchedule_87 G l   FU _ _ _
    · refine J_iload_n dX6_readSchedule_8 1 rfl ?_
      refine J_iconst (v := 4) dX6_readSchedule_9 (by decide) ?_
      refine J_iload_n dX6_readSchedule_10 2 rfl ?_
      refine J_imul dX6_readSchedule_11 ?_
      refine J_iadd dX6_readSchedule_12 ?_
      refine J_istore_n (lv' := [(3, .int _), (0, .ref _), (1, .int _), (2, .int _)]) dX6_readSchedule_13 (by decide) rfl ?_
      refine J_aload_n dX6_readSchedule_14 1 rfl ?_
      refine J_getR fd_6_2 w_210 rfl dX6_readSchedule_15 (fun r1 => ?_)
      refine J_iload_n dX6_readSchedule_18 3 rfl ?_
      refine J_aload_n dX6_readSchedule_19 1 rfl ?_
      refine J_getR fd_6_0 w_209 rfl dX6_readSchedule_20 (fun r2 => ?_)
      refine J_iload_n dX6_readSchedule_23 0 rfl ?_
      refine J_bald dX6_readSchedule_24 ?_
      refine J_sipush (v := 255) dX6_readSchedule_25 (by decide) ?_
      refine J_iand dX6_readSchedule_28 ?_
      refine J_bipush (v := 24) dX6_readSchedule_29 (by decide) ?_
      refine J_ishlK dX6_readSchedule_31 ?_
      refine J_aload_n dX6_readSchedule_32 1 rfl ?_
      refine J_getR fd_6_0 w_209 rfl dX6_readSchedule_33 (fun r4 => ?_)
      refine J_iload_n dX6_readSchedule_36 0 rfl ?_
      refine J_iconst (v := 1) dX6_readSchedule_37 (by decide) ?_
      refine J_iadd dX6_readSchedule_38 ?_
      refine J_bald dX6_readSchedule_39 ?_
      refine J_sipush (v := 255) dX6_readSchedule_40 (by decide) ?_
      refine J_iand dX6_readSchedule_43 ?_
      refine J_bipush (v := 16) dX6_readSchedule_44 (by decide) ?_
      refine J_ishlK dX6_readSchedule_46 ?_
      refine J_ior dX6_readSchedule_47 ?_
      refine J_aload_n dX6_readSchedule_48 1 rfl ?_
      refine J_getR fd_6_0 w_209 rfl dX6_readSchedule_49 (fun r6 => ?_)
      refine J_iload_n dX6_readSchedule_52 0 rfl ?_
      refine J_iconst (v := 2) dX6_readSchedule_53 (by decide) ?_
      refine J_iadd dX6_readSchedule_54 ?_
      refine J_bald dX6_readSchedule_55 ?_
      refine J_sipush (v := 255) dX6_readSchedule_56 (by decide) ?_
      refine J_iand dX6_readSchedule_59 ?_
      refine J_bipush (v := 8) dX6_readSchedule_60 (by decide) ?_
      refine J_ishlK dX6_readSchedule_62 ?_
      refine J_ior dX6_readSchedule_63 ?_
      refine J_aload_n dX6_readSchedule_64 1 rfl ?_
      refine J_getR fd_6_0 w_209 rfl dX6_readSchedule_65 (fun r8 => ?_)
      refine J_iload_n dX6_readSchedule_68 0 rfl ?_
      refine J_iconst (v := 3) dX6_readSchedule_69 (by decide) ?_
      refine J_iadd dX6_readSchedule_70 ?_
      refine J_bald dX6_readSchedule_71 ?_
      refine J_sipush (v := 255) dX6_readSchedule_72 (by decide) ?_
      refine J_iand dX6_readSchedule_75 ?_
      refine J_ior dX6_readSchedule_76 ?_
      refine J_iast dX6_readSchedule_77 ?_
      refine J_iincK (z := 1) (lv' := [(2, .int _), (3, .int _), (0, .ref _), (1, .int _)]) dX6_readSchedule_78 3 rfl (by decide) (by decide) rfl ?_
      refine J_goto (tgt := 2) dX6_readSchedule_81 (by decide) ?_
      refine J_sub [2, 3, 0] rfl ?_
      exact ih _ _ _ _
def fX6_readSchedule (l0 : Nat) (l1 : Int32) (M : Mem) : Option (Unit × Mem) := fX6_readSchedule_2  FU l0 l1 (0 : Int32) M
set_option maxHeartbeats 4000000 in
set_option maxRecDepth 100000 in
theorem jX6_readSchedule (G : Gx) (l : Launch) (l0 : Nat) (l1 : Int32) (M : Mem) : J G l cX6_readSchedule 5 RX6 none "readSchedule" 0 0 (QM G (fun _ : Unit => none)) 0 [(0, .ref (adr G l0)), (1, .int l1)] [] M (fX6_readSchedule l0 l1 M) := by
  unfold fX6_readSchedule
  refine J_iconst (v := 0) dX6_readSchedule_0 (by decide) ?_
  refine J_istore_n (lv' := [(2, .int _), (0, .ref _), (1, .int _)]) dX6_readSchedule_1 (by decide) rfl ?_
  refine J_sub [1, 2, 0] rfl ?_
  exact jX6_readSchedule_2 G l   FU _ _ _ _
theorem okX6_readSchedule (G : Gx) (l : Launch) (l0 : Nat) (l1 : Int32) (M : Mem) : Con G l yX6_readSchedule cX6_readSchedule 5 none 0 0 (fun _ : Unit => none) [.ref (adr G l0), .int l1] M (fX6_readSchedule l0 l1 M) := con_of (own := RX6) (nm := "readSchedule") (by decide +kernel) rfl rfl (Nat.le_of_ble_eq_true rfl) (jX6_readSchedule G l l0 l1 M)
theorem mkX6_readSchedule : MOk yX6_readSchedule cX6_readSchedule 5 none 1 := ⟨w_260, tb1 (List.mem_of_getElem? (i := 6) rfl) rfl, by decide +kernel, by decide +kernel, by decide +kernel⟩
-- X6_mix
def fX6_mix_66  : Nat → Nat → Int32 → Int32 → Int32 → Int32 → Int32 → Int32 → Int32 → Int32 → Int32 → Mem → Option (Unit × Mem)
  | 0, _, _, _, _, _, _, _, _, _, _, _ => none
  | n + 1, l0, l1, l2, l3, l4, l5, l6, l7, l8, l9, M => (if (64 : Int32) ≤ l9 then (gR M 6 3 l0 fun r1 => (rI M .int r1 (0 : Int32) fun v2 => (wI M .int r1 (0 : Int32) (v2 + l1) fun M3 => (gR M3 6 3 l0 fun r4 => (rI M3 .int r4 (1 : Int32) fun v5 => (wI M3 .int r4 (1 : Int32) (v5 + l2) fun M6 => (gR M6 6 3 l0 fun r7 => (rI M6 .int r7 (2 : Int32) fun v8 => (wI M6 .int r7 (2 : Int32) (v8 + l3) fun M9 => (gR M9 6 3 l0 fun r10 => (rI M9 .int r10 (3 : Int32) fun v11 => (wI M9 .int r10 (3 : Int32) (v11 + l4) fun M12 => (gR M12 6 3 l0 fun r13 => (rI M12 .int r13 (4 : Int32) fun v14 => (wI M12 .int r13 (4 : Int32) (v14 + l5) fun M15 => (gR M15 6 3 l0 fun r16 => (rI M15 .int r16 (5 : Int32) fun v17 => (wI M15 .int r16 (5 : Int32) (v17 + l6) fun M18 => (gR M18 6 3 l0 fun r19 => (rI M18 .int r19 (6 : Int32) fun v20 => (wI M18 .int r19 (6 : Int32) (v20 + l7) fun M21 => (gR M21 6 3 l0 fun r22 => (rI M21 .int r22 (7 : Int32) fun v23 => (wI M21 .int r22 (7 : Int32) (v23 + l8) fun M24 => some ((), M24))))))))))))))))))))))))) else (rI M .int 1 l9 fun v25 => (gR M 6 2 l0 fun r26 => (rI M .int r26 l9 fun v27 => fX6_mix_66  n l0 (((((l8 + ((((xushr l5 (6 : Int32)) ||| (xshl l5 (26 : Int32))) ^^^ ((xushr l5 (11 : Int32)) ||| (xshl l5 (21 : Int32)))) ^^^ ((xushr l5 (25 : Int32)) ||| (xshl l5 (7 : Int32))))) + ((l5 &&& l6) ^^^ ((l5 ^^^ (-1 : Int32)) &&& l7))) + v25) + v27) + (((((xushr l1 (2 : Int32)) ||| (xshl l1 (30 : Int32))) ^^^ ((xushr l1 (13 : Int32)) ||| (xshl l1 (19 : Int32)))) ^^^ ((xushr l1 (22 : Int32)) ||| (xshl l1 (10 : Int32)))) + (((l1 &&& l2) ^^^ (l1 &&& l3)) ^^^ (l2 &&& l3)))) l1 l2 l3 (l4 + ((((l8 + ((((xushr l5 (6 : Int32)) ||| (xshl l5 (26 : Int32))) ^^^ ((xushr l5 (11 : Int32)) ||| (xshl l5 (21 : Int32)))) ^^^ ((xushr l5 (25 : Int32)) ||| (xshl l5 (7 : Int32))))) + ((l5 &&& l6) ^^^ ((l5 ^^^ (-1 : Int32)) &&& l7))) + v25) + v27)) l5 l6 l7 (l9 + (1 : Int32)) M))))
set_option maxHeartbeats 4000000 in
set_option maxRecDepth 100000 in
theorem jX6_mix_66 (G : Gx) (l : Launch)   : ∀ (n : Nat) (l0 : Nat) (l1 : Int32) (l2 : Int32) (l3 : Int32) (l4 : Int32) (l5 : Int32) (l6 : Int32) (l7 : Int32) (l8 : Int32) (l9 : Int32) (M : Mem), J G l cX6_mix 12 RX6 none "mix" 0 0 (QM G (fun _ : Unit => none)) 66 [(0, .ref (adr G l0)), (1, .int l1), (2, .int l2), (3, .int l3), (4, .int l4), (5, .int l5), (6, .int l6), (7, .int l7), (8, .int l8), (9, .int l9)] [] M (fX6_mix_66  n l0 l1 l2 l3 l4 l5 l6 l7 l8 l9 M) := by
  intro n
  induction n with
  | zero => intro l0 l1 l2 l3 l4 l5 l6 l7 l8 l9 M; exact J_none
  | succ n ih =>
    intro l0 l1 l2 l3 l4 l5 l6 l7 l8 l9 M
    rw [fX6_mix_66]
    refine J_iload dX6_mix_66 9 rfl ?_
    refine J_bipush (v := 64) dX6_mix_68 (by decide) ?_
    refine J_icmp_ge (tgt := 222) dX6_mix_70 (by decide) ?_ ?_
    · refine J_aload_n dX6_mix_222 0 rfl ?_
      refine J_getR fd_6_3 w_211 rfl dX6_mix_223 (fun r1 => ?_)
      refine J_iconst (v := 0) dX6_mix_226 (by decide) ?_
      refine J_dup2 dX6_mix_227 rfl rfl ?_
      refine J_iald dX6_mix_228 ?_
      refine J_iload_n dX6_mix_229 1 rfl ?_
      refine J_iadd dX6_mix_230 ?_
      refine J_iast dX6_mix_231 ?_
      refine J_aload_n dX6_mix_232 0 rfl ?_
      refine J_getR fd_6_3 w_211 rfl dX6_mix_233 (fun r4 => ?_)
      refine J_iconst (v := 1) dX6_mix_236 (by decide) ?_
      refine J_dup2 dX6_mix_237 rfl rfl ?_
      refine J_iald dX6_mix_238 ?_
      refine J_iload_n dX6_mix_239 2 rfl ?_
      refine J_iadd dX6_mix_240 ?_
      refine J_iast dX6_mix_241 ?_
      refine J_aload_n dX6_mix_242 0 rfl ?_
      refine J_getR fd_6_3 w_211 rfl dX6_mix_243 (fun r7 => ?_)
      refine J_iconst (v := 2) dX6_mix_246 (by decide) ?_
      refine J_dup2 dX6_mix_247 rfl rfl ?_
      refine J_iald dX6_mix_248 ?_
      refine J_iload_n dX6_mix_249 3 rfl ?_
      refine J_iadd dX6_mix_250 ?_
      refine J_iast dX6_mix_251 ?_
      refine J_aload_n dX6_mix_252 0 rfl ?_
      refine J_getR fd_6_3 w_211 rfl dX6_mix_253 (fun r10 => ?_)
      refine J_iconst (v := 3) dX6_mix_256 (by decide) ?_
      refine J_dup2 dX6_mix_257 rfl rfl ?_
      refine J_iald dX6_mix_258 ?_
      refine J_iload dX6_mix_259 4 rfl ?_
      refine J_iadd dX6_mix_261 ?_
      refine J_iast dX6_mix_262 ?_
      refine J_aload_n dX6_mix_263 0 rfl ?_
      refine J_getR fd_6_3 w_211 rfl dX6_mix_264 (fun r13 => ?_)
      refine J_iconst (v := 4) dX6_mix_267 (by decide) ?_
      refine J_dup2 dX6_mix_268 rfl rfl ?_
      refine J_iald dX6_mix_269 ?_
      refine J_iload dX6_mix_270 5 rfl ?_
      refine J_iadd dX6_mix_272 ?_
      refine J_iast dX6_mix_273 ?_
      refine J_aload_n dX6_mix_274 0 rfl ?_
      refine J_getR fd_6_3 w_211 rfl dX6_mix_275 (fun r16 => ?_)
      refine J_iconst (v := 5) dX6_mix_278 (by decide) ?_
      refine J_dup2 dX6_mix_279 rfl rfl ?_
      refine J_iald dX6_mix_280 ?_
      refine J_iload dX6_mix_281 6 rfl ?_
      refine J_iadd dX6_mix_283 ?_
      refine J_iast dX6_mix_284 ?_
      refine J_aload_n dX6_mix_285 0 rfl ?_
      refine J_getR fd_6_3 w_211 rfl dX6_mix_286 (fun r19 => ?_)
      refine J_bipush (v := 6) dX6_mix_289 (by decide) ?_
      refine J_dup2 dX6_mix_291 rfl rfl ?_
      refine J_iald dX6_mix_292 ?_
      refine J_iload dX6_mix_293 7 rfl ?_
      refine J_iadd dX6_mix_295 ?_
      refine J_iast dX6_mix_296 ?_
      refine J_aload_n dX6_mix_297 0 rfl ?_
      refine J_getR fd_6_3 w_211 rfl dX6_mix_298 (fun r22 => ?_)
      refine J_bipush (v := 7) dX6_mix_301 (by decide) ?_
      refine J_dup2 dX6_mix_303 rfl rfl ?_
      refine J_iald dX6_mix_304 ?_
      refine J_iload dX6_mix_305 8 rfl ?_
      refine J_iadd dX6_mix_307 ?_
      refine J_iast dX6_mix_308 ?_
      exact J_vret dX6_mix_309
    · refine J_iload dX6_mix_73 8 rfl ?_
      refine J_iload dX6_mix_75 5 rfl ?_
      refine J_bipush (v := 6) dX6_mix_77 (by decide) ?_
      refine J_iushrK dX6_mix_79 ?_
      refine J_iload dX6_mix_80 5 rfl ?_
      refine J_bipush (v := 26) dX6_mix_82 (by decide) ?_
      refine J_ishlK dX6_mix_84 ?_
      refine J_ior dX6_mix_85 ?_
      refine J_iload dX6_mix_86 5 rfl ?_
      refine J_bipush (v := 11) dX6_mix_88 (by decide) ?_
      refine J_iushrK dX6_mix_90 ?_
      refine J_iload dX6_mix_91 5 rfl ?_
      refine J_bipush (v := 21) dX6_mix_93 (by decide) ?_
      refine J_ishlK dX6_mix_95 ?_
      refine J_ior dX6_mix_96 ?_
      refine J_ixor dX6_mix_97 ?_
      refine J_iload dX6_mix_98 5 rfl ?_
      refine J_bipush (v := 25) dX6_mix_100 (by decide) ?_
      refine J_iushrK dX6_mix_102 ?_
      refine J_iload dX6_mix_103 5 rfl ?_
      refine J_bipush (v := 7) dX6_mix_105 (by decide) ?_
      refine J_ishlK dX6_mix_107 ?_
      refine J_ior dX6_mix_108 ?_
      refine J_ixor dX6_mix_109 ?_
      refine J_iadd dX6_mix_110 ?_
      refine J_iload dX6_mix_111 5 rfl ?_
      refine J_iload dX6_mix_113 6 rfl ?_
      refine J_iand dX6_mix_115 ?_
      refine J_iload dX6_mix_116 5 rfl ?_
      refine J_iconst (v := -1) dX6_mix_118 (by decide) ?_
      refine J_ixor dX6_mix_119 ?_
      refine J_iload dX6_mix_120 7 rfl ?_
      refine J_iand dX6_mix_122 ?_
      refine J_ixor dX6_mix_123 ?_
      refine J_iadd dX6_mix_124 ?_
      refine J_gets (j := 1) rfl (by decide) w_264 dX6_mix_125 ?_
      refine J_iload dX6_mix_128 9 rfl ?_
      refine J_iald dX6_mix_130 ?_
      refine J_iadd dX6_mix_131 ?_
      refine J_aload_n dX6_mix_132 0 rfl ?_
      refine J_getR fd_6_2 w_210 rfl dX6_mix_133 (fun r26 => ?_)
      refine J_iload dX6_mix_136 9 rfl ?_
      refine J_iald dX6_mix_138 ?_
      refine J_iadd dX6_mix_139 ?_
      refine J_istore (lv' := [(10, .int _), (0, .ref _), (1, .int _), (2, .int _), (3, .int _), (4, .int _), (5, .int _), (6, .int _), (7, .int _), (8, .int _), (9, .int _)]) dX6_mix_140 (by decide) rfl ?_
      refine J_iload_n dX6_mix_142 2 rfl ?_
      refine J_iconst (v := 2) dX6_mix_143 (by decide) ?_
      refine J_iushrK dX6_mix_144 ?_
      refine J_iload_n dX6_mix_145 2 rfl ?_
      refine J_bipush (v := 30) dX6_mix_146 (by decide) ?_
      refine J_ishlK dX6_mix_148 ?_
      refine J_ior dX6_mix_149 ?_
      refine J_iload_n dX6_mix_150 2 rfl ?_
      refine J_bipush (v := 13) dX6_mix_151 (by decide) ?_
      refine J_iushrK dX6_mix_153 ?_
      refine J_iload_n dX6_mix_154 2 rfl ?_
      refine J_bipush (v := 19) dX6_mix_155 (by decide) ?_
      refine J_ishlK dX6_mix_157 ?_
      refine J_ior dX6_mix_158 ?_
      refine J_ixor dX6_mix_159 ?_
      refine J_iload_n dX6_mix_160 2 rfl ?_
      refine J_bipush (v := 22) dX6_mix_161 (by decide) ?_
      refine J_iushrK dX6_mix_163 ?_
      refine J_iload_n dX6_mix_164 2 rfl ?_
      refine J_bipush (v := 10) dX6_mix_165 (by decide) ?_
      refine J_ishlK dX6_mix_167 ?_
      refine J_ior dX6_mix_168 ?_
      refine J_ixor dX6_mix_169 ?_
      refine J_iload_n dX6_mix_170 2 rfl ?_
      refine J_iload_n dX6_mix_171 3 rfl ?_
      refine J_iand dX6_mix_172 ?_
      refine J_iload_n dX6_mix_173 2 rfl ?_
      refine J_iload_n dX6_mix_174 4 rfl ?_
      refine J_iand dX6_mix_175 ?_
      refine J_ixor dX6_mix_176 ?_
      refine J_iload_n dX6_mix_177 3 rfl ?_
      refine J_iload_n dX6_mix_178 4 rfl ?_
      refine J_iand dX6_mix_179 ?_
      refine J_ixor dX6_mix_180 ?_
      refine J_iadd dX6_mix_181 ?_
      refine J_istore (lv' := [(11, .int _), (10, .int _), (0, .ref _), (1, .int _), (2, .int _), (3, .int _), (4, .int _), (5, .int _), (6, .int _), (7, .int _), (8, .int _), (9, .int _)]) dX6_mix_182 (by decide) rfl ?_
      refine J_iload dX6_mix_184 9 rfl ?_
      refine J_istore (lv' := [(8, .int _), (11, .int _), (10, .int _), (0, .ref _), (1, .int _), (2, .int _), (3, .int _), (4, .int _), (5, .int _), (6, .int _), (7, .int _), (9, .int _)]) dX6_mix_186 (by decide) rfl ?_
      refine J_iload dX6_mix_188 9 rfl ?_
      refine J_istore (lv' := [(7, .int _), (8, .int _), (11, .int _), (10, .int _), (0, .ref _), (1, .int _), (2, .int _), (3, .int _), (4, .int _), (5, .int _), (6, .int _), (9, .int _)]) dX6_mix_190 (by decide) rfl ?_
      refine J_iload dX6_mix_192 9 rfl ?_
      refine J_istore (lv' := [(6, .int _), (7, .int _), (8, .int _), (11, .int _), (10, .int _), (0, .ref _), (1, .int _), (2, .int _), (3, .int _), (4, .int _), (5, .int _), (9, .int _)]) dX6_mix_194 (by decide) rfl ?_
      refine J_iload dX6_mix_196 9 rfl ?_
      refine J_iload dX6_mix_198 4 rfl ?_
      refine J_iadd dX6_mix_200 ?_
      refine J_istore (lv' := [(5, .int _), (6, .int _), (7, .int _), (8, .int _), (11, .int _), (10, .int _), (0, .ref _), (1, .int _), (2, .int _), (3, .int _), (4, .int _), (9, .int _)]) dX6_mix_201 (by decide) rfl ?_
      refine J_iload_n dX6_mix_203 9 rfl ?_
      refine J_istore (lv' := [(4, .int _), (5, .int _), (6, .int _), (7, .int _), (8, .int _), (11, .int _), (10, .int _), (0, .ref _), (1, .int _), (2, .int _), (3, .int _), (9, .int _)]) dX6_mix_204 (by decide) rfl ?_
      refine J_iload_n dX6_mix_206 9 rfl ?_
      refine J_istore_n (lv' := [(3, .int _), (4, .int _), (5, .int _), (6, .int _), (7, .int _), (8, .int _), (11, .int _), (10, .int _), (0, .ref _), (1, .int _), (2, .int _), (9, .int _)]) dX6_mix_207 (by decide) rfl ?_
      refine J_iload_n dX6_mix_208 9 rfl ?_
      refine J_istore_n (lv' := [(2, .int _), (3, .int _), (4, .int _), (5, .int _), (6, .int _), (7, .int _), (8, .int _), (11, .int _), (10, .int _), (0, .ref _), (1, .int _), (9, .int _)]) dX6_mix_209 (by decide) rfl ?_
      refine J_iload dX6_mix_210 8 rfl ?_
      refine J_iload dX6_mix_212 7 rfl ?_
      refine J_iadd dX6_mix_214 ?_
      refine J_istore_n (lv' := [(1, .int _), (2, .int _), (3, .int _), (4, .int _), (5, .int _), (6, .int _), (7, .int _), (8, .int _), (11, .int _), (10, .int _), (0, .ref _), (9, .int _)]) dX6_mix_215 (by decide) rfl ?_
      refine J_iincK (z := 1) (lv' := [(9, .int _), (1, .int _), (2, .int _), (3, .int _), (4, .int _), (5, .int _), (6, .int _), (7, .int _), (8, .int _), (11, .int _), (10, .int _), (0, .ref _)]) dX6_mix_216 11 rfl (by decide) (by decide) rfl ?_
      refine J_goto (tgt := 66) dX6_mix_219 (by decide) ?_
      refine J_sub [11, 1, 2, 3, 4, 5, 6, 7, 8, 0] rfl ?_
      exact ih _ _ _ _ _ _ _ _ _ _ _
def fX6_mix (l0 : Nat) (M : Mem) : Option (Unit × Mem) := (gR M 6 3 l0 fun r1 => (rI M .int r1 (0 : Int32) fun v2 => (gR M 6 3 l0 fun r3 => (rI M .int r3 (1 : Int32) fun v4 => (gR M 6 3 l0 fun r5 => (rI M .int r5 (2 : Int32) fun v6 => (gR M 6 3 l0 fun r7 => (rI M .int r7 (3 : Int32) fun v8 => (gR M 6 3 l0 fun r9 => (rI M .int r9 (4 : Int32) fun v10 => (gR M 6 3 l0 fun r11 => (rI M .int r11 (5 : Int32) fun v12 => (gR M 6 3 l0 fun r13 => (rI M .int r13 (6 : Int32) fun v14 => (gR M 6 3 l0 fun r15 => (rI M .int r15 (7 : Int32) fun v16 => fX6_mix_66  FU l0 v2 v4 v6 v8 v10 v12 v14 v16 (0 : Int32) M))))))))))))))))
set_option maxHeartbeats 4000000 in
set_option maxRecDepth 100000 in
theorem jX6_mix (G : Gx) (l : Launch) (l0 : Nat) (M : Mem) : J G l cX6_mix 12 RX6 none "mix" 0 0 (QM G (fun _ : Unit => none)) 0 [(0, .ref (adr G l0))] [] M (fX6_mix l0 M) := by
  unfold fX6_mix
  refine J_aload_n dX6_mix_0 0 rfl ?_
  refine J_getR fd_6_3 w_211 rfl dX6_mix_1 (fun r1 => ?_)
  refine J_iconst (v := 0) dX6_mix_4 (by decide) ?_
  refine J_iald dX6_mix_5 ?_
  refine J_istore_n (lv' := [(1, .int _), (0, .ref _)]) dX6_mix_6 (by decide) rfl ?_
  refine J_aload_n dX6_mix_7 1 rfl ?_
  refine J_getR fd_6_3 w_211 rfl dX6_mix_8 (fun r3 => ?_)
  refine J_iconst (v := 1) dX6_mix_11 (by decide) ?_
  refine J_iald dX6_mix_12 ?_
  refine J_istore_n (lv' := [(2, .int _), (1, .int _), (0, .ref _)]) dX6_mix_13 (by decide) rfl ?_
  refine J_aload_n dX6_mix_14 2 rfl ?_
  refine J_getR fd_6_3 w_211 rfl dX6_mix_15 (fun r5 => ?_)
  refine J_iconst (v := 2) dX6_mix_18 (by decide) ?_
  refine J_iald dX6_mix_19 ?_
  refine J_istore_n (lv' := [(3, .int _), (2, .int _), (1, .int _), (0, .ref _)]) dX6_mix_20 (by decide) rfl ?_
  refine J_aload_n dX6_mix_21 3 rfl ?_
  refine J_getR fd_6_3 w_211 rfl dX6_mix_22 (fun r7 => ?_)
  refine J_iconst (v := 3) dX6_mix_25 (by decide) ?_
  refine J_iald dX6_mix_26 ?_
  refine J_istore (lv' := [(4, .int _), (3, .int _), (2, .int _), (1, .int _), (0, .ref _)]) dX6_mix_27 (by decide) rfl ?_
  refine J_aload_n dX6_mix_29 4 rfl ?_
  refine J_getR fd_6_3 w_211 rfl dX6_mix_30 (fun r9 => ?_)
  refine J_iconst (v := 4) dX6_mix_33 (by decide) ?_
  refine J_iald dX6_mix_34 ?_
  refine J_istore (lv' := [(5, .int _), (4, .int _), (3, .int _), (2, .int _), (1, .int _), (0, .ref _)]) dX6_mix_35 (by decide) rfl ?_
  refine J_aload_n dX6_mix_37 5 rfl ?_
  refine J_getR fd_6_3 w_211 rfl dX6_mix_38 (fun r11 => ?_)
  refine J_iconst (v := 5) dX6_mix_41 (by decide) ?_
  refine J_iald dX6_mix_42 ?_
  refine J_istore (lv' := [(6, .int _), (5, .int _), (4, .int _), (3, .int _), (2, .int _), (1, .int _), (0, .ref _)]) dX6_mix_43 (by decide) rfl ?_
  refine J_aload_n dX6_mix_45 6 rfl ?_
  refine J_getR fd_6_3 w_211 rfl dX6_mix_46 (fun r13 => ?_)
  refine J_bipush (v := 6) dX6_mix_49 (by decide) ?_
  refine J_iald dX6_mix_51 ?_
  refine J_istore (lv' := [(7, .int _), (6, .int _), (5, .int _), (4, .int _), (3, .int _), (2, .int _), (1, .int _), (0, .ref _)]) dX6_mix_52 (by decide) rfl ?_
  refine J_aload_n dX6_mix_54 7 rfl ?_
  refine J_getR fd_6_3 w_211 rfl dX6_mix_55 (fun r15 => ?_)
  refine J_bipush (v := 7) dX6_mix_58 (by decide) ?_
  refine J_iald dX6_mix_60 ?_
  refine J_istore (lv' := [(8, .int _), (7, .int _), (6, .int _), (5, .int _), (4, .int _), (3, .int _), (2, .int _), (1, .int _), (0, .ref _)]) dX6_mix_61 (by decide) rfl ?_
  refine J_iconst (v := 0) dX6_mix_63 (by decide) ?_
  refine J_istore (lv' := [(9, .int _), (8, .int _), (7, .int _), (6, .int _), (5, .int _), (4, .int _), (3, .int _), (2, .int _), (1, .int _), (0, .ref _)]) dX6_mix_64 (by decide) rfl ?_
  refine J_sub [9, 8, 7, 6, 5, 4, 3, 2, 1, 0] rfl ?_
  exact jX6_mix_66 G l   FU _ _ _ _ _ _ _ _ _ _ _
theorem okX6_mix (G : Gx) (l : Launch) (l0 : Nat) (M : Mem) : Con G l yX6_mix cX6_mix 12 none 0 0 (fun _ : Unit => none) [.ref (adr G l0)] M (fX6_mix l0 M) := con_of (own := RX6) (nm := "mix") (by decide +kernel) rfl rfl (Nat.le_of_ble_eq_true rfl) (jX6_mix G l l0 M)
theorem mkX6_mix : MOk yX6_mix cX6_mix 12 none 0 := ⟨w_265, tb1 (List.mem_of_getElem? (i := 6) rfl) rfl, by decide +kernel, by decide +kernel, by decide +kernel⟩
-- X6_end
def fX6_end_107  : Nat → Nat → Nat → Int32 → Int32 → Mem → Option (Unit × Mem)
  | 0, _, _, _, _, _ => none
  | n + 1, l0, l1, l2, l4, M => (if l2 ≤ l4 then (gR M 6 3 l0 fun r1 => (bd (fX8_copyHash r1 l1 M) fun _u3 M2 => some ((), M2))) else (cV M 6 l0 (fX6_readSchedule l0 (l4 * (64 : Int32)) M) fun _u5 M4 => (cV M4 6 l0 (fX6_mix l0 M4) fun _u7 M6 => fX6_end_107  n l0 l1 l2 (l4 + (1 : Int32)) M6)))
set_option maxHeartbeats 4000000 in
set_option maxRecDepth 100000 in
theorem jX6_end_107 (G : Gx) (l : Launch)   : ∀ (n : Nat) (l0 : Nat) (l1 : Nat) (l2 : Int32) (l4 : Int32) (M : Mem), J G l cX6_end 5 RX6 none "end" 1 31 (QM G (fun _ : Unit => none)) 107 [(0, .ref (adr G l0)), (1, .ref (adr G l1)), (2, .int l2), (4, .int l4)] [] M (fX6_end_107  n l0 l1 l2 l4 M) := by
  intro n
  induction n with
  | zero => intro l0 l1 l2 l4 M; exact J_none
  | succ n ih =>
    intro l0 l1 l2 l4 M
    rw [fX6_end_107]
    refine J_iload dX6_end_107 3 rfl ?_
    refine J_iload_n dX6_end_109 2 rfl ?_
    refine J_icmp_ge (tgt := 132) dX6_end_110 (by decide) ?_ ?_
    · refine J_aload_n dX6_end_132 0 rfl ?_
      refine J_getR fd_6_3 w_211 rfl dX6_end_133 (fun r1 => ?_)
      refine J_aload_n dX6_end_136 1 rfl ?_
      refine J_callSNv (host := "ChainBooks") (okX8_copyHash G l _ _ _) mkX8_copyHash (List.mem_of_getElem? (i := 17) rfl) w_259 ⟨by decide, by decide⟩ rfl (Nat.le_of_ble_eq_true rfl) dX6_end_137 (fun _u3 M2 => ?_)
      exact J_vret dX6_end_140
    · refine J_aload_n dX6_end_113 0 rfl ?_
      refine J_iload dX6_end_114 3 rfl ?_
      refine J_bipush (v := 64) dX6_end_116 (by decide) ?_
      refine J_imul dX6_end_118 ?_
      refine J_callVv (okX6_readSchedule G l _ _ _) mkX6_readSchedule _ _ rfl w_261 w_262 w_263 ⟨by decide, by decide⟩ rfl (Nat.le_of_ble_eq_true rfl) dX6_end_119 (fun _u5 M4 => ?_)
      refine J_aload_n dX6_end_122 0 rfl ?_
      refine J_callVv (okX6_mix G l _ _) mkX6_mix _ _ rfl w_266 w_267 w_268 ⟨by decide, by decide⟩ rfl (Nat.le_of_ble_eq_true rfl) dX6_end_123 (fun _u7 M6 => ?_)
      refine J_iincK (z := 1) (lv' := [(4, .int _), (0, .ref _), (1, .ref _), (2, .int _)]) dX6_end_126 3 rfl (by decide) (by decide) rfl ?_
      refine J_goto (tgt := 107) dX6_end_129 (by decide) ?_
      refine J_sub [1, 2, 3, 0] rfl ?_
      exact ih _ _ _ _ _
def fX6_end_42  : Nat → Nat → Nat → Int32 → Int32 → Int32 → Mem → Option (Unit × Mem)
  | 0, _, _, _, _, _, _ => none
  | n + 1, l0, l1, l2, l3, l4, M => (if (l3 - (2 : Int32)) ≤ l4 then (gR M 6 0 l0 fun r1 => (gI M 6 1 l0 fun v2 => (wI M .byte r1 (l3 - (2 : Int32)) (xshr v2 (5 : Int32)).toInt8.toInt32 fun M3 => (gR M3 6 0 l0 fun r4 => (gI M3 6 1 l0 fun v5 => (wI M3 .byte r4 (l3 - (1 : Int32)) (xshl v5 (3 : Int32)).toInt8.toInt32 fun M6 => (gR M6 6 3 l0 fun r7 => (bd (fX8_copyHash 0 r7 M6) fun _u9 M8 => fX6_end_107  FU l0 l1 l2 (0 : Int32) M8)))))))) else (gR M 6 0 l0 fun r10 => (wI M .byte r10 l4 (0 : Int32) fun M11 => fX6_end_42  n l0 l1 l2 l3 (l4 + (1 : Int32)) M11)))
set_option maxHeartbeats 4000000 in
set_option maxRecDepth 100000 in
theorem jX6_end_42 (G : Gx) (l : Launch)   : ∀ (n : Nat) (l0 : Nat) (l1 : Nat) (l2 : Int32) (l3 : Int32) (l4 : Int32) (M : Mem), J G l cX6_end 5 RX6 none "end" 1 31 (QM G (fun _ : Unit => none)) 42 [(0, .ref (adr G l0)), (1, .ref (adr G l1)), (2, .int l2), (3, .int l3), (4, .int l4)] [] M (fX6_end_42  n l0 l1 l2 l3 l4 M) := by
  intro n
  induction n with
  | zero => intro l0 l1 l2 l3 l4 M; exact J_none
  | succ n ih =>
    intro l0 l1 l2 l3 l4 M
    rw [fX6_end_42]
    refine J_iload dX6_end_42 4 rfl ?_
    refine J_iload_n dX6_end_44 3 rfl ?_
    refine J_iconst (v := 2) dX6_end_45 (by decide) ?_
    refine J_isub dX6_end_46 ?_
    refine J_icmp_ge (tgt := 64) dX6_end_47 (by decide) ?_ ?_
    · refine J_aload_n dX6_end_64 0 rfl ?_
      refine J_getR fd_6_0 w_209 rfl dX6_end_65 (fun r1 => ?_)
      refine J_iload_n dX6_end_68 3 rfl ?_
      refine J_iconst (v := 2) dX6_end_69 (by decide) ?_
      refine J_isub dX6_end_70 ?_
      refine J_aload_n dX6_end_71 0 rfl ?_
      refine J_getI fd_6_1 w_239 rfl dX6_end_72 ?_
      refine J_iconst (v := 5) dX6_end_75 (by decide) ?_
      refine J_ishrK dX6_end_76 ?_
      refine J_i2b dX6_end_77 ?_
      refine J_bast dX6_end_78 ?_
      refine J_aload_n dX6_end_79 0 rfl ?_
      refine J_getR fd_6_0 w_209 rfl dX6_end_80 (fun r4 => ?_)
      refine J_iload_n dX6_end_83 3 rfl ?_
      refine J_iconst (v := 1) dX6_end_84 (by decide) ?_
      refine J_isub dX6_end_85 ?_
      refine J_aload_n dX6_end_86 0 rfl ?_
      refine J_getI fd_6_1 w_239 rfl dX6_end_87 ?_
      refine J_iconst (v := 3) dX6_end_90 (by decide) ?_
      refine J_ishlK dX6_end_91 ?_
      refine J_i2b dX6_end_92 ?_
      refine J_bast dX6_end_93 ?_
      refine J_gets (j := 0) rfl (by decide) w_269 dX6_end_94 ?_
      refine J_aload_n dX6_end_97 0 rfl ?_
      refine J_getR fd_6_3 w_211 rfl dX6_end_98 (fun r7 => ?_)
      refine J_callSNv (host := "ChainBooks") (okX8_copyHash G l _ _ _) mkX8_copyHash (List.mem_of_getElem? (i := 17) rfl) w_259 ⟨by decide, by decide⟩ rfl (Nat.le_of_ble_eq_true rfl) dX6_end_101 (fun _u9 M8 => ?_)
      refine J_iconst (v := 0) dX6_end_104 (by decide) ?_
      refine J_istore (lv' := [(4, .int _), (0, .ref _), (1, .ref _), (2, .int _), (3, .int _)]) dX6_end_105 (by decide) rfl ?_
      refine J_sub [1, 2, 3, 0] rfl ?_
      exact jX6_end_107 G l   FU _ _ _ _ _
    · refine J_aload_n dX6_end_50 0 rfl ?_
      refine J_getR fd_6_0 w_209 rfl dX6_end_51 (fun r10 => ?_)
      refine J_iload dX6_end_54 4 rfl ?_
      refine J_iconst (v := 0) dX6_end_56 (by decide) ?_
      refine J_bast dX6_end_57 ?_
      refine J_iincK (z := 1) (lv' := [(4, .int _), (0, .ref _), (1, .ref _), (2, .int _), (3, .int _)]) dX6_end_58 4 rfl (by decide) (by decide) rfl ?_
      refine J_goto (tgt := 42) dX6_end_61 (by decide) ?_
      refine J_sub [1, 2, 3, 4, 0] rfl ?_
      exact ih _ _ _ _ _ _
def fX6_end_17  (l0 : Nat) (l1 : Nat) (s0 : Int32) (M : Mem) : Option (Unit × Mem) := (gR M 6 0 l0 fun r1 => (gI M 6 1 l0 fun v2 => (wI M .byte r1 v2 (-128 : Int32) fun M3 => (gI M3 6 1 l0 fun v4 => fX6_end_42  FU l0 l1 s0 (s0 * (64 : Int32)) (v4 + (1 : Int32)) M3))))
set_option maxHeartbeats 4000000 in
set_option maxRecDepth 100000 in
theorem jX6_end_17 (G : Gx) (l : Launch)   (l0 : Nat) (l1 : Nat) (s0 : Int32) (M : Mem) : J G l cX6_end 5 RX6 none "end" 1 31 (QM G (fun _ : Unit => none)) 17 [(0, .ref (adr G l0)), (1, .ref (adr G l1))] [.int s0] M (fX6_end_17  l0 l1 s0 M) := by
  unfold fX6_end_17
  refine J_istore_n (lv' := [(2, .int _), (0, .ref _), (1, .ref _)]) dX6_end_17 (by decide) rfl ?_
  refine J_iload_n dX6_end_18 0 rfl ?_
  refine J_bipush (v := 64) dX6_end_19 (by decide) ?_
  refine J_imul dX6_end_21 ?_
  refine J_istore_n (lv' := [(3, .int _), (2, .int _), (0, .ref _), (1, .ref _)]) dX6_end_22 (by decide) rfl ?_
  refine J_aload_n dX6_end_23 2 rfl ?_
  refine J_getR fd_6_0 w_209 rfl dX6_end_24 (fun r1 => ?_)
  refine J_aload_n dX6_end_27 2 rfl ?_
  refine J_getI fd_6_1 w_239 rfl dX6_end_28 ?_
  refine J_bipush (v := -128) dX6_end_31 (by decide) ?_
  refine J_bast dX6_end_33 ?_
  refine J_aload_n dX6_end_34 2 rfl ?_
  refine J_getI fd_6_1 w_239 rfl dX6_end_35 ?_
  refine J_iconst (v := 1) dX6_end_38 (by decide) ?_
  refine J_iadd dX6_end_39 ?_
  refine J_istore (lv' := [(4, .int _), (3, .int _), (2, .int _), (0, .ref _), (1, .ref _)]) dX6_end_40 (by decide) rfl ?_
  refine J_sub [3, 4, 2, 1, 0] rfl ?_
  exact jX6_end_42 G l   FU _ _ _ _ _ _
def fX6_end (l0 : Nat) (l1 : Nat) (M : Mem) : Option (Unit × Mem) := (gI M 6 1 l0 fun v1 => (if (64 : Int32) < (v1 + (9 : Int32)) then fX6_end_17  l0 l1 (2 : Int32) M else fX6_end_17  l0 l1 (1 : Int32) M))
set_option maxHeartbeats 4000000 in
set_option maxRecDepth 100000 in
theorem jX6_end (G : Gx) (l : Launch) (l0 : Nat) (l1 : Nat) (M : Mem) : J G l cX6_end 5 RX6 none "end" 1 31 (QM G (fun _ : Unit => none)) 0 [(0, .ref (adr G l0)), (1, .ref (adr G l1))] [] M (fX6_end l0 l1 M) := by
  unfold fX6_end
  refine J_aload_n dX6_end_0 0 rfl ?_
  refine J_getI fd_6_1 w_239 rfl dX6_end_1 ?_
  refine J_bipush (v := 9) dX6_end_4 (by decide) ?_
  refine J_iadd dX6_end_6 ?_
  refine J_bipush (v := 64) dX6_end_7 (by decide) ?_
  refine J_icmp_gt (tgt := 16) dX6_end_9 (by decide) ?_ ?_
  · refine J_iconst (v := 2) dX6_end_16 (by decide) ?_
    refine J_sub [0, 1] rfl ?_
    exact jX6_end_17 G l   _ _ _ _
  · refine J_iconst (v := 1) dX6_end_12 (by decide) ?_
    refine J_goto (tgt := 17) dX6_end_13 (by decide) ?_
    refine J_sub [0, 1] rfl ?_
    exact jX6_end_17 G l   _ _ _ _
theorem okX6_end (G : Gx) (l : Launch) (l0 : Nat) (l1 : Nat) (M : Mem) : Con G l yX6_end cX6_end 5 none 1 31 (fun _ : Unit => none) [.ref (adr G l0), .ref (adr G l1)] M (fX6_end l0 l1 M) := con_of (own := RX6) (nm := "end") (by decide +kernel) rfl rfl (Nat.le_of_ble_eq_true rfl) (jX6_end G l l0 l1 M)
theorem mkX6_end : MOk yX6_end cX6_end 5 none 1 := ⟨w_270, tb1 (List.mem_of_getElem? (i := 6) rfl) rfl, by decide +kernel, by decide +kernel, by decide +kernel⟩
-- X5_chainBehind
def fX5_chainBehind_5  : Nat → Nat → Int32 → Int32 → Mem → Option (Nat × Mem)
  | 0, _, _, _, _ => none
  | n + 1, l0, l1, l2, M => (if l1 ≤ l2 then (gI M 5 5 l0 fun v1 => (pI M 5 5 l0 (imax v1 l1) fun M2 => (gR M2 5 4 l0 fun r3 => (rR M2 (.array .int) r3 l1 fun r4 => some (r4, M2))))) else (gR M 5 3 l0 fun r5 => (cV M 6 r5 (fX6_begin r5 M) fun _u7 M6 => (gR M6 5 3 l0 fun r8 => (gR M6 5 4 l0 fun r9 => (rR M6 (.array .int) r9 l2 fun r10 => (cV M6 6 r8 (fX6_addHash r8 r10 M6) fun _u12 M11 => (gR M11 5 3 l0 fun r13 => (gR M11 5 0 l0 fun r14 => (gR M11 5 1 l0 fun r15 => (rI M11 .int r15 l2 fun v16 => (gR M11 5 1 l0 fun r17 => (rI M11 .int r17 (l2 + (1 : Int32)) fun v18 => (cV M11 6 r13 (fX6_addBytes r13 r14 v16 v18 M11) fun _u20 M19 => (gR M19 5 3 l0 fun r21 => (gR M19 5 4 l0 fun r22 => (rR M19 (.array .int) r22 (l2 + (1 : Int32)) fun r23 => (cV M19 6 r21 (fX6_end r21 r23 M19) fun _u25 M24 => fX5_chainBehind_5  n l0 l1 (l2 + (1 : Int32)) M24))))))))))))))))))
set_option maxHeartbeats 4000000 in
set_option maxRecDepth 100000 in
theorem jX5_chainBehind_5 (G : Gx) (l : Launch)   : ∀ (n : Nat) (l0 : Nat) (l1 : Int32) (l2 : Int32) (M : Mem), J G l cX5_chainBehind 3 RX5 (some (.array .int)) "chainBehind" 2 55 (QM G (fun c : Nat => some (.ref (adr G c)))) 5 [(0, .ref (adr G l0)), (1, .int l1), (2, .int l2)] [] M (fX5_chainBehind_5  n l0 l1 l2 M) := by
  intro n
  induction n with
  | zero => intro l0 l1 l2 M; exact J_none
  | succ n ih =>
    intro l0 l1 l2 M
    rw [fX5_chainBehind_5]
    refine J_iload_n dX5_chainBehind_5 2 rfl ?_
    refine J_iload_n dX5_chainBehind_6 1 rfl ?_
    refine J_icmp_ge (tgt := 76) dX5_chainBehind_7 (by decide) ?_ ?_
    · refine J_aload_n dX5_chainBehind_76 0 rfl ?_
      refine J_aload_n dX5_chainBehind_77 0 rfl ?_
      refine J_getI fd_5_5 w_230 rfl dX5_chainBehind_78 ?_
      refine J_iload_n dX5_chainBehind_81 1 rfl ?_
      refine J_mmax w_236 w_237 w_233 w_238 ⟨by decide, Nat.le_of_ble_eq_true rfl⟩ dX5_chainBehind_82 ?_
      refine J_putI fd_5_5 w_230 dX5_chainBehind_85 ?_
      refine J_aload_n dX5_chainBehind_88 0 rfl ?_
      refine J_getR fd_5_4 w_216 rfl dX5_chainBehind_89 (fun r3 => ?_)
      refine J_iload_n dX5_chainBehind_92 1 rfl ?_
      refine J_aaldI dX5_chainBehind_93 (fun r4 => ?_)
      exact J_aret dX5_chainBehind_94
    · refine J_aload_n dX5_chainBehind_10 0 rfl ?_
      refine J_getR fd_5_3 w_214 rfl dX5_chainBehind_11 (fun r5 => ?_)
      refine J_callVv (okX6_begin G l _ _) mkX6_begin _ _ rfl w_241 w_242 w_243 ⟨by decide, by decide⟩ rfl (Nat.le_of_ble_eq_true rfl) dX5_chainBehind_14 (fun _u7 M6 => ?_)
      refine J_aload_n dX5_chainBehind_17 0 rfl ?_
      refine J_getR fd_5_3 w_214 rfl dX5_chainBehind_18 (fun r8 => ?_)
      refine J_aload_n dX5_chainBehind_21 0 rfl ?_
      refine J_getR fd_5_4 w_216 rfl dX5_chainBehind_22 (fun r9 => ?_)
      refine J_iload_n dX5_chainBehind_25 2 rfl ?_
      refine J_aaldI dX5_chainBehind_26 (fun r10 => ?_)
      refine J_callVv (okX6_addHash G l _ _ _) mkX6_addHash _ _ rfl w_251 w_252 w_253 ⟨by decide, by decide⟩ rfl (Nat.le_of_ble_eq_true rfl) dX5_chainBehind_27 (fun _u12 M11 => ?_)
      refine J_aload_n dX5_chainBehind_30 0 rfl ?_
      refine J_getR fd_5_3 w_214 rfl dX5_chainBehind_31 (fun r13 => ?_)
      refine J_aload_n dX5_chainBehind_34 0 rfl ?_
      refine J_getR fd_5_0 w_53 rfl dX5_chainBehind_35 (fun r14 => ?_)
      refine J_aload_n dX5_chainBehind_38 0 rfl ?_
      refine J_getR fd_5_1 w_42 rfl dX5_chainBehind_39 (fun r15 => ?_)
      refine J_iload_n dX5_chainBehind_42 2 rfl ?_
      refine J_iald dX5_chainBehind_43 ?_
      refine J_aload_n dX5_chainBehind_44 0 rfl ?_
      refine J_getR fd_5_1 w_42 rfl dX5_chainBehind_45 (fun r17 => ?_)
      refine J_iload_n dX5_chainBehind_48 2 rfl ?_
      refine J_iconst (v := 1) dX5_chainBehind_49 (by decide) ?_
      refine J_iadd dX5_chainBehind_50 ?_
      refine J_iald dX5_chainBehind_51 ?_
      refine J_callVv (okX6_addBytes G l _ _ _ _ _) mkX6_addBytes _ _ rfl w_255 w_256 w_257 ⟨by decide, by decide⟩ rfl (Nat.le_of_ble_eq_true rfl) dX5_chainBehind_52 (fun _u20 M19 => ?_)
      refine J_aload_n dX5_chainBehind_55 0 rfl ?_
      refine J_getR fd_5_3 w_214 rfl dX5_chainBehind_56 (fun r21 => ?_)
      refine J_aload_n dX5_chainBehind_59 0 rfl ?_
      refine J_getR fd_5_4 w_216 rfl dX5_chainBehind_60 (fun r22 => ?_)
      refine J_iload_n dX5_chainBehind_63 2 rfl ?_
      refine J_iconst (v := 1) dX5_chainBehind_64 (by decide) ?_
      refine J_iadd dX5_chainBehind_65 ?_
      refine J_aaldI dX5_chainBehind_66 (fun r23 => ?_)
      refine J_callVv (okX6_end G l _ _ _) mkX6_end _ _ rfl w_271 w_272 w_273 ⟨by decide, by decide⟩ rfl (Nat.le_of_ble_eq_true rfl) dX5_chainBehind_67 (fun _u25 M24 => ?_)
      refine J_iincK (z := 1) (lv' := [(2, .int _), (0, .ref _), (1, .int _)]) dX5_chainBehind_70 2 rfl (by decide) (by decide) rfl ?_
      refine J_goto (tgt := 5) dX5_chainBehind_73 (by decide) ?_
      refine J_sub [1, 2, 0] rfl ?_
      exact ih _ _ _ _
def fX5_chainBehind (l0 : Nat) (l1 : Int32) (M : Mem) : Option (Nat × Mem) := (gI M 5 5 l0 fun v1 => fX5_chainBehind_5  FU l0 l1 v1 M)
set_option maxHeartbeats 4000000 in
set_option maxRecDepth 100000 in
theorem jX5_chainBehind (G : Gx) (l : Launch) (l0 : Nat) (l1 : Int32) (M : Mem) : J G l cX5_chainBehind 3 RX5 (some (.array .int)) "chainBehind" 2 55 (QM G (fun c : Nat => some (.ref (adr G c)))) 0 [(0, .ref (adr G l0)), (1, .int l1)] [] M (fX5_chainBehind l0 l1 M) := by
  unfold fX5_chainBehind
  refine J_aload_n dX5_chainBehind_0 0 rfl ?_
  refine J_getI fd_5_5 w_230 rfl dX5_chainBehind_1 ?_
  refine J_istore_n (lv' := [(2, .int _), (0, .ref _), (1, .int _)]) dX5_chainBehind_4 (by decide) rfl ?_
  refine J_sub [1, 2, 0] rfl ?_
  exact jX5_chainBehind_5 G l   FU _ _ _ _
theorem okX5_chainBehind (G : Gx) (l : Launch) (l0 : Nat) (l1 : Int32) (M : Mem) : Con G l yX5_chainBehind cX5_chainBehind 3 (some (.array .int)) 2 55 (fun c : Nat => some (.ref (adr G c))) [.ref (adr G l0), .int l1] M (fX5_chainBehind l0 l1 M) := con_of (own := RX5) (nm := "chainBehind") (by decide +kernel) rfl rfl (Nat.le_of_ble_eq_true rfl) (jX5_chainBehind G l l0 l1 M)
theorem mkX5_chainBehind : MOk yX5_chainBehind cX5_chainBehind 3 (some (.array .int)) 1 := ⟨w_274, tb1 (List.mem_of_getElem? (i := 5) rfl) rfl, by decide +kernel, by decide +kernel, by decide +kernel⟩
-- X6_join
def fX6_join (l0 : Nat) (l1 : Nat) (l2 : Nat) (l3 : Nat) (M : Mem) : Option (Unit × Mem) := (cV M 6 l0 (fX6_begin l0 M) fun _u2 M1 => (cV M1 6 l0 (fX6_add l0 (1 : Int32) M1) fun _u4 M3 => (cV M3 6 l0 (fX6_addHash l0 l1 M3) fun _u6 M5 => (cV M5 6 l0 (fX6_addHash l0 l2 M5) fun _u8 M7 => (cV M7 6 l0 (fX6_end l0 l3 M7) fun _u10 M9 => some ((), M9))))))
set_option maxHeartbeats 4000000 in
set_option maxRecDepth 100000 in
theorem jX6_join (G : Gx) (l : Launch) (l0 : Nat) (l1 : Nat) (l2 : Nat) (l3 : Nat) (M : Mem) : J G l cX6_join 4 RX6 none "join" 2 55 (QM G (fun _ : Unit => none)) 0 [(0, .ref (adr G l0)), (1, .ref (adr G l1)), (2, .ref (adr G l2)), (3, .ref (adr G l3))] [] M (fX6_join l0 l1 l2 l3 M) := by
  unfold fX6_join
  refine J_aload_n dX6_join_0 0 rfl ?_
  refine J_callVv (okX6_begin G l _ _) mkX6_begin _ _ rfl w_276 w_242 w_243 ⟨by decide, by decide⟩ rfl (Nat.le_of_ble_eq_true rfl) dX6_join_1 (fun _u2 M1 => ?_)
  refine J_aload_n dX6_join_4 0 rfl ?_
  refine J_iconst (v := 1) dX6_join_5 (by decide) ?_
  refine J_callVv (okX6_add G l _ _ _) mkX6_add _ _ rfl w_247 w_248 w_249 ⟨by decide, by decide⟩ rfl (Nat.le_of_ble_eq_true rfl) dX6_join_6 (fun _u4 M3 => ?_)
  refine J_aload_n dX6_join_9 0 rfl ?_
  refine J_aload_n dX6_join_10 1 rfl ?_
  refine J_callVv (okX6_addHash G l _ _ _) mkX6_addHash _ _ rfl w_277 w_252 w_253 ⟨by decide, by decide⟩ rfl (Nat.le_of_ble_eq_true rfl) dX6_join_11 (fun _u6 M5 => ?_)
  refine J_aload_n dX6_join_14 0 rfl ?_
  refine J_aload_n dX6_join_15 2 rfl ?_
  refine J_callVv (okX6_addHash G l _ _ _) mkX6_addHash _ _ rfl w_277 w_252 w_253 ⟨by decide, by decide⟩ rfl (Nat.le_of_ble_eq_true rfl) dX6_join_16 (fun _u8 M7 => ?_)
  refine J_aload_n dX6_join_19 0 rfl ?_
  refine J_aload_n dX6_join_20 3 rfl ?_
  refine J_callVv (okX6_end G l _ _ _) mkX6_end _ _ rfl w_278 w_272 w_273 ⟨by decide, by decide⟩ rfl (Nat.le_of_ble_eq_true rfl) dX6_join_21 (fun _u10 M9 => ?_)
  exact J_vret dX6_join_24
theorem okX6_join (G : Gx) (l : Launch) (l0 : Nat) (l1 : Nat) (l2 : Nat) (l3 : Nat) (M : Mem) : Con G l yX6_join cX6_join 4 none 2 55 (fun _ : Unit => none) [.ref (adr G l0), .ref (adr G l1), .ref (adr G l2), .ref (adr G l3)] M (fX6_join l0 l1 l2 l3 M) := con_of (own := RX6) (nm := "join") (by decide +kernel) rfl rfl (Nat.le_of_ble_eq_true rfl) (jX6_join G l l0 l1 l2 l3 M)
theorem mkX6_join : MOk yX6_join cX6_join 4 none 3 := ⟨w_279, tb1 (List.mem_of_getElem? (i := 6) rfl) rfl, by decide +kernel, by decide +kernel, by decide +kernel⟩
