-- X5_learn
def fX5_learn (l0 : Nat) (l1 : Int32) (M : Mem) : Option (Unit × Mem) := (gR M 5 7 l0 fun r1 => (wI M .boolean r1 l1 (1 : Int32) fun M2 => (if (256 : Int32) ≤ l1 then (gR M2 5 3 l0 fun r3 => (cV M2 6 r3 (fX6_begin r3 M2) fun _u5 M4 => (gR M4 5 3 l0 fun r6 => (cV M4 6 r6 (fX6_add r6 (0 : Int32) M4) fun _u8 M7 => (gR M7 5 3 l0 fun r9 => (gR M7 5 0 l0 fun r10 => (gR M7 5 1 l0 fun r11 => (rI M7 .int r11 (l1 - (256 : Int32)) fun v12 => (gR M7 5 1 l0 fun r13 => (rI M7 .int r13 ((l1 - (256 : Int32)) + (1 : Int32)) fun v14 => (cV M7 6 r9 (fX6_addBytes r9 r10 v12 v14 M7) fun _u16 M15 => (gR M15 5 3 l0 fun r17 => (gR M15 5 6 l0 fun r18 => (rR M15 (.array .int) r18 l1 fun r19 => (cV M15 6 r17 (fX6_end r17 r19 M15) fun _u21 M20 => some ((), M20)))))))))))))))) else (gR M2 5 3 l0 fun r22 => (gR M2 5 6 l0 fun r23 => (rR M2 (.array .int) r23 ((2 : Int32) * l1) fun r24 => (gR M2 5 6 l0 fun r25 => (rR M2 (.array .int) r25 (((2 : Int32) * l1) + (1 : Int32)) fun r26 => (gR M2 5 6 l0 fun r27 => (rR M2 (.array .int) r27 l1 fun r28 => (cV M2 6 r22 (fX6_join r22 r24 r26 r28 M2) fun _u30 M29 => some ((), M29))))))))))))
set_option maxHeartbeats 4000000 in
set_option maxRecDepth 100000 in
theorem jX5_learn (G : Gx) (l : Launch) (l0 : Nat) (l1 : Int32) (M : Mem) : J G l cX5_learn 2 RX5 none "learn" 3 78 (QM G (fun _ : Unit => none)) 0 [(0, .ref (adr G l0)), (1, .int l1)] [] M (fX5_learn l0 l1 M) := by
  unfold fX5_learn
  refine J_aload_n dX5_learn_0 0 rfl ?_
  refine J_getR fd_5_7 w_219 rfl dX5_learn_1 (fun r1 => ?_)
  refine J_iload_n dX5_learn_4 1 rfl ?_
  refine J_iconst (v := 1) dX5_learn_5 (by decide) ?_
  refine J_zast dX5_learn_6 ?_
  refine J_iload_n dX5_learn_7 1 rfl ?_
  refine J_sipush (v := 256) dX5_learn_8 (by decide) ?_
  refine J_icmp_ge (tgt := 46) dX5_learn_11 (by decide) ?_ ?_
  · refine J_aload_n dX5_learn_46 0 rfl ?_
    refine J_getR fd_5_3 w_214 rfl dX5_learn_47 (fun r3 => ?_)
    refine J_callVv (okX6_begin G l _ _) mkX6_begin _ _ rfl w_241 w_242 w_243 ⟨by decide, by decide⟩ rfl (Nat.le_of_ble_eq_true rfl) dX5_learn_50 (fun _u5 M4 => ?_)
    refine J_aload_n dX5_learn_53 0 rfl ?_
    refine J_getR fd_5_3 w_214 rfl dX5_learn_54 (fun r6 => ?_)
    refine J_iconst (v := 0) dX5_learn_57 (by decide) ?_
    refine J_callVv (okX6_add G l _ _ _) mkX6_add _ _ rfl w_275 w_248 w_249 ⟨by decide, by decide⟩ rfl (Nat.le_of_ble_eq_true rfl) dX5_learn_58 (fun _u8 M7 => ?_)
    refine J_aload_n dX5_learn_61 0 rfl ?_
    refine J_getR fd_5_3 w_214 rfl dX5_learn_62 (fun r9 => ?_)
    refine J_aload_n dX5_learn_65 0 rfl ?_
    refine J_getR fd_5_0 w_53 rfl dX5_learn_66 (fun r10 => ?_)
    refine J_aload_n dX5_learn_69 0 rfl ?_
    refine J_getR fd_5_1 w_42 rfl dX5_learn_70 (fun r11 => ?_)
    refine J_iload_n dX5_learn_73 1 rfl ?_
    refine J_sipush (v := 256) dX5_learn_74 (by decide) ?_
    refine J_isub dX5_learn_77 ?_
    refine J_iald dX5_learn_78 ?_
    refine J_aload_n dX5_learn_79 0 rfl ?_
    refine J_getR fd_5_1 w_42 rfl dX5_learn_80 (fun r13 => ?_)
    refine J_iload_n dX5_learn_83 1 rfl ?_
    refine J_sipush (v := 256) dX5_learn_84 (by decide) ?_
    refine J_isub dX5_learn_87 ?_
    refine J_iconst (v := 1) dX5_learn_88 (by decide) ?_
    refine J_iadd dX5_learn_89 ?_
    refine J_iald dX5_learn_90 ?_
    refine J_callVv (okX6_addBytes G l _ _ _ _ _) mkX6_addBytes _ _ rfl w_255 w_256 w_257 ⟨by decide, by decide⟩ rfl (Nat.le_of_ble_eq_true rfl) dX5_learn_91 (fun _u16 M15 => ?_)
    refine J_aload_n dX5_learn_94 0 rfl ?_
    refine J_getR fd_5_3 w_214 rfl dX5_learn_95 (fun r17 => ?_)
    refine J_aload_n dX5_learn_98 0 rfl ?_
    refine J_getR fd_5_6 w_217 rfl dX5_learn_99 (fun r18 => ?_)
    refine J_iload_n dX5_learn_102 1 rfl ?_
    refine J_aaldI dX5_learn_103 (fun r19 => ?_)
    refine J_callVv (okX6_end G l _ _ _) mkX6_end _ _ rfl w_271 w_272 w_273 ⟨by decide, by decide⟩ rfl (Nat.le_of_ble_eq_true rfl) dX5_learn_104 (fun _u21 M20 => ?_)
    exact J_vret dX5_learn_107
  · refine J_aload_n dX5_learn_14 0 rfl ?_
    refine J_getR fd_5_3 w_214 rfl dX5_learn_15 (fun r22 => ?_)
    refine J_aload_n dX5_learn_18 0 rfl ?_
    refine J_getR fd_5_6 w_217 rfl dX5_learn_19 (fun r23 => ?_)
    refine J_iconst (v := 2) dX5_learn_22 (by decide) ?_
    refine J_iload_n dX5_learn_23 1 rfl ?_
    refine J_imul dX5_learn_24 ?_
    refine J_aaldI dX5_learn_25 (fun r24 => ?_)
    refine J_aload_n dX5_learn_26 0 rfl ?_
    refine J_getR fd_5_6 w_217 rfl dX5_learn_27 (fun r25 => ?_)
    refine J_iconst (v := 2) dX5_learn_30 (by decide) ?_
    refine J_iload_n dX5_learn_31 1 rfl ?_
    refine J_imul dX5_learn_32 ?_
    refine J_iconst (v := 1) dX5_learn_33 (by decide) ?_
    refine J_iadd dX5_learn_34 ?_
    refine J_aaldI dX5_learn_35 (fun r26 => ?_)
    refine J_aload_n dX5_learn_36 0 rfl ?_
    refine J_getR fd_5_6 w_217 rfl dX5_learn_37 (fun r27 => ?_)
    refine J_iload_n dX5_learn_40 1 rfl ?_
    refine J_aaldI dX5_learn_41 (fun r28 => ?_)
    refine J_callVv (okX6_join G l _ _ _ _ _) mkX6_join _ _ rfl w_280 w_281 w_282 ⟨by decide, by decide⟩ rfl (Nat.le_of_ble_eq_true rfl) dX5_learn_42 (fun _u30 M29 => ?_)
    exact J_vret dX5_learn_45
theorem okX5_learn (G : Gx) (l : Launch) (l0 : Nat) (l1 : Int32) (M : Mem) : Con G l yX5_learn cX5_learn 2 none 3 78 (fun _ : Unit => none) [.ref (adr G l0), .int l1] M (fX5_learn l0 l1 M) := con_of (own := RX5) (nm := "learn") (by decide +kernel) rfl rfl (Nat.le_of_ble_eq_true rfl) (jX5_learn G l l0 l1 M)
theorem mkX5_learn : MOk yX5_learn cX5_learn 2 none 1 := ⟨w_283, tb1 (List.mem_of_getElem? (i := 5) rfl) rfl, by decide +kernel, by decide +kernel, by decide +kernel⟩
-- X5_nodeOf
def fX5_nodeOf_57 (k2 : Nat → Int32 → Int32 → Int32 → Mem → Option (Nat × Mem)) (k34 : Nat → Int32 → Int32 → Int32 → Int32 → Int32 → Mem → Option (Nat × Mem)) (l0 : Nat) (l1 : Int32) (l2 : Int32) (l3 : Int32) (l5 : Int32) (l6 : Int32) (M : Mem) : Option (Nat × Mem) := k34 l0 l1 l2 l3 l5 (l6 + (1 : Int32)) M
set_option maxHeartbeats 4000000 in
set_option maxRecDepth 100000 in
theorem jX5_nodeOf_57 (G : Gx) (l : Launch) (k2 : Nat → Int32 → Int32 → Int32 → Mem → Option (Nat × Mem)) (k34 : Nat → Int32 → Int32 → Int32 → Int32 → Int32 → Mem → Option (Nat × Mem)) (h2 : ∀ (l0 : Nat) (l1 : Int32) (l2 : Int32) (l3 : Int32) (M : Mem), J G l cX5_nodeOf 7 RX5 (some (.array .int)) "nodeOf" 4 99 (QM G (fun c : Nat => some (.ref (adr G c)))) 2 [(0, .ref (adr G l0)), (1, .int l1), (2, .int l2), (3, .int l3)] [] M (k2 l0 l1 l2 l3 M)) (h34 : ∀ (l0 : Nat) (l1 : Int32) (l2 : Int32) (l3 : Int32) (l5 : Int32) (l6 : Int32) (M : Mem), J G l cX5_nodeOf 7 RX5 (some (.array .int)) "nodeOf" 4 99 (QM G (fun c : Nat => some (.ref (adr G c)))) 34 [(0, .ref (adr G l0)), (1, .int l1), (2, .int l2), (3, .int l3), (5, .int l5), (6, .int l6)] [] M (k34 l0 l1 l2 l3 l5 l6 M)) (l0 : Nat) (l1 : Int32) (l2 : Int32) (l3 : Int32) (l5 : Int32) (l6 : Int32) (M : Mem) : J G l cX5_nodeOf 7 RX5 (some (.array .int)) "nodeOf" 4 99 (QM G (fun c : Nat => some (.ref (adr G c)))) 57 [(0, .ref (adr G l0)), (1, .int l1), (2, .int l2), (3, .int l3), (5, .int l5), (6, .int l6)] [] M (fX5_nodeOf_57 k2 k34 l0 l1 l2 l3 l5 l6 M) := by
  unfold fX5_nodeOf_57
  refine J_iincK (z := 1) (lv' := [(6, .int _), (0, .ref _), (1, .int _), (2, .int _), (3, .int _), (5, .int _)]) dX5_nodeOf_57 5 rfl (by decide) (by decide) rfl ?_
  refine J_goto (tgt := 34) dX5_nodeOf_60 (by decide) ?_
  refine J_sub [1, 2, 3, 4, 5, 0] rfl ?_
  exact h34 _ _ _ _ _ _ _
def fX5_nodeOf_34 (k2 : Nat → Int32 → Int32 → Int32 → Mem → Option (Nat × Mem)) : Nat → Nat → Int32 → Int32 → Int32 → Int32 → Int32 → Mem → Option (Nat × Mem)
  | 0, _, _, _, _, _, _, _ => none
  | n + 1, l0, l1, l2, l3, l5, l6, M => (if l5 ≤ l6 then k2 l0 l1 l2 (l3 + (1 : Int32)) M else (gR M 5 7 l0 fun r1 => (rI M .boolean r1 l6 fun v2 => (if v2 = 0 then (cV M 5 l0 (fX5_learn l0 l6 M) fun _u4 M3 => fX5_nodeOf_57 k2 (fX5_nodeOf_34 k2 n) l0 l1 l2 l3 l5 l6 M3) else fX5_nodeOf_57 k2 (fX5_nodeOf_34 k2 n) l0 l1 l2 l3 l5 l6 M))))
set_option maxHeartbeats 4000000 in
set_option maxRecDepth 100000 in
theorem jX5_nodeOf_34 (G : Gx) (l : Launch) (k2 : Nat → Int32 → Int32 → Int32 → Mem → Option (Nat × Mem)) (h2 : ∀ (l0 : Nat) (l1 : Int32) (l2 : Int32) (l3 : Int32) (M : Mem), J G l cX5_nodeOf 7 RX5 (some (.array .int)) "nodeOf" 4 99 (QM G (fun c : Nat => some (.ref (adr G c)))) 2 [(0, .ref (adr G l0)), (1, .int l1), (2, .int l2), (3, .int l3)] [] M (k2 l0 l1 l2 l3 M)) : ∀ (n : Nat) (l0 : Nat) (l1 : Int32) (l2 : Int32) (l3 : Int32) (l5 : Int32) (l6 : Int32) (M : Mem), J G l cX5_nodeOf 7 RX5 (some (.array .int)) "nodeOf" 4 99 (QM G (fun c : Nat => some (.ref (adr G c)))) 34 [(0, .ref (adr G l0)), (1, .int l1), (2, .int l2), (3, .int l3), (5, .int l5), (6, .int l6)] [] M (fX5_nodeOf_34 k2 n l0 l1 l2 l3 l5 l6 M) := by
  intro n
  induction n with
  | zero => intro l0 l1 l2 l3 l5 l6 M; exact J_none
  | succ n ih =>
    intro l0 l1 l2 l3 l5 l6 M
    rw [fX5_nodeOf_34]
    refine J_iload dX5_nodeOf_34 5 rfl ?_
    refine J_iload dX5_nodeOf_36 4 rfl ?_
    refine J_icmp_ge (tgt := 63) dX5_nodeOf_38 (by decide) ?_ ?_
    · refine J_iincK (z := 1) (lv' := [(3, .int _), (0, .ref _), (1, .int _), (2, .int _), (5, .int _), (6, .int _)]) dX5_nodeOf_63 3 rfl (by decide) (by decide) rfl ?_
      refine J_goto (tgt := 2) dX5_nodeOf_66 (by decide) ?_
      refine J_sub [1, 2, 3, 0] rfl ?_
      exact h2 _ _ _ _ _
    · refine J_aload_n dX5_nodeOf_41 0 rfl ?_
      refine J_getR fd_5_7 w_219 rfl dX5_nodeOf_42 (fun r1 => ?_)
      refine J_iload dX5_nodeOf_45 5 rfl ?_
      refine J_zald dX5_nodeOf_47 ?_
      refine J_if_ne (tgt := 57) dX5_nodeOf_48 (by decide) ?_ ?_
      · refine J_sub [0, 1, 2, 3, 4, 5] rfl ?_
        exact jX5_nodeOf_57 G l _ _ h2 ih _ _ _ _ _ _ _
      · refine J_aload_n dX5_nodeOf_51 0 rfl ?_
        refine J_iload dX5_nodeOf_52 5 rfl ?_
        refine J_callVv (okX5_learn G l _ _ _) mkX5_learn _ _ rfl w_284 w_285 w_286 ⟨by decide, by decide⟩ rfl (Nat.le_of_ble_eq_true rfl) dX5_nodeOf_54 (fun _u4 M3 => ?_)
        refine J_sub [0, 1, 2, 3, 4, 5] rfl ?_
        exact jX5_nodeOf_57 G l _ _ h2 ih _ _ _ _ _ _ _
def fX5_nodeOf_2  : Nat → Nat → Int32 → Int32 → Int32 → Mem → Option (Nat × Mem)
  | 0, _, _, _, _, _ => none
  | n + 1, l0, l1, l2, l3, M => (if l1 < l3 then (gR M 5 6 l0 fun r1 => (rR M (.array .int) r1 ((xshr (256 : Int32) l1) + l2) fun r2 => some (r2, M))) else fX5_nodeOf_34 (fX5_nodeOf_2  n) FU l0 l1 l2 l3 (((xshr (256 : Int32) l3) + (xshl l2 (l1 - l3))) + (xshl (1 : Int32) (l1 - l3))) ((xshr (256 : Int32) l3) + (xshl l2 (l1 - l3))) M)
set_option maxHeartbeats 4000000 in
set_option maxRecDepth 100000 in
theorem jX5_nodeOf_2 (G : Gx) (l : Launch)   : ∀ (n : Nat) (l0 : Nat) (l1 : Int32) (l2 : Int32) (l3 : Int32) (M : Mem), J G l cX5_nodeOf 7 RX5 (some (.array .int)) "nodeOf" 4 99 (QM G (fun c : Nat => some (.ref (adr G c)))) 2 [(0, .ref (adr G l0)), (1, .int l1), (2, .int l2), (3, .int l3)] [] M (fX5_nodeOf_2  n l0 l1 l2 l3 M) := by
  intro n
  induction n with
  | zero => intro l0 l1 l2 l3 M; exact J_none
  | succ n ih =>
    intro l0 l1 l2 l3 M
    rw [fX5_nodeOf_2]
    refine J_iload_n dX5_nodeOf_2 3 rfl ?_
    refine J_iload_n dX5_nodeOf_3 1 rfl ?_
    refine J_icmp_gt (tgt := 69) dX5_nodeOf_4 (by decide) ?_ ?_
    · refine J_aload_n dX5_nodeOf_69 0 rfl ?_
      refine J_getR fd_5_6 w_217 rfl dX5_nodeOf_70 (fun r1 => ?_)
      refine J_sipush (v := 256) dX5_nodeOf_73 (by decide) ?_
      refine J_iload_n dX5_nodeOf_76 1 rfl ?_
      refine J_ishrK dX5_nodeOf_77 ?_
      refine J_iload_n dX5_nodeOf_78 2 rfl ?_
      refine J_iadd dX5_nodeOf_79 ?_
      refine J_aaldI dX5_nodeOf_80 (fun r2 => ?_)
      exact J_aret dX5_nodeOf_81
    · refine J_sipush (v := 256) dX5_nodeOf_7 (by decide) ?_
      refine J_iload_n dX5_nodeOf_10 3 rfl ?_
      refine J_ishrK dX5_nodeOf_11 ?_
      refine J_iload_n dX5_nodeOf_12 2 rfl ?_
      refine J_iload_n dX5_nodeOf_13 1 rfl ?_
      refine J_iload_n dX5_nodeOf_14 3 rfl ?_
      refine J_isub dX5_nodeOf_15 ?_
      refine J_ishlK dX5_nodeOf_16 ?_
      refine J_iadd dX5_nodeOf_17 ?_
      refine J_istore (lv' := [(4, .int _), (0, .ref _), (1, .int _), (2, .int _), (3, .int _)]) dX5_nodeOf_18 (by decide) rfl ?_
      refine J_iload dX5_nodeOf_20 0 rfl ?_
      refine J_iconst (v := 1) dX5_nodeOf_22 (by decide) ?_
      refine J_iload_n dX5_nodeOf_23 2 rfl ?_
      refine J_iload_n dX5_nodeOf_24 4 rfl ?_
      refine J_isub dX5_nodeOf_25 ?_
      refine J_ishlK dX5_nodeOf_26 ?_
      refine J_iadd dX5_nodeOf_27 ?_
      refine J_istore (lv' := [(5, .int _), (4, .int _), (0, .ref _), (1, .int _), (2, .int _), (3, .int _)]) dX5_nodeOf_28 (by decide) rfl ?_
      refine J_iload dX5_nodeOf_30 1 rfl ?_
      refine J_istore (lv' := [(6, .int _), (5, .int _), (4, .int _), (0, .ref _), (1, .int _), (2, .int _), (3, .int _)]) dX5_nodeOf_32 (by decide) rfl ?_
      refine J_sub [3, 4, 5, 6, 1, 0] rfl ?_
      exact jX5_nodeOf_34 G l _ ih FU _ _ _ _ _ _ _
def fX5_nodeOf (l0 : Nat) (l1 : Int32) (l2 : Int32) (M : Mem) : Option (Nat × Mem) := fX5_nodeOf_2  FU l0 l1 l2 (0 : Int32) M
set_option maxHeartbeats 4000000 in
set_option maxRecDepth 100000 in
theorem jX5_nodeOf (G : Gx) (l : Launch) (l0 : Nat) (l1 : Int32) (l2 : Int32) (M : Mem) : J G l cX5_nodeOf 7 RX5 (some (.array .int)) "nodeOf" 4 99 (QM G (fun c : Nat => some (.ref (adr G c)))) 0 [(0, .ref (adr G l0)), (1, .int l1), (2, .int l2)] [] M (fX5_nodeOf l0 l1 l2 M) := by
  unfold fX5_nodeOf
  refine J_iconst (v := 0) dX5_nodeOf_0 (by decide) ?_
  refine J_istore_n (lv' := [(3, .int _), (0, .ref _), (1, .int _), (2, .int _)]) dX5_nodeOf_1 (by decide) rfl ?_
  refine J_sub [1, 2, 3, 0] rfl ?_
  exact jX5_nodeOf_2 G l   FU _ _ _ _ _
theorem okX5_nodeOf (G : Gx) (l : Launch) (l0 : Nat) (l1 : Int32) (l2 : Int32) (M : Mem) : Con G l yX5_nodeOf cX5_nodeOf 7 (some (.array .int)) 4 99 (fun c : Nat => some (.ref (adr G c))) [.ref (adr G l0), .int l1, .int l2] M (fX5_nodeOf l0 l1 l2 M) := con_of (own := RX5) (nm := "nodeOf") (by decide +kernel) rfl rfl (Nat.le_of_ble_eq_true rfl) (jX5_nodeOf G l l0 l1 l2 M)
theorem mkX5_nodeOf : MOk yX5_nodeOf cX5_nodeOf 7 (some (.array .int)) 2 := ⟨w_287, tb1 (List.mem_of_getElem? (i := 5) rfl) rfl, by decide +kernel, by decide +kernel, by decide +kernel⟩
-- X5_leafOf
def fX5_leafOf (l0 : Nat) (l1 : Int32) (M : Mem) : Option (Nat × Mem) := (cV M 5 l0 (fX5_nodeOf l0 (0 : Int32) l1 M) fun v2 M1 => some (v2, M1))
set_option maxHeartbeats 4000000 in
set_option maxRecDepth 100000 in
theorem jX5_leafOf (G : Gx) (l : Launch) (l0 : Nat) (l1 : Int32) (M : Mem) : J G l cX5_leafOf 2 RX5 (some (.array .int)) "leafOf" 5 125 (QM G (fun c : Nat => some (.ref (adr G c)))) 0 [(0, .ref (adr G l0)), (1, .int l1)] [] M (fX5_leafOf l0 l1 M) := by
  unfold fX5_leafOf
  refine J_aload_n dX5_leafOf_0 0 rfl ?_
  refine J_iconst (v := 0) dX5_leafOf_1 (by decide) ?_
  refine J_iload_n dX5_leafOf_2 1 rfl ?_
  refine J_callVr (okX5_nodeOf G l _ _ _ _) mkX5_nodeOf _ _ rfl w_288 w_289 w_290 ⟨by decide, by decide⟩ rfl (Nat.le_of_ble_eq_true rfl) dX5_leafOf_3 (fun v2 M1 => ?_)
  exact J_aret dX5_leafOf_6
theorem okX5_leafOf (G : Gx) (l : Launch) (l0 : Nat) (l1 : Int32) (M : Mem) : Con G l yX5_leafOf cX5_leafOf 2 (some (.array .int)) 5 125 (fun c : Nat => some (.ref (adr G c))) [.ref (adr G l0), .int l1] M (fX5_leafOf l0 l1 M) := con_of (own := RX5) (nm := "leafOf") (by decide +kernel) rfl rfl (Nat.le_of_ble_eq_true rfl) (jX5_leafOf G l l0 l1 M)
theorem mkX5_leafOf : MOk yX5_leafOf cX5_leafOf 2 (some (.array .int)) 1 := ⟨w_291, tb1 (List.mem_of_getElem? (i := 5) rfl) rfl, by decide +kernel, by decide +kernel, by decide +kernel⟩
-- X5_treeOf
def fX5_treeOf_100 (k28 : Nat → Int32 → Int32 → Nat → Int32 → Int32 → Mem → Option (Unit × Mem)) (l0 : Nat) (l1 : Int32) (l2 : Int32) (l3 : Nat) (l4 : Int32) (l5 : Int32) (M : Mem) : Option (Unit × Mem) := k28 l0 l1 l2 l3 l4 (l5 + (1 : Int32)) M
set_option maxHeartbeats 4000000 in
set_option maxRecDepth 100000 in
theorem jX5_treeOf_100 (G : Gx) (l : Launch) (k28 : Nat → Int32 → Int32 → Nat → Int32 → Int32 → Mem → Option (Unit × Mem)) (h28 : ∀ (l0 : Nat) (l1 : Int32) (l2 : Int32) (l3 : Nat) (l4 : Int32) (l5 : Int32) (M : Mem), J G l cX5_treeOf 7 RX5 none "treeOf" 5 125 (QM G (fun _ : Unit => none)) 28 [(0, .ref (adr G l0)), (1, .int l1), (2, .int l2), (3, .ref (adr G l3)), (4, .int l4), (5, .int l5)] [] M (k28 l0 l1 l2 l3 l4 l5 M)) (l0 : Nat) (l1 : Int32) (l2 : Int32) (l3 : Nat) (l4 : Int32) (l5 : Int32) (M : Mem) : J G l cX5_treeOf 7 RX5 none "treeOf" 5 125 (QM G (fun _ : Unit => none)) 100 [(0, .ref (adr G l0)), (1, .int l1), (2, .int l2), (3, .ref (adr G l3)), (4, .int l4), (5, .int l5)] [] M (fX5_treeOf_100 k28 l0 l1 l2 l3 l4 l5 M) := by
  unfold fX5_treeOf_100
  refine J_iincK (z := 1) (lv' := [(5, .int _), (0, .ref _), (1, .int _), (2, .int _), (3, .ref _), (4, .int _)]) dX5_treeOf_100 5 rfl (by decide) (by decide) rfl ?_
  refine J_goto (tgt := 28) dX5_treeOf_103 (by decide) ?_
  refine J_sub [1, 2, 3, 4, 5, 0] rfl ?_
  exact h28 _ _ _ _ _ _ _
def fX5_treeOf_28  : Nat → Nat → Int32 → Int32 → Nat → Int32 → Int32 → Mem → Option (Unit × Mem)
  | 0, _, _, _, _, _, _, _ => none
  | n + 1, l0, l1, l2, l3, l4, l5, M => (if (8 : Int32) ≤ l5 then some ((), M) else (if ((xshr l2 l5) &&& (1 : Int32)) = (1 : Int32) then (cV M 5 l0 (fX5_nodeOf l0 l5 (xshr (l4 - (xshl (1 : Int32) l5)) l5) M) fun v2 M1 => (if ((l4 - (xshl (1 : Int32) l5)) + (xshl (1 : Int32) l5)) = (l1 + l2) then (bd (fX8_copyHash v2 l3 M1) fun _u7 M6 => fX5_treeOf_100 (fX5_treeOf_28  n) l0 l1 l2 l3 (l4 - (xshl (1 : Int32) l5)) l5 M6) else (gR M1 5 3 l0 fun r3 => (cV M1 6 r3 (fX6_join r3 v2 l3 l3 M1) fun _u5 M4 => fX5_treeOf_100 (fX5_treeOf_28  n) l0 l1 l2 l3 (l4 - (xshl (1 : Int32) l5)) l5 M4)))) else fX5_treeOf_100 (fX5_treeOf_28  n) l0 l1 l2 l3 l4 l5 M))
set_option maxHeartbeats 4000000 in
set_option maxRecDepth 100000 in
theorem jX5_treeOf_28 (G : Gx) (l : Launch)   : ∀ (n : Nat) (l0 : Nat) (l1 : Int32) (l2 : Int32) (l3 : Nat) (l4 : Int32) (l5 : Int32) (M : Mem), J G l cX5_treeOf 7 RX5 none "treeOf" 5 125 (QM G (fun _ : Unit => none)) 28 [(0, .ref (adr G l0)), (1, .int l1), (2, .int l2), (3, .ref (adr G l3)), (4, .int l4), (5, .int l5)] [] M (fX5_treeOf_28  n l0 l1 l2 l3 l4 l5 M) := by
  intro n
  induction n with
  | zero => intro l0 l1 l2 l3 l4 l5 M; exact J_none
  | succ n ih =>
    intro l0 l1 l2 l3 l4 l5 M
    rw [fX5_treeOf_28]
    refine J_iload dX5_treeOf_28 5 rfl ?_
    refine J_bipush (v := 8) dX5_treeOf_30 (by decide) ?_
    refine J_icmp_ge (tgt := 106) dX5_treeOf_32 (by decide) ?_ ?_
    · exact J_vret dX5_treeOf_106
    · refine J_iload_n dX5_treeOf_35 2 rfl ?_
      refine J_iload dX5_treeOf_36 5 rfl ?_
      refine J_ishrK dX5_treeOf_38 ?_
      refine J_iconst (v := 1) dX5_treeOf_39 (by decide) ?_
      refine J_iand dX5_treeOf_40 ?_
      refine J_iconst (v := 1) dX5_treeOf_41 (by decide) ?_
      refine J_icmp_ne (tgt := 100) dX5_treeOf_42 (by decide) ?_ ?_
      · refine J_sub [0, 1, 2, 3, 4, 5] rfl ?_
        exact jX5_treeOf_100 G l _ ih _ _ _ _ _ _ _
      · refine J_iload dX5_treeOf_45 4 rfl ?_
        refine J_iconst (v := 1) dX5_treeOf_47 (by decide) ?_
        refine J_iload dX5_treeOf_48 5 rfl ?_
        refine J_ishlK dX5_treeOf_50 ?_
        refine J_isub dX5_treeOf_51 ?_
        refine J_istore (lv' := [(4, .int _), (0, .ref _), (1, .int _), (2, .int _), (3, .ref _), (5, .int _)]) dX5_treeOf_52 (by decide) rfl ?_
        refine J_aload_n dX5_treeOf_54 1 rfl ?_
        refine J_iload dX5_treeOf_55 5 rfl ?_
        refine J_iload dX5_treeOf_57 0 rfl ?_
        refine J_iload dX5_treeOf_59 5 rfl ?_
        refine J_ishrK dX5_treeOf_61 ?_
        refine J_callVr (okX5_nodeOf G l _ _ _ _) mkX5_nodeOf _ _ rfl w_288 w_289 w_290 ⟨by decide, by decide⟩ rfl (Nat.le_of_ble_eq_true rfl) dX5_treeOf_62 (fun v2 M1 => ?_)
        refine J_astore (lv' := [(6, .ref _), (4, .int _), (0, .ref _), (1, .int _), (2, .int _), (3, .ref _), (5, .int _)]) dX5_treeOf_65 (by decide) rfl ?_
        refine J_iload dX5_treeOf_67 1 rfl ?_
        refine J_iconst (v := 1) dX5_treeOf_69 (by decide) ?_
        refine J_iload dX5_treeOf_70 6 rfl ?_
        refine J_ishlK dX5_treeOf_72 ?_
        refine J_iadd dX5_treeOf_73 ?_
        refine J_iload_n dX5_treeOf_74 3 rfl ?_
        refine J_iload_n dX5_treeOf_75 4 rfl ?_
        refine J_iadd dX5_treeOf_76 ?_
        refine J_icmp_ne (tgt := 89) dX5_treeOf_77 (by decide) ?_ ?_
        · refine J_aload_n dX5_treeOf_89 2 rfl ?_
          refine J_getR fd_5_3 w_214 rfl dX5_treeOf_90 (fun r3 => ?_)
          refine J_aload dX5_treeOf_93 0 rfl ?_
          refine J_aload_n dX5_treeOf_95 5 rfl ?_
          refine J_aload_n dX5_treeOf_96 5 rfl ?_
          refine J_callVv (okX6_join G l _ _ _ _ _) mkX6_join _ _ rfl w_280 w_281 w_282 ⟨by decide, by decide⟩ rfl (Nat.le_of_ble_eq_true rfl) dX5_treeOf_97 (fun _u5 M4 => ?_)
          refine J_sub [2, 3, 4, 5, 1, 6] rfl ?_
          exact jX5_treeOf_100 G l _ ih _ _ _ _ _ _ _
        · refine J_aload dX5_treeOf_80 0 rfl ?_
          refine J_aload_n dX5_treeOf_82 5 rfl ?_
          refine J_callSNv (host := "ChainBooks") (okX8_copyHash G l _ _ _) mkX8_copyHash (List.mem_of_getElem? (i := 18) rfl) w_259 ⟨by decide, by decide⟩ rfl (Nat.le_of_ble_eq_true rfl) dX5_treeOf_83 (fun _u7 M6 => ?_)
          refine J_goto (tgt := 100) dX5_treeOf_86 (by decide) ?_
          refine J_sub [2, 3, 4, 5, 1, 6] rfl ?_
          exact jX5_treeOf_100 G l _ ih _ _ _ _ _ _ _
def fX5_treeOf (l0 : Nat) (l1 : Int32) (l2 : Int32) (l3 : Nat) (M : Mem) : Option (Unit × Mem) := (if l2 = 0 then (gR M 5 3 l0 fun r1 => (cV M 6 r1 (fX6_begin r1 M) fun _u3 M2 => (gR M2 5 3 l0 fun r4 => (cV M2 6 r4 (fX6_end r4 l3 M2) fun _u6 M5 => some ((), M5))))) else fX5_treeOf_28  FU l0 l1 l2 l3 (l1 + l2) (0 : Int32) M)
set_option maxHeartbeats 4000000 in
set_option maxRecDepth 100000 in
theorem jX5_treeOf (G : Gx) (l : Launch) (l0 : Nat) (l1 : Int32) (l2 : Int32) (l3 : Nat) (M : Mem) : J G l cX5_treeOf 7 RX5 none "treeOf" 5 125 (QM G (fun _ : Unit => none)) 0 [(0, .ref (adr G l0)), (1, .int l1), (2, .int l2), (3, .ref (adr G l3))] [] M (fX5_treeOf l0 l1 l2 l3 M) := by
  unfold fX5_treeOf
  refine J_iload_n dX5_treeOf_0 2 rfl ?_
  refine J_if_ne (tgt := 20) dX5_treeOf_1 (by decide) ?_ ?_
  · refine J_iload_n dX5_treeOf_20 1 rfl ?_
    refine J_iload_n dX5_treeOf_21 2 rfl ?_
    refine J_iadd dX5_treeOf_22 ?_
    refine J_istore (lv' := [(4, .int _), (0, .ref _), (1, .int _), (2, .int _), (3, .ref _)]) dX5_treeOf_23 (by decide) rfl ?_
    refine J_iconst (v := 0) dX5_treeOf_25 (by decide) ?_
    refine J_istore (lv' := [(5, .int _), (4, .int _), (0, .ref _), (1, .int _), (2, .int _), (3, .ref _)]) dX5_treeOf_26 (by decide) rfl ?_
    refine J_sub [2, 3, 4, 5, 1, 0] rfl ?_
    exact jX5_treeOf_28 G l   FU _ _ _ _ _ _ _
  · refine J_aload_n dX5_treeOf_4 0 rfl ?_
    refine J_getR fd_5_3 w_214 rfl dX5_treeOf_5 (fun r1 => ?_)
    refine J_callVv (okX6_begin G l _ _) mkX6_begin _ _ rfl w_241 w_242 w_243 ⟨by decide, by decide⟩ rfl (Nat.le_of_ble_eq_true rfl) dX5_treeOf_8 (fun _u3 M2 => ?_)
    refine J_aload_n dX5_treeOf_11 0 rfl ?_
    refine J_getR fd_5_3 w_214 rfl dX5_treeOf_12 (fun r4 => ?_)
    refine J_aload_n dX5_treeOf_15 3 rfl ?_
    refine J_callVv (okX6_end G l _ _ _) mkX6_end _ _ rfl w_271 w_272 w_273 ⟨by decide, by decide⟩ rfl (Nat.le_of_ble_eq_true rfl) dX5_treeOf_16 (fun _u6 M5 => ?_)
    exact J_vret dX5_treeOf_19
theorem okX5_treeOf (G : Gx) (l : Launch) (l0 : Nat) (l1 : Int32) (l2 : Int32) (l3 : Nat) (M : Mem) : Con G l yX5_treeOf cX5_treeOf 7 none 5 125 (fun _ : Unit => none) [.ref (adr G l0), .int l1, .int l2, .ref (adr G l3)] M (fX5_treeOf l0 l1 l2 l3 M) := con_of (own := RX5) (nm := "treeOf") (by decide +kernel) rfl rfl (Nat.le_of_ble_eq_true rfl) (jX5_treeOf G l l0 l1 l2 l3 M)
theorem mkX5_treeOf : MOk yX5_treeOf cX5_treeOf 7 none 3 := ⟨w_292, tb1 (List.mem_of_getElem? (i := 5) rfl) rfl, by decide +kernel, by decide +kernel, by decide +kernel⟩
-- X7_init
def fX7_init (l0 : Nat) (M : Mem) : Option (Unit × Mem) := (nwG M (9 : Int32) (8 : Int32) fun c1 M2 => (pR M2 7 0 l0 c1 fun M3 => (nwA M3 .boolean (8 : Int32) fun c4 M5 => (pR M5 7 6 l0 c4 fun M6 => (nwA M6 .int (8 : Int32) fun c7 M8 => (pR M8 7 7 l0 c7 fun M9 => (nwA M9 .int (8 : Int32) fun c10 M11 => (pR M11 7 8 l0 c10 fun M12 => (nwO M12 6 4 fun c13 M14 => (bd (fX6_init c13 M14) fun _u16 M15 => (pR M15 7 12 l0 c13 fun M17 => (nwA M17 .int (8 : Int32) fun c18 M19 => (pR M19 7 13 l0 c18 fun M20 => (nwA M20 .int (8 : Int32) fun c21 M22 => (pR M22 7 14 l0 c21 fun M23 => some ((), M23))))))))))))))))
set_option maxHeartbeats 4000000 in
set_option maxRecDepth 100000 in
theorem jX7_init (G : Gx) (l : Launch) (l0 : Nat) (M : Mem) : J G l cX7_init 1 RX7 none "<init>" 2 40 (QM G (fun _ : Unit => none)) 0 [(0, .ref (adr G l0))] [] M (fX7_init l0 M) := by
  unfold fX7_init
  refine J_aload_n dX7_init_0 0 rfl ?_
  refine J_objInit w_293 w_1 w_2 ⟨by decide, by decide⟩ (Nat.le_of_ble_eq_true rfl) dX7_init_1 ?_
  refine J_aload_n dX7_init_4 0 rfl ?_
  refine J_bipush (v := 9) dX7_init_5 (by decide) ?_
  refine J_bipush (v := 8) dX7_init_7 (by decide) ?_
  refine J_multi w_294 w_12 dX7_init_9 ?_
  refine J_putRF fd_7_0 w_295 (Or.inl ⟨_, rfl⟩) dX7_init_13 ?_
  refine J_aload_n dX7_init_16 0 rfl ?_
  refine J_bipush (v := 8) dX7_init_17 (by decide) ?_
  refine J_newa (ty := .boolean) (t0 := 2) rfl (fun _ _ _ _ => rfl) (fun _ _ h => h) nz_boolean (by decide) w_218 dX7_init_19 ?_
  refine J_putRF fd_7_6 w_296 (Or.inl ⟨_, rfl⟩) dX7_init_21 ?_
  refine J_aload_n dX7_init_24 0 rfl ?_
  refine J_bipush (v := 8) dX7_init_25 (by decide) ?_
  refine J_newa (ty := .int) (t0 := 0) rfl (fun _ _ _ _ => rfl) (fun _ _ h => h) nz_int (by decide) w_12 dX7_init_27 ?_
  refine J_putRF fd_7_7 w_297 (Or.inl ⟨_, rfl⟩) dX7_init_29 ?_
  refine J_aload_n dX7_init_32 0 rfl ?_
  refine J_bipush (v := 8) dX7_init_33 (by decide) ?_
  refine J_newa (ty := .int) (t0 := 0) rfl (fun _ _ _ _ => rfl) (fun _ _ h => h) nz_int (by decide) w_12 dX7_init_35 ?_
  refine J_putRF fd_7_8 w_298 (Or.inl ⟨_, rfl⟩) dX7_init_37 ?_
  refine J_aload_n dX7_init_40 0 rfl ?_
  refine J_new nw_6 w_299 dX7_init_41 ?_
  refine J_dup dX7_init_44 rfl ?_
  refine J_callINv (host := "ChainBooks") (okX6_init G l _ _) mkX6_init rfl (List.mem_of_getElem? (i := 8) rfl) w_213 ⟨by decide, by decide⟩ rfl (Nat.le_of_ble_eq_true rfl) dX7_init_45 (fun _u16 M15 => ?_)
  refine J_putRF fd_7_12 w_300 (Or.inr ⟨_, rfl⟩) dX7_init_48 ?_
  refine J_aload_n dX7_init_51 0 rfl ?_
  refine J_bipush (v := 8) dX7_init_52 (by decide) ?_
  refine J_newa (ty := .int) (t0 := 0) rfl (fun _ _ _ _ => rfl) (fun _ _ h => h) nz_int (by decide) w_12 dX7_init_54 ?_
  refine J_putRF fd_7_13 w_301 (Or.inl ⟨_, rfl⟩) dX7_init_56 ?_
  refine J_aload_n dX7_init_59 0 rfl ?_
  refine J_bipush (v := 8) dX7_init_60 (by decide) ?_
  refine J_newa (ty := .int) (t0 := 0) rfl (fun _ _ _ _ => rfl) (fun _ _ h => h) nz_int (by decide) w_12 dX7_init_62 ?_
  refine J_putRF fd_7_14 w_302 (Or.inl ⟨_, rfl⟩) dX7_init_64 ?_
  exact J_vret dX7_init_67
theorem okX7_init (G : Gx) (l : Launch) (l0 : Nat) (M : Mem) : Con G l yX7_init cX7_init 1 none 2 40 (fun _ : Unit => none) [.ref (adr G l0)] M (fX7_init l0 M) := con_of (own := RX7) (nm := "<init>") (by decide +kernel) rfl rfl (Nat.le_of_ble_eq_true rfl) (jX7_init G l l0 M)
theorem mkX7_init : MOk yX7_init cX7_init 1 none 0 := ⟨w_303, tb1 (List.mem_of_getElem? (i := 8) rfl) rfl, by decide +kernel, by decide +kernel, by decide +kernel⟩
-- X7_isEnd
def fX7_isEnd_35  (s0 : Int32) (M : Mem) : Option (Int32 × Mem) := retZ s0 (some (s0, M))
set_option maxHeartbeats 4000000 in
set_option maxRecDepth 100000 in
theorem jX7_isEnd_35 (G : Gx) (l : Launch)   (s0 : Int32) (M : Mem) : J G l cX7_isEnd 2 RX7 (some .boolean) "isEnd" 0 0 (QM G (fun v : Int32 => some (.int v))) 35 [] [.int s0] M (fX7_isEnd_35  s0 M) := by
  unfold fX7_isEnd_35
  exact J_zret dX7_isEnd_35
def fX7_isEnd_34   (M : Mem) : Option (Int32 × Mem) := fX7_isEnd_35  (0 : Int32) M
set_option maxHeartbeats 4000000 in
set_option maxRecDepth 100000 in
theorem jX7_isEnd_34 (G : Gx) (l : Launch)    (M : Mem) : J G l cX7_isEnd 2 RX7 (some .boolean) "isEnd" 0 0 (QM G (fun v : Int32 => some (.int v))) 34 [] [] M (fX7_isEnd_34   M) := by
  unfold fX7_isEnd_34
  refine J_iconst (v := 0) dX7_isEnd_34 (by decide) ?_
  refine J_sub [] rfl ?_
  exact jX7_isEnd_35 G l   _ _
def fX7_isEnd_30   (M : Mem) : Option (Int32 × Mem) := fX7_isEnd_35  (1 : Int32) M
set_option maxHeartbeats 4000000 in
set_option maxRecDepth 100000 in
theorem jX7_isEnd_30 (G : Gx) (l : Launch)    (M : Mem) : J G l cX7_isEnd 2 RX7 (some .boolean) "isEnd" 0 0 (QM G (fun v : Int32 => some (.int v))) 30 [] [] M (fX7_isEnd_30   M) := by
  unfold fX7_isEnd_30
  refine J_iconst (v := 1) dX7_isEnd_30 (by decide) ?_
  refine J_goto (tgt := 35) dX7_isEnd_31 (by decide) ?_
  refine J_sub [] rfl ?_
  exact jX7_isEnd_35 G l   _ _
def fX7_isEnd (l0 : Nat) (l1 : Int32) (M : Mem) : Option (Int32 × Mem) := (gI M 7 11 l0 fun v1 => (if v1 = (1 : Int32) then fX7_isEnd_30   M else (gI M 7 3 l0 fun v2 => (if v2 = 0 then fX7_isEnd_34   M else (gI M 7 10 l0 fun v3 => (gI M 7 11 l0 fun v4 => (if l1 = ((v3 + v4) - (1 : Int32)) then fX7_isEnd_30   M else fX7_isEnd_34   M)))))))
set_option maxHeartbeats 4000000 in
set_option maxRecDepth 100000 in
theorem jX7_isEnd (G : Gx) (l : Launch) (l0 : Nat) (l1 : Int32) (M : Mem) : J G l cX7_isEnd 2 RX7 (some .boolean) "isEnd" 0 0 (QM G (fun v : Int32 => some (.int v))) 0 [(0, .ref (adr G l0)), (1, .int l1)] [] M (fX7_isEnd l0 l1 M) := by
  unfold fX7_isEnd
  refine J_aload_n dX7_isEnd_0 0 rfl ?_
  refine J_getI fd_7_11 w_309 rfl dX7_isEnd_1 ?_
  refine J_iconst (v := 1) dX7_isEnd_4 (by decide) ?_
  refine J_icmp_eq (tgt := 30) dX7_isEnd_5 (by decide) ?_ ?_
  · refine J_sub [] rfl ?_
    exact jX7_isEnd_30 G l    _
  · refine J_aload_n dX7_isEnd_8 0 rfl ?_
    refine J_getI fd_7_3 w_311 rfl dX7_isEnd_9 ?_
    refine J_if_eq (tgt := 34) dX7_isEnd_12 (by decide) ?_ ?_
    · refine J_sub [] rfl ?_
      exact jX7_isEnd_34 G l    _
    · refine J_iload_n dX7_isEnd_15 1 rfl ?_
      refine J_aload_n dX7_isEnd_16 0 rfl ?_
      refine J_getI fd_7_10 w_310 rfl dX7_isEnd_17 ?_
      refine J_aload_n dX7_isEnd_20 0 rfl ?_
      refine J_getI fd_7_11 w_309 rfl dX7_isEnd_21 ?_
      refine J_iadd dX7_isEnd_24 ?_
      refine J_iconst (v := 1) dX7_isEnd_25 (by decide) ?_
      refine J_isub dX7_isEnd_26 ?_
      refine J_icmp_ne (tgt := 34) dX7_isEnd_27 (by decide) ?_ ?_
      · refine J_sub [] rfl ?_
        exact jX7_isEnd_34 G l    _
      · refine J_sub [] rfl ?_
        exact jX7_isEnd_30 G l    _
theorem okX7_isEnd (G : Gx) (l : Launch) (l0 : Nat) (l1 : Int32) (M : Mem) : Con G l yX7_isEnd cX7_isEnd 2 (some .boolean) 0 0 (fun v : Int32 => some (.int v)) [.ref (adr G l0), .int l1] M (fX7_isEnd l0 l1 M) := con_of (own := RX7) (nm := "isEnd") (by decide +kernel) rfl rfl (Nat.le_of_ble_eq_true rfl) (jX7_isEnd G l l0 l1 M)
theorem mkX7_isEnd : MOk yX7_isEnd cX7_isEnd 2 (some .boolean) 1 := ⟨w_312, tb1 (List.mem_of_getElem? (i := 8) rfl) rfl, by decide +kernel, by decide +kernel, by decide +kernel⟩
-- X7_powerBelow
def fX7_powerBelow_27  (l1 : Int32) (M : Mem) : Option (Int32 × Mem) := some (l1, M)
set_option maxHeartbeats 4000000 in
set_option maxRecDepth 100000 in
theorem jX7_powerBelow_27 (G : Gx) (l : Launch)   (l1 : Int32) (M : Mem) : J G l cX7_powerBelow 3 RX7 (some .int) "powerBelow" 0 0 (QM G (fun v : Int32 => some (.int v))) 27 [(1, .int l1)] [] M (fX7_powerBelow_27  l1 M) := by
  unfold fX7_powerBelow_27
  refine J_iload_n dX7_powerBelow_27 0 rfl ?_
  exact J_iret dX7_powerBelow_28
def fX7_powerBelow_4  : Nat → Int32 → Int32 → Int32 → Mem → Option (Int32 × Mem)
  | 0, _, _, _, _ => none
  | n + 1, l0, l1, l2, M => (if (8 : Int32) ≤ l2 then fX7_powerBelow_27  l1 M else (if l0 ≤ ((2 : Int32) * l1) then fX7_powerBelow_27  l1 M else fX7_powerBelow_4  n l0 (l1 * (2 : Int32)) (l2 + (1 : Int32)) M))
set_option maxHeartbeats 4000000 in
set_option maxRecDepth 100000 in
theorem jX7_powerBelow_4 (G : Gx) (l : Launch)   : ∀ (n : Nat) (l0 : Int32) (l1 : Int32) (l2 : Int32) (M : Mem), J G l cX7_powerBelow 3 RX7 (some .int) "powerBelow" 0 0 (QM G (fun v : Int32 => some (.int v))) 4 [(0, .int l0), (1, .int l1), (2, .int l2)] [] M (fX7_powerBelow_4  n l0 l1 l2 M) := by
  intro n
  induction n with
  | zero => intro l0 l1 l2 M; exact J_none
  | succ n ih =>
    intro l0 l1 l2 M
    rw [fX7_powerBelow_4]
    refine J_iload_n dX7_powerBelow_4 2 rfl ?_
    refine J_bipush (v := 8) dX7_powerBelow_5 (by decide) ?_
    refine J_icmp_ge (tgt := 27) dX7_powerBelow_7 (by decide) ?_ ?_
    · refine J_sub [1] rfl ?_
      exact jX7_powerBelow_27 G l   _ _
    · refine J_iconst (v := 2) dX7_powerBelow_10 (by decide) ?_
      refine J_iload_n dX7_powerBelow_11 1 rfl ?_
      refine J_imul dX7_powerBelow_12 ?_
      refine J_iload_n dX7_powerBelow_13 0 rfl ?_
      refine J_icmp_ge (tgt := 27) dX7_powerBelow_14 (by decide) ?_ ?_
      · refine J_sub [1] rfl ?_
        exact jX7_powerBelow_27 G l   _ _
      · refine J_iload_n dX7_powerBelow_17 1 rfl ?_
        refine J_iconst (v := 2) dX7_powerBelow_18 (by decide) ?_
        refine J_imul dX7_powerBelow_19 ?_
        refine J_istore_n (lv' := [(1, .int _), (0, .int _), (2, .int _)]) dX7_powerBelow_20 (by decide) rfl ?_
        refine J_iincK (z := 1) (lv' := [(2, .int _), (1, .int _), (0, .int _)]) dX7_powerBelow_21 2 rfl (by decide) (by decide) rfl ?_
        refine J_goto (tgt := 4) dX7_powerBelow_24 (by decide) ?_
        refine J_sub [2, 1, 0] rfl ?_
        exact ih _ _ _ _
def fX7_powerBelow (l0 : Int32) (M : Mem) : Option (Int32 × Mem) := fX7_powerBelow_4  FU l0 (1 : Int32) (0 : Int32) M
set_option maxHeartbeats 4000000 in
set_option maxRecDepth 100000 in
theorem jX7_powerBelow (G : Gx) (l : Launch) (l0 : Int32) (M : Mem) : J G l cX7_powerBelow 3 RX7 (some .int) "powerBelow" 0 0 (QM G (fun v : Int32 => some (.int v))) 0 [(0, .int l0)] [] M (fX7_powerBelow l0 M) := by
  unfold fX7_powerBelow
  refine J_iconst (v := 1) dX7_powerBelow_0 (by decide) ?_
  refine J_istore_n (lv' := [(1, .int _), (0, .int _)]) dX7_powerBelow_1 (by decide) rfl ?_
  refine J_iconst (v := 0) dX7_powerBelow_2 (by decide) ?_
  refine J_istore_n (lv' := [(2, .int _), (1, .int _), (0, .int _)]) dX7_powerBelow_3 (by decide) rfl ?_
  refine J_sub [2, 1, 0] rfl ?_
  exact jX7_powerBelow_4 G l   FU _ _ _ _
theorem okX7_powerBelow (G : Gx) (l : Launch) (l0 : Int32) (M : Mem) : Con G l yX7_powerBelow cX7_powerBelow 3 (some .int) 0 0 (fun v : Int32 => some (.int v)) [.int l0] M (fX7_powerBelow l0 M) := con_of (own := RX7) (nm := "powerBelow") (by decide +kernel) rfl rfl (Nat.le_of_ble_eq_true rfl) (jX7_powerBelow G l l0 M)
theorem mkX7_powerBelow : MOk yX7_powerBelow cX7_powerBelow 3 (some .int) 1 := ⟨w_316, tb1 (List.mem_of_getElem? (i := 8) rfl) rfl, by decide +kernel, by decide +kernel, by decide +kernel⟩
-- X7_goDown
def fX7_goDown_170   (M : Mem) : Option (Unit × Mem) := some ((), M)
set_option maxHeartbeats 4000000 in
set_option maxRecDepth 100000 in
theorem jX7_goDown_170 (G : Gx) (l : Launch)    (M : Mem) : J G l cX7_goDown 4 RX7 none "goDown" 1 22 (QM G (fun _ : Unit => none)) 170 [] [] M (fX7_goDown_170   M) := by
  unfold fX7_goDown_170
  exact J_vret dX7_goDown_170
def fX7_goDown_154 (k18 : Nat → Int32 → Mem → Option (Unit × Mem)) (l0 : Nat) (l1 : Int32) (s0 : Int32) (s1 : Nat) (M : Mem) : Option (Unit × Mem) := (pI M 7 11 s1 s0 fun M1 => (gI M1 7 9 l0 fun v2 => (pI M1 7 9 l0 (v2 + (1 : Int32)) fun M3 => k18 l0 l1 M3)))
set_option maxHeartbeats 4000000 in
set_option maxRecDepth 100000 in
theorem jX7_goDown_154 (G : Gx) (l : Launch) (k18 : Nat → Int32 → Mem → Option (Unit × Mem)) (h18 : ∀ (l0 : Nat) (l1 : Int32) (M : Mem), J G l cX7_goDown 4 RX7 none "goDown" 1 22 (QM G (fun _ : Unit => none)) 18 [(0, .ref (adr G l0)), (1, .int l1)] [] M (k18 l0 l1 M)) (l0 : Nat) (l1 : Int32) (s0 : Int32) (s1 : Nat) (M : Mem) : J G l cX7_goDown 4 RX7 none "goDown" 1 22 (QM G (fun _ : Unit => none)) 154 [(0, .ref (adr G l0)), (1, .int l1)] [.int s0, .ref (adr G s1)] M (fX7_goDown_154 k18 l0 l1 s0 s1 M) := by
  unfold fX7_goDown_154
  refine J_putI fd_7_11 w_309 dX7_goDown_154 ?_
  refine J_aload_n dX7_goDown_157 0 rfl ?_
  refine J_dup dX7_goDown_158 rfl ?_
  refine J_getI fd_7_9 w_308 rfl dX7_goDown_159 ?_
  refine J_iconst (v := 1) dX7_goDown_162 (by decide) ?_
  refine J_iadd dX7_goDown_163 ?_
  refine J_putI fd_7_9 w_308 dX7_goDown_164 ?_
  refine J_goto (tgt := 18) dX7_goDown_167 (by decide) ?_
  refine J_sub [0, 1] rfl ?_
  exact h18 _ _ _
def fX7_goDown_136 (k18 : Nat → Int32 → Mem → Option (Unit × Mem)) (l0 : Nat) (l1 : Int32) (l2 : Int32) (l3 : Int32) (s0 : Int32) (s1 : Nat) (M : Mem) : Option (Unit × Mem) := (pI M 7 10 s1 s0 fun M1 => (if l3 = 0 then fX7_goDown_154 k18 l0 l1 l2 l0 M1 else (gI M1 7 11 l0 fun v2 => fX7_goDown_154 k18 l0 l1 (v2 - l2) l0 M1)))
set_option maxHeartbeats 4000000 in
set_option maxRecDepth 100000 in
theorem jX7_goDown_136 (G : Gx) (l : Launch) (k18 : Nat → Int32 → Mem → Option (Unit × Mem)) (h18 : ∀ (l0 : Nat) (l1 : Int32) (M : Mem), J G l cX7_goDown 4 RX7 none "goDown" 1 22 (QM G (fun _ : Unit => none)) 18 [(0, .ref (adr G l0)), (1, .int l1)] [] M (k18 l0 l1 M)) (l0 : Nat) (l1 : Int32) (l2 : Int32) (l3 : Int32) (s0 : Int32) (s1 : Nat) (M : Mem) : J G l cX7_goDown 4 RX7 none "goDown" 1 22 (QM G (fun _ : Unit => none)) 136 [(0, .ref (adr G l0)), (1, .int l1), (2, .int l2), (3, .int l3)] [.int s0, .ref (adr G s1)] M (fX7_goDown_136 k18 l0 l1 l2 l3 s0 s1 M) := by
  unfold fX7_goDown_136
  refine J_putI fd_7_10 w_310 dX7_goDown_136 ?_
  refine J_aload_n dX7_goDown_139 0 rfl ?_
  refine J_iload_n dX7_goDown_140 3 rfl ?_
  refine J_if_eq (tgt := 153) dX7_goDown_141 (by decide) ?_ ?_
  · refine J_iload_n dX7_goDown_153 2 rfl ?_
    refine J_sub [0, 1] rfl ?_
    exact jX7_goDown_154 G l _ h18 _ _ _ _ _
  · refine J_aload_n dX7_goDown_144 0 rfl ?_
    refine J_getI fd_7_11 w_309 rfl dX7_goDown_145 ?_
    refine J_iload_n dX7_goDown_148 2 rfl ?_
    refine J_isub dX7_goDown_149 ?_
    refine J_goto (tgt := 154) dX7_goDown_150 (by decide) ?_
    refine J_sub [0, 1] rfl ?_
    exact jX7_goDown_154 G l _ h18 _ _ _ _ _
def fX7_goDown_117 (k18 : Nat → Int32 → Mem → Option (Unit × Mem)) (l0 : Nat) (l1 : Int32) (l2 : Int32) (l3 : Int32) (s0 : Int32) (s1 : Int32) (s2 : Nat) (M : Mem) : Option (Unit × Mem) := (wI M .int s2 s1 s0 fun M1 => (if l3 = 0 then (gI M1 7 10 l0 fun v2 => fX7_goDown_136 k18 l0 l1 l2 l3 v2 l0 M1) else (gI M1 7 10 l0 fun v3 => fX7_goDown_136 k18 l0 l1 l2 l3 (v3 + l2) l0 M1)))
set_option maxHeartbeats 4000000 in
set_option maxRecDepth 100000 in
theorem jX7_goDown_117 (G : Gx) (l : Launch) (k18 : Nat → Int32 → Mem → Option (Unit × Mem)) (h18 : ∀ (l0 : Nat) (l1 : Int32) (M : Mem), J G l cX7_goDown 4 RX7 none "goDown" 1 22 (QM G (fun _ : Unit => none)) 18 [(0, .ref (adr G l0)), (1, .int l1)] [] M (k18 l0 l1 M)) (l0 : Nat) (l1 : Int32) (l2 : Int32) (l3 : Int32) (s0 : Int32) (s1 : Int32) (s2 : Nat) (M : Mem) : J G l cX7_goDown 4 RX7 none "goDown" 1 22 (QM G (fun _ : Unit => none)) 117 [(0, .ref (adr G l0)), (1, .int l1), (2, .int l2), (3, .int l3)] [.int s0, .int s1, .ref (adr G s2)] M (fX7_goDown_117 k18 l0 l1 l2 l3 s0 s1 s2 M) := by
  unfold fX7_goDown_117
  refine J_iast dX7_goDown_117 ?_
  refine J_aload_n dX7_goDown_118 0 rfl ?_
  refine J_iload_n dX7_goDown_119 3 rfl ?_
  refine J_if_eq (tgt := 132) dX7_goDown_120 (by decide) ?_ ?_
  · refine J_aload_n dX7_goDown_132 0 rfl ?_
    refine J_getI fd_7_10 w_310 rfl dX7_goDown_133 ?_
    refine J_sub [0, 1, 2, 3] rfl ?_
    exact jX7_goDown_136 G l _ h18 _ _ _ _ _ _ _
  · refine J_aload_n dX7_goDown_123 0 rfl ?_
    refine J_getI fd_7_10 w_310 rfl dX7_goDown_124 ?_
    refine J_iload_n dX7_goDown_127 2 rfl ?_
    refine J_iadd dX7_goDown_128 ?_
    refine J_goto (tgt := 136) dX7_goDown_129 (by decide) ?_
    refine J_sub [0, 1, 2, 3] rfl ?_
    exact jX7_goDown_136 G l _ h18 _ _ _ _ _ _ _
def fX7_goDown_94 (k18 : Nat → Int32 → Mem → Option (Unit × Mem)) (l0 : Nat) (l1 : Int32) (l2 : Int32) (l3 : Int32) (s0 : Int32) (s1 : Int32) (s2 : Nat) (M : Mem) : Option (Unit × Mem) := (wI M .int s2 s1 s0 fun M1 => (gR M1 7 8 l0 fun r2 => (gI M1 7 9 l0 fun v3 => (if l3 = 0 then (gI M1 7 11 l0 fun v4 => fX7_goDown_117 k18 l0 l1 l2 l3 (v4 - l2) v3 r2 M1) else fX7_goDown_117 k18 l0 l1 l2 l3 l2 v3 r2 M1))))
set_option maxHeartbeats 4000000 in
set_option maxRecDepth 100000 in
theorem jX7_goDown_94 (G : Gx) (l : Launch) (k18 : Nat → Int32 → Mem → Option (Unit × Mem)) (h18 : ∀ (l0 : Nat) (l1 : Int32) (M : Mem), J G l cX7_goDown 4 RX7 none "goDown" 1 22 (QM G (fun _ : Unit => none)) 18 [(0, .ref (adr G l0)), (1, .int l1)] [] M (k18 l0 l1 M)) (l0 : Nat) (l1 : Int32) (l2 : Int32) (l3 : Int32) (s0 : Int32) (s1 : Int32) (s2 : Nat) (M : Mem) : J G l cX7_goDown 4 RX7 none "goDown" 1 22 (QM G (fun _ : Unit => none)) 94 [(0, .ref (adr G l0)), (1, .int l1), (2, .int l2), (3, .int l3)] [.int s0, .int s1, .ref (adr G s2)] M (fX7_goDown_94 k18 l0 l1 l2 l3 s0 s1 s2 M) := by
  unfold fX7_goDown_94
  refine J_iast dX7_goDown_94 ?_
  refine J_aload_n dX7_goDown_95 0 rfl ?_
  refine J_getR fd_7_8 w_298 rfl dX7_goDown_96 (fun r2 => ?_)
  refine J_aload_n dX7_goDown_99 0 rfl ?_
  refine J_getI fd_7_9 w_308 rfl dX7_goDown_100 ?_
  refine J_iload_n dX7_goDown_103 3 rfl ?_
  refine J_if_eq (tgt := 111) dX7_goDown_104 (by decide) ?_ ?_
  · refine J_aload_n dX7_goDown_111 0 rfl ?_
    refine J_getI fd_7_11 w_309 rfl dX7_goDown_112 ?_
    refine J_iload_n dX7_goDown_115 2 rfl ?_
    refine J_isub dX7_goDown_116 ?_
    refine J_sub [0, 1, 2, 3] rfl ?_
    exact jX7_goDown_117 G l _ h18 _ _ _ _ _ _ _ _
  · refine J_iload_n dX7_goDown_107 2 rfl ?_
    refine J_goto (tgt := 117) dX7_goDown_108 (by decide) ?_
    refine J_sub [0, 1, 2, 3] rfl ?_
    exact jX7_goDown_117 G l _ h18 _ _ _ _ _ _ _ _
def fX7_goDown_58 (k18 : Nat → Int32 → Mem → Option (Unit × Mem)) (l0 : Nat) (l1 : Int32) (l2 : Int32) (s0 : Int32) (M : Mem) : Option (Unit × Mem) := (gR M 7 6 l0 fun r1 => (gI M 7 9 l0 fun v2 => (wI M .boolean r1 v2 s0 fun M3 => (gR M3 7 7 l0 fun r4 => (gI M3 7 9 l0 fun v5 => (if s0 = 0 then (gI M3 7 10 l0 fun v6 => fX7_goDown_94 k18 l0 l1 l2 s0 (v6 + l2) v5 r4 M3) else (gI M3 7 10 l0 fun v7 => fX7_goDown_94 k18 l0 l1 l2 s0 v7 v5 r4 M3)))))))
set_option maxHeartbeats 4000000 in
set_option maxRecDepth 100000 in
theorem jX7_goDown_58 (G : Gx) (l : Launch) (k18 : Nat → Int32 → Mem → Option (Unit × Mem)) (h18 : ∀ (l0 : Nat) (l1 : Int32) (M : Mem), J G l cX7_goDown 4 RX7 none "goDown" 1 22 (QM G (fun _ : Unit => none)) 18 [(0, .ref (adr G l0)), (1, .int l1)] [] M (k18 l0 l1 M)) (l0 : Nat) (l1 : Int32) (l2 : Int32) (s0 : Int32) (M : Mem) : J G l cX7_goDown 4 RX7 none "goDown" 1 22 (QM G (fun _ : Unit => none)) 58 [(0, .ref (adr G l0)), (1, .int l1), (2, .int l2)] [.int s0] M (fX7_goDown_58 k18 l0 l1 l2 s0 M) := by
  unfold fX7_goDown_58
  refine J_istore_n (lv' := [(3, .int _), (0, .ref _), (1, .int _), (2, .int _)]) dX7_goDown_58 (by decide) rfl ?_
  refine J_aload_n dX7_goDown_59 1 rfl ?_
  refine J_getR fd_7_6 w_296 rfl dX7_goDown_60 (fun r1 => ?_)
  refine J_aload_n dX7_goDown_63 1 rfl ?_
  refine J_getI fd_7_9 w_308 rfl dX7_goDown_64 ?_
  refine J_iload_n dX7_goDown_67 0 rfl ?_
  refine J_zast dX7_goDown_68 ?_
  refine J_aload_n dX7_goDown_69 1 rfl ?_
  refine J_getR fd_7_7 w_297 rfl dX7_goDown_70 (fun r4 => ?_)
  refine J_aload_n dX7_goDown_73 1 rfl ?_
  refine J_getI fd_7_9 w_308 rfl dX7_goDown_74 ?_
  refine J_iload_n dX7_goDown_77 0 rfl ?_
  refine J_if_eq (tgt := 88) dX7_goDown_78 (by decide) ?_ ?_
  · refine J_aload_n dX7_goDown_88 1 rfl ?_
    refine J_getI fd_7_10 w_310 rfl dX7_goDown_89 ?_
    refine J_iload_n dX7_goDown_92 3 rfl ?_
    refine J_iadd dX7_goDown_93 ?_
    refine J_sub [1, 2, 3, 0] rfl ?_
    exact jX7_goDown_94 G l _ h18 _ _ _ _ _ _ _ _
  · refine J_aload_n dX7_goDown_81 1 rfl ?_
    refine J_getI fd_7_10 w_310 rfl dX7_goDown_82 ?_
    refine J_goto (tgt := 94) dX7_goDown_85 (by decide) ?_
    refine J_sub [1, 2, 3, 0] rfl ?_
    exact jX7_goDown_94 G l _ h18 _ _ _ _ _ _ _ _
def fX7_goDown_18  : Nat → Nat → Int32 → Mem → Option (Unit × Mem)
  | 0, _, _, _ => none
  | n + 1, l0, l1, M => (gI M 7 9 l0 fun v1 => (if (8 : Int32) ≤ v1 then fX7_goDown_170   M else (cV M 7 l0 (fX7_isEnd l0 l1 M) fun v3 M2 => (if v3 = 0 then (gI M2 7 11 l0 fun v4 => (bd (fX7_powerBelow v4 M2) fun v6 M5 => (gI M5 7 10 l0 fun v7 => (if l1 < (v7 + v6) then fX7_goDown_58 (fX7_goDown_18  n) l0 l1 v6 (0 : Int32) M5 else fX7_goDown_58 (fX7_goDown_18  n) l0 l1 v6 (1 : Int32) M5)))) else fX7_goDown_170   M2))))
set_option maxHeartbeats 4000000 in
set_option maxRecDepth 100000 in
theorem jX7_goDown_18 (G : Gx) (l : Launch)   : ∀ (n : Nat) (l0 : Nat) (l1 : Int32) (M : Mem), J G l cX7_goDown 4 RX7 none "goDown" 1 22 (QM G (fun _ : Unit => none)) 18 [(0, .ref (adr G l0)), (1, .int l1)] [] M (fX7_goDown_18  n l0 l1 M) := by
  intro n
  induction n with
  | zero => intro l0 l1 M; exact J_none
  | succ n ih =>
    intro l0 l1 M
    rw [fX7_goDown_18]
    refine J_aload_n dX7_goDown_18 0 rfl ?_
    refine J_getI fd_7_9 w_308 rfl dX7_goDown_19 ?_
    refine J_bipush (v := 8) dX7_goDown_22 (by decide) ?_
    refine J_icmp_ge (tgt := 170) dX7_goDown_24 (by decide) ?_ ?_
    · refine J_sub [] rfl ?_
      exact jX7_goDown_170 G l    _
    · refine J_aload_n dX7_goDown_27 0 rfl ?_
      refine J_iload_n dX7_goDown_28 1 rfl ?_
      refine J_callVi (okX7_isEnd G l _ _ _) mkX7_isEnd _ _ rfl w_313 w_314 w_315 ⟨by decide, by decide⟩ rfl (Nat.le_of_ble_eq_true rfl) dX7_goDown_29 (fun v3 M2 => ?_)
      refine J_if_ne (tgt := 170) dX7_goDown_32 (by decide) ?_ ?_
      · refine J_sub [] rfl ?_
        exact jX7_goDown_170 G l    _
      · refine J_aload_n dX7_goDown_35 0 rfl ?_
        refine J_getI fd_7_11 w_309 rfl dX7_goDown_36 ?_
        refine J_callSi (okX7_powerBelow G l _ _) mkX7_powerBelow w_318 w_317 ⟨by decide, by decide⟩ rfl (Nat.le_of_ble_eq_true rfl) dX7_goDown_39 (fun v6 M5 => ?_)
        refine J_istore_n (lv' := [(2, .int _), (0, .ref _), (1, .int _)]) dX7_goDown_42 (by decide) rfl ?_
        refine J_iload_n dX7_goDown_43 2 rfl ?_
        refine J_aload_n dX7_goDown_44 1 rfl ?_
        refine J_getI fd_7_10 w_310 rfl dX7_goDown_45 ?_
        refine J_iload_n dX7_goDown_48 0 rfl ?_
        refine J_iadd dX7_goDown_49 ?_
        refine J_icmp_lt (tgt := 57) dX7_goDown_50 (by decide) ?_ ?_
        · refine J_iconst (v := 0) dX7_goDown_57 (by decide) ?_
          refine J_sub [1, 2, 0] rfl ?_
          exact jX7_goDown_58 G l _ ih _ _ _ _ _
        · refine J_iconst (v := 1) dX7_goDown_53 (by decide) ?_
          refine J_goto (tgt := 58) dX7_goDown_54 (by decide) ?_
          refine J_sub [1, 2, 0] rfl ?_
          exact jX7_goDown_58 G l _ ih _ _ _ _ _
def fX7_goDown (l0 : Nat) (l1 : Int32) (M : Mem) : Option (Unit × Mem) := (pI M 7 10 l0 (0 : Int32) fun M1 => (gI M1 7 5 l0 fun v2 => (pI M1 7 11 l0 v2 fun M3 => (pI M3 7 9 l0 (0 : Int32) fun M4 => fX7_goDown_18  FU l0 l1 M4))))
set_option maxHeartbeats 4000000 in
set_option maxRecDepth 100000 in
theorem jX7_goDown (G : Gx) (l : Launch) (l0 : Nat) (l1 : Int32) (M : Mem) : J G l cX7_goDown 4 RX7 none "goDown" 1 22 (QM G (fun _ : Unit => none)) 0 [(0, .ref (adr G l0)), (1, .int l1)] [] M (fX7_goDown l0 l1 M) := by
  unfold fX7_goDown
  refine J_aload_n dX7_goDown_0 0 rfl ?_
  refine J_iconst (v := 0) dX7_goDown_1 (by decide) ?_
  refine J_putI fd_7_10 w_310 dX7_goDown_2 ?_
  refine J_aload_n dX7_goDown_5 0 rfl ?_
  refine J_aload_n dX7_goDown_6 0 rfl ?_
  refine J_getI fd_7_5 w_319 rfl dX7_goDown_7 ?_
  refine J_putI fd_7_11 w_309 dX7_goDown_10 ?_
  refine J_aload_n dX7_goDown_13 0 rfl ?_
  refine J_iconst (v := 0) dX7_goDown_14 (by decide) ?_
  refine J_putI fd_7_9 w_308 dX7_goDown_15 ?_
  refine J_sub [0, 1] rfl ?_
  exact jX7_goDown_18 G l   FU _ _ _
theorem okX7_goDown (G : Gx) (l : Launch) (l0 : Nat) (l1 : Int32) (M : Mem) : Con G l yX7_goDown cX7_goDown 4 none 1 22 (fun _ : Unit => none) [.ref (adr G l0), .int l1] M (fX7_goDown l0 l1 M) := con_of (own := RX7) (nm := "goDown") (by decide +kernel) rfl rfl (Nat.le_of_ble_eq_true rfl) (jX7_goDown G l l0 l1 M)
theorem mkX7_goDown : MOk yX7_goDown cX7_goDown 4 none 1 := ⟨w_320, tb1 (List.mem_of_getElem? (i := 8) rfl) rfl, by decide +kernel, by decide +kernel, by decide +kernel⟩
-- X7_hasOwnBeginning
def fX7_hasOwnBeginning_19  (s0 : Int32) (M : Mem) : Option (Int32 × Mem) := retZ s0 (some (s0, M))
set_option maxHeartbeats 4000000 in
set_option maxRecDepth 100000 in
theorem jX7_hasOwnBeginning_19 (G : Gx) (l : Launch)   (s0 : Int32) (M : Mem) : J G l cX7_hasOwnBeginning 1 RX7 (some .boolean) "hasOwnBeginning" 0 0 (QM G (fun v : Int32 => some (.int v))) 19 [] [.int s0] M (fX7_hasOwnBeginning_19  s0 M) := by
  unfold fX7_hasOwnBeginning_19
  exact J_zret dX7_hasOwnBeginning_19
def fX7_hasOwnBeginning_18   (M : Mem) : Option (Int32 × Mem) := fX7_hasOwnBeginning_19  (0 : Int32) M
set_option maxHeartbeats 4000000 in
set_option maxRecDepth 100000 in
theorem jX7_hasOwnBeginning_18 (G : Gx) (l : Launch)    (M : Mem) : J G l cX7_hasOwnBeginning 1 RX7 (some .boolean) "hasOwnBeginning" 0 0 (QM G (fun v : Int32 => some (.int v))) 18 [] [] M (fX7_hasOwnBeginning_18   M) := by
  unfold fX7_hasOwnBeginning_18
  refine J_iconst (v := 0) dX7_hasOwnBeginning_18 (by decide) ?_
  refine J_sub [] rfl ?_
  exact jX7_hasOwnBeginning_19 G l   _ _
def fX7_hasOwnBeginning (l0 : Nat) (M : Mem) : Option (Int32 × Mem) := (gI M 7 3 l0 fun v1 => (if v1 = 0 then fX7_hasOwnBeginning_18   M else (gI M 7 10 l0 fun v2 => (if v2 ≤ 0 then fX7_hasOwnBeginning_18   M else fX7_hasOwnBeginning_19  (1 : Int32) M))))
set_option maxHeartbeats 4000000 in
set_option maxRecDepth 100000 in
theorem jX7_hasOwnBeginning (G : Gx) (l : Launch) (l0 : Nat) (M : Mem) : J G l cX7_hasOwnBeginning 1 RX7 (some .boolean) "hasOwnBeginning" 0 0 (QM G (fun v : Int32 => some (.int v))) 0 [(0, .ref (adr G l0))] [] M (fX7_hasOwnBeginning l0 M) := by
  unfold fX7_hasOwnBeginning
  refine J_aload_n dX7_hasOwnBeginning_0 0 rfl ?_
  refine J_getI fd_7_3 w_311 rfl dX7_hasOwnBeginning_1 ?_
  refine J_if_eq (tgt := 18) dX7_hasOwnBeginning_4 (by decide) ?_ ?_
  · refine J_sub [] rfl ?_
    exact jX7_hasOwnBeginning_18 G l    _
  · refine J_aload_n dX7_hasOwnBeginning_7 0 rfl ?_
    refine J_getI fd_7_10 w_310 rfl dX7_hasOwnBeginning_8 ?_
    refine J_if_le (tgt := 18) dX7_hasOwnBeginning_11 (by decide) ?_ ?_
    · refine J_sub [] rfl ?_
      exact jX7_hasOwnBeginning_18 G l    _
    · refine J_iconst (v := 1) dX7_hasOwnBeginning_14 (by decide) ?_
      refine J_goto (tgt := 19) dX7_hasOwnBeginning_15 (by decide) ?_
      refine J_sub [] rfl ?_
      exact jX7_hasOwnBeginning_19 G l   _ _
theorem okX7_hasOwnBeginning (G : Gx) (l : Launch) (l0 : Nat) (M : Mem) : Con G l yX7_hasOwnBeginning cX7_hasOwnBeginning 1 (some .boolean) 0 0 (fun v : Int32 => some (.int v)) [.ref (adr G l0)] M (fX7_hasOwnBeginning l0 M) := con_of (own := RX7) (nm := "hasOwnBeginning") (by decide +kernel) rfl rfl (Nat.le_of_ble_eq_true rfl) (jX7_hasOwnBeginning G l l0 M)
theorem mkX7_hasOwnBeginning : MOk yX7_hasOwnBeginning cX7_hasOwnBeginning 1 (some .boolean) 0 := ⟨w_324, tb1 (List.mem_of_getElem? (i := 8) rfl) rfl, by decide +kernel, by decide +kernel, by decide +kernel⟩
-- X7_make
def fX7_make_79  : Nat → Nat → Nat → Int32 → Mem → Option (Unit × Mem)
  | 0, _, _, _, _ => none
  | n + 1, l0, l1, l5, M => (if l5 < 0 then some ((), M) else (gR M 7 7 l0 fun r1 => (rI M .int r1 l5 fun v2 => (gR M 7 8 l0 fun r3 => (rI M .int r3 l5 fun v4 => (gR M 7 0 l0 fun r5 => (gI M 7 1 l0 fun v6 => (rR M (.array .int) r5 v6 fun r7 => (cV M 5 l1 (fX5_treeOf l1 v2 v4 r7 M) fun _u9 M8 => (gI M8 7 1 l0 fun v10 => (pI M8 7 1 l0 (v10 + (1 : Int32)) fun M11 => fX7_make_79  n l0 l1 (l5 + (-1 : Int32)) M11)))))))))))
set_option maxHeartbeats 4000000 in
set_option maxRecDepth 100000 in
theorem jX7_make_79 (G : Gx) (l : Launch)   : ∀ (n : Nat) (l0 : Nat) (l1 : Nat) (l5 : Int32) (M : Mem), J G l cX7_make 6 RX7 none "make" 6 151 (QM G (fun _ : Unit => none)) 79 [(0, .ref (adr G l0)), (1, .ref (adr G l1)), (5, .int l5)] [] M (fX7_make_79  n l0 l1 l5 M) := by
  intro n
  induction n with
  | zero => intro l0 l1 l5 M; exact J_none
  | succ n ih =>
    intro l0 l1 l5 M
    rw [fX7_make_79]
    refine J_iload dX7_make_79 2 rfl ?_
    refine J_if_lt (tgt := 127) dX7_make_81 (by decide) ?_ ?_
    · exact J_vret dX7_make_127
    · refine J_aload_n dX7_make_84 1 rfl ?_
      refine J_aload_n dX7_make_85 0 rfl ?_
      refine J_getR fd_7_7 w_297 rfl dX7_make_86 (fun r1 => ?_)
      refine J_iload dX7_make_89 2 rfl ?_
      refine J_iald dX7_make_91 ?_
      refine J_aload_n dX7_make_92 0 rfl ?_
      refine J_getR fd_7_8 w_298 rfl dX7_make_93 (fun r3 => ?_)
      refine J_iload dX7_make_96 2 rfl ?_
      refine J_iald dX7_make_98 ?_
      refine J_aload_n dX7_make_99 0 rfl ?_
      refine J_getR fd_7_0 w_295 rfl dX7_make_100 (fun r5 => ?_)
      refine J_aload_n dX7_make_103 0 rfl ?_
      refine J_getI fd_7_1 w_304 rfl dX7_make_104 ?_
      refine J_aaldI dX7_make_107 (fun r7 => ?_)
      refine J_callVv (okX5_treeOf G l _ _ _ _ _) mkX5_treeOf _ _ rfl w_305 w_306 w_307 ⟨by decide, by decide⟩ rfl (Nat.le_of_ble_eq_true rfl) dX7_make_108 (fun _u9 M8 => ?_)
      refine J_aload_n dX7_make_111 0 rfl ?_
      refine J_dup dX7_make_112 rfl ?_
      refine J_getI fd_7_1 w_304 rfl dX7_make_113 ?_
      refine J_iconst (v := 1) dX7_make_116 (by decide) ?_
      refine J_iadd dX7_make_117 ?_
      refine J_putI fd_7_1 w_304 dX7_make_118 ?_
      refine J_iincK (z := -1) (lv' := [(5, .int _), (0, .ref _), (1, .ref _)]) dX7_make_121 2 rfl (by decide) (by decide) rfl ?_
      refine J_goto (tgt := 79) dX7_make_124 (by decide) ?_
      refine J_sub [1, 2, 0] rfl ?_
      exact ih _ _ _ _
def fX7_make_71  (l0 : Nat) (l1 : Nat) (M : Mem) : Option (Unit × Mem) := (gI M 7 9 l0 fun v1 => fX7_make_79  FU l0 l1 (v1 - (1 : Int32)) M)
set_option maxHeartbeats 4000000 in
set_option maxRecDepth 100000 in
theorem jX7_make_71 (G : Gx) (l : Launch)   (l0 : Nat) (l1 : Nat) (M : Mem) : J G l cX7_make 6 RX7 none "make" 6 151 (QM G (fun _ : Unit => none)) 71 [(0, .ref (adr G l0)), (1, .ref (adr G l1))] [] M (fX7_make_71  l0 l1 M) := by
  unfold fX7_make_71
  refine J_aload_n dX7_make_71 0 rfl ?_
  refine J_getI fd_7_9 w_308 rfl dX7_make_72 ?_
  refine J_iconst (v := 1) dX7_make_75 (by decide) ?_
  refine J_isub dX7_make_76 ?_
  refine J_istore (lv' := [(5, .int _), (0, .ref _), (1, .ref _)]) dX7_make_77 (by decide) rfl ?_
  refine J_sub [1, 2, 0] rfl ?_
  exact jX7_make_79 G l   FU _ _ _ _
def fX7_make_38  (l0 : Nat) (l1 : Nat) (s0 : Int32) (s1 : Nat) (M : Mem) : Option (Unit × Mem) := (cV M 7 s1 (fX7_goDown s1 s0 M) fun _u2 M1 => (cV M1 7 l0 (fX7_hasOwnBeginning l0 M1) fun v4 M3 => (if v4 = 0 then fX7_make_71  l0 l1 M3 else (gI M3 7 10 l0 fun v5 => (gI M3 7 11 l0 fun v6 => (gR M3 7 0 l0 fun r7 => (rR M3 (.array .int) r7 (0 : Int32) fun r8 => (cV M3 5 l1 (fX5_treeOf l1 v5 v6 r8 M3) fun _u10 M9 => (pI M9 7 1 l0 (1 : Int32) fun M11 => fX7_make_71  l0 l1 M11)))))))))
set_option maxHeartbeats 4000000 in
set_option maxRecDepth 100000 in
theorem jX7_make_38 (G : Gx) (l : Launch)   (l0 : Nat) (l1 : Nat) (s0 : Int32) (s1 : Nat) (M : Mem) : J G l cX7_make 6 RX7 none "make" 6 151 (QM G (fun _ : Unit => none)) 38 [(0, .ref (adr G l0)), (1, .ref (adr G l1))] [.int s0, .ref (adr G s1)] M (fX7_make_38  l0 l1 s0 s1 M) := by
  unfold fX7_make_38
  refine J_callVv (okX7_goDown G l _ _ _) mkX7_goDown _ _ rfl w_321 w_322 w_323 ⟨by decide, by decide⟩ rfl (Nat.le_of_ble_eq_true rfl) dX7_make_38 (fun _u2 M1 => ?_)
  refine J_aload_n dX7_make_41 0 rfl ?_
  refine J_callVi (okX7_hasOwnBeginning G l _ _) mkX7_hasOwnBeginning _ _ rfl w_325 w_326 w_327 ⟨by decide, by decide⟩ rfl (Nat.le_of_ble_eq_true rfl) dX7_make_42 (fun v4 M3 => ?_)
  refine J_if_eq (tgt := 71) dX7_make_45 (by decide) ?_ ?_
  · refine J_sub [0, 1] rfl ?_
    exact jX7_make_71 G l   _ _ _
  · refine J_aload_n dX7_make_48 1 rfl ?_
    refine J_aload_n dX7_make_49 0 rfl ?_
    refine J_getI fd_7_10 w_310 rfl dX7_make_50 ?_
    refine J_aload_n dX7_make_53 0 rfl ?_
    refine J_getI fd_7_11 w_309 rfl dX7_make_54 ?_
    refine J_aload_n dX7_make_57 0 rfl ?_
    refine J_getR fd_7_0 w_295 rfl dX7_make_58 (fun r7 => ?_)
    refine J_iconst (v := 0) dX7_make_61 (by decide) ?_
    refine J_aaldI dX7_make_62 (fun r8 => ?_)
    refine J_callVv (okX5_treeOf G l _ _ _ _ _) mkX5_treeOf _ _ rfl w_305 w_306 w_307 ⟨by decide, by decide⟩ rfl (Nat.le_of_ble_eq_true rfl) dX7_make_63 (fun _u10 M9 => ?_)
    refine J_aload_n dX7_make_66 0 rfl ?_
    refine J_iconst (v := 1) dX7_make_67 (by decide) ?_
    refine J_putI fd_7_1 w_304 dX7_make_68 ?_
    refine J_sub [0, 1] rfl ?_
    exact jX7_make_71 G l   _ _ _
def fX7_make (l0 : Nat) (l1 : Nat) (l2 : Int32) (l3 : Int32) (l4 : Int32) (M : Mem) : Option (Unit × Mem) := (pZ M 7 2 l0 (1 : Int32) fun M1 => (pZ M1 7 3 l0 l2 fun M2 => (pI M2 7 4 l0 l3 fun M3 => (pI M3 7 5 l0 l4 fun M4 => (pI M4 7 1 l0 (0 : Int32) fun M5 => (if l2 = 0 then fX7_make_38  l0 l1 l3 l0 M5 else fX7_make_38  l0 l1 (l3 - (1 : Int32)) l0 M5))))))
set_option maxHeartbeats 4000000 in
set_option maxRecDepth 100000 in
theorem jX7_make (G : Gx) (l : Launch) (l0 : Nat) (l1 : Nat) (l2 : Int32) (l3 : Int32) (l4 : Int32) (M : Mem) : J G l cX7_make 6 RX7 none "make" 6 151 (QM G (fun _ : Unit => none)) 0 [(0, .ref (adr G l0)), (1, .ref (adr G l1)), (2, .int l2), (3, .int l3), (4, .int l4)] [] M (fX7_make l0 l1 l2 l3 l4 M) := by
  unfold fX7_make
  refine J_aload_n dX7_make_0 0 rfl ?_
  refine J_iconst (v := 1) dX7_make_1 (by decide) ?_
  refine J_putZ fd_7_2 w_328 dX7_make_2 ?_
  refine J_aload_n dX7_make_5 0 rfl ?_
  refine J_iload_n dX7_make_6 2 rfl ?_
  refine J_putZ fd_7_3 w_311 dX7_make_7 ?_
  refine J_aload_n dX7_make_10 0 rfl ?_
  refine J_iload_n dX7_make_11 3 rfl ?_
  refine J_putI fd_7_4 w_329 dX7_make_12 ?_
  refine J_aload_n dX7_make_15 0 rfl ?_
  refine J_iload dX7_make_16 4 rfl ?_
  refine J_putI fd_7_5 w_319 dX7_make_18 ?_
  refine J_aload_n dX7_make_21 0 rfl ?_
  refine J_iconst (v := 0) dX7_make_22 (by decide) ?_
  refine J_putI fd_7_1 w_304 dX7_make_23 ?_
  refine J_aload_n dX7_make_26 0 rfl ?_
  refine J_iload_n dX7_make_27 2 rfl ?_
  refine J_if_eq (tgt := 37) dX7_make_28 (by decide) ?_ ?_
  · refine J_iload_n dX7_make_37 3 rfl ?_
    refine J_sub [0, 1] rfl ?_
    exact jX7_make_38 G l   _ _ _ _ _
  · refine J_iload_n dX7_make_31 3 rfl ?_
    refine J_iconst (v := 1) dX7_make_32 (by decide) ?_
    refine J_isub dX7_make_33 ?_
    refine J_goto (tgt := 38) dX7_make_34 (by decide) ?_
    refine J_sub [0, 1] rfl ?_
    exact jX7_make_38 G l   _ _ _ _ _
theorem okX7_make (G : Gx) (l : Launch) (l0 : Nat) (l1 : Nat) (l2 : Int32) (l3 : Int32) (l4 : Int32) (M : Mem) : Con G l yX7_make cX7_make 6 none 6 151 (fun _ : Unit => none) [.ref (adr G l0), .ref (adr G l1), .int l2, .int l3, .int l4] M (fX7_make l0 l1 l2 l3 l4 M) := con_of (own := RX7) (nm := "make") (by decide +kernel) rfl rfl (Nat.le_of_ble_eq_true rfl) (jX7_make G l l0 l1 l2 l3 l4 M)
theorem mkX7_make : MOk yX7_make cX7_make 6 none 4 := ⟨w_330, tb1 (List.mem_of_getElem? (i := 8) rfl) rfl, by decide +kernel, by decide +kernel, by decide +kernel⟩
-- X7_goUp
def fX7_goUp_112 (k33 : Nat → Int32 → Int32 → Mem → Option (Unit × Mem)) (l0 : Nat) (l2 : Int32) (l3 : Int32) (M : Mem) : Option (Unit × Mem) := k33 l0 (l2 + (1 : Int32)) (l3 + (-1 : Int32)) M
set_option maxHeartbeats 4000000 in
set_option maxRecDepth 100000 in
theorem jX7_goUp_112 (G : Gx) (l : Launch) (k33 : Nat → Int32 → Int32 → Mem → Option (Unit × Mem)) (h33 : ∀ (l0 : Nat) (l2 : Int32) (l3 : Int32) (M : Mem), J G l cX7_goUp 4 RX7 none "goUp" 3 78 (QM G (fun _ : Unit => none)) 33 [(0, .ref (adr G l0)), (2, .int l2), (3, .int l3)] [] M (k33 l0 l2 l3 M)) (l0 : Nat) (l2 : Int32) (l3 : Int32) (M : Mem) : J G l cX7_goUp 4 RX7 none "goUp" 3 78 (QM G (fun _ : Unit => none)) 112 [(0, .ref (adr G l0)), (2, .int l2), (3, .int l3)] [] M (fX7_goUp_112 k33 l0 l2 l3 M) := by
  unfold fX7_goUp_112
  refine J_iincK (z := 1) (lv' := [(2, .int _), (0, .ref _), (3, .int _)]) dX7_goUp_112 1 rfl (by decide) (by decide) rfl ?_
  refine J_iincK (z := -1) (lv' := [(3, .int _), (2, .int _), (0, .ref _)]) dX7_goUp_115 2 rfl (by decide) (by decide) rfl ?_
  refine J_goto (tgt := 33) dX7_goUp_118 (by decide) ?_
  refine J_sub [2, 1, 0] rfl ?_
  exact h33 _ _ _ _
def fX7_goUp_33  : Nat → Nat → Int32 → Int32 → Mem → Option (Unit × Mem)
  | 0, _, _, _, _ => none
  | n + 1, l0, l2, l3, M => (if l3 < 0 then some ((), M) else (gR M 7 6 l0 fun r1 => (rI M .boolean r1 l3 fun v2 => (if v2 = 0 then (gR M 7 12 l0 fun r3 => (gR M 7 14 l0 fun r4 => (gR M 7 0 l0 fun r5 => (rR M (.array .int) r5 l2 fun r6 => (gR M 7 14 l0 fun r7 => (cV M 6 r3 (fX6_join r3 r4 r6 r7 M) fun _u9 M8 => fX7_goUp_112 (fX7_goUp_33  n) l0 l2 l3 M8)))))) else (gR M 7 12 l0 fun r10 => (gR M 7 0 l0 fun r11 => (rR M (.array .int) r11 l2 fun r12 => (gR M 7 13 l0 fun r13 => (gR M 7 13 l0 fun r14 => (cV M 6 r10 (fX6_join r10 r12 r13 r14 M) fun _u16 M15 => (gR M15 7 12 l0 fun r17 => (gR M15 7 0 l0 fun r18 => (rR M15 (.array .int) r18 l2 fun r19 => (gR M15 7 14 l0 fun r20 => (gR M15 7 14 l0 fun r21 => (cV M15 6 r17 (fX6_join r17 r19 r20 r21 M15) fun _u23 M22 => fX7_goUp_112 (fX7_goUp_33  n) l0 l2 l3 M22))))))))))))))))
set_option maxHeartbeats 4000000 in
set_option maxRecDepth 100000 in
theorem jX7_goUp_33 (G : Gx) (l : Launch)   : ∀ (n : Nat) (l0 : Nat) (l2 : Int32) (l3 : Int32) (M : Mem), J G l cX7_goUp 4 RX7 none "goUp" 3 78 (QM G (fun _ : Unit => none)) 33 [(0, .ref (adr G l0)), (2, .int l2), (3, .int l3)] [] M (fX7_goUp_33  n l0 l2 l3 M) := by
  intro n
  induction n with
  | zero => intro l0 l2 l3 M; exact J_none
  | succ n ih =>
    intro l0 l2 l3 M
    rw [fX7_goUp_33]
    refine J_iload_n dX7_goUp_33 2 rfl ?_
    refine J_if_lt (tgt := 121) dX7_goUp_34 (by decide) ?_ ?_
    · exact J_vret dX7_goUp_121
    · refine J_aload_n dX7_goUp_37 0 rfl ?_
      refine J_getR fd_7_6 w_296 rfl dX7_goUp_38 (fun r1 => ?_)
      refine J_iload_n dX7_goUp_41 2 rfl ?_
      refine J_zald dX7_goUp_42 ?_
      refine J_if_eq (tgt := 91) dX7_goUp_43 (by decide) ?_ ?_
      · refine J_aload_n dX7_goUp_91 0 rfl ?_
        refine J_getR fd_7_12 w_300 rfl dX7_goUp_92 (fun r3 => ?_)
        refine J_aload_n dX7_goUp_95 0 rfl ?_
        refine J_getR fd_7_14 w_302 rfl dX7_goUp_96 (fun r4 => ?_)
        refine J_aload_n dX7_goUp_99 0 rfl ?_
        refine J_getR fd_7_0 w_295 rfl dX7_goUp_100 (fun r5 => ?_)
        refine J_iload_n dX7_goUp_103 1 rfl ?_
        refine J_aaldI dX7_goUp_104 (fun r6 => ?_)
        refine J_aload_n dX7_goUp_105 0 rfl ?_
        refine J_getR fd_7_14 w_302 rfl dX7_goUp_106 (fun r7 => ?_)
        refine J_callVv (okX6_join G l _ _ _ _ _) mkX6_join _ _ rfl w_331 w_281 w_282 ⟨by decide, by decide⟩ rfl (Nat.le_of_ble_eq_true rfl) dX7_goUp_109 (fun _u9 M8 => ?_)
        refine J_sub [0, 1, 2] rfl ?_
        exact jX7_goUp_112 G l _ ih _ _ _ _
      · refine J_aload_n dX7_goUp_46 0 rfl ?_
        refine J_getR fd_7_12 w_300 rfl dX7_goUp_47 (fun r10 => ?_)
        refine J_aload_n dX7_goUp_50 0 rfl ?_
        refine J_getR fd_7_0 w_295 rfl dX7_goUp_51 (fun r11 => ?_)
        refine J_iload_n dX7_goUp_54 1 rfl ?_
        refine J_aaldI dX7_goUp_55 (fun r12 => ?_)
        refine J_aload_n dX7_goUp_56 0 rfl ?_
        refine J_getR fd_7_13 w_301 rfl dX7_goUp_57 (fun r13 => ?_)
        refine J_aload_n dX7_goUp_60 0 rfl ?_
        refine J_getR fd_7_13 w_301 rfl dX7_goUp_61 (fun r14 => ?_)
        refine J_callVv (okX6_join G l _ _ _ _ _) mkX6_join _ _ rfl w_331 w_281 w_282 ⟨by decide, by decide⟩ rfl (Nat.le_of_ble_eq_true rfl) dX7_goUp_64 (fun _u16 M15 => ?_)
        refine J_aload_n dX7_goUp_67 0 rfl ?_
        refine J_getR fd_7_12 w_300 rfl dX7_goUp_68 (fun r17 => ?_)
        refine J_aload_n dX7_goUp_71 0 rfl ?_
        refine J_getR fd_7_0 w_295 rfl dX7_goUp_72 (fun r18 => ?_)
        refine J_iload_n dX7_goUp_75 1 rfl ?_
        refine J_aaldI dX7_goUp_76 (fun r19 => ?_)
        refine J_aload_n dX7_goUp_77 0 rfl ?_
        refine J_getR fd_7_14 w_302 rfl dX7_goUp_78 (fun r20 => ?_)
        refine J_aload_n dX7_goUp_81 0 rfl ?_
        refine J_getR fd_7_14 w_302 rfl dX7_goUp_82 (fun r21 => ?_)
        refine J_callVv (okX6_join G l _ _ _ _ _) mkX6_join _ _ rfl w_331 w_281 w_282 ⟨by decide, by decide⟩ rfl (Nat.le_of_ble_eq_true rfl) dX7_goUp_85 (fun _u23 M22 => ?_)
        refine J_goto (tgt := 112) dX7_goUp_88 (by decide) ?_
        refine J_sub [0, 1, 2] rfl ?_
        exact jX7_goUp_112 G l _ ih _ _ _ _
def fX7_goUp (l0 : Nat) (l1 : Nat) (M : Mem) : Option (Unit × Mem) := (gR M 7 13 l0 fun r1 => (bd (fX8_copyHash l1 r1 M) fun _u3 M2 => (gR M2 7 14 l0 fun r4 => (bd (fX8_copyHash l1 r4 M2) fun _u6 M5 => (gI M5 7 1 l0 fun v7 => (gI M5 7 9 l0 fun v8 => (gI M5 7 9 l0 fun v9 => fX7_goUp_33  FU l0 (v7 - v8) (v9 - (1 : Int32)) M5)))))))
set_option maxHeartbeats 4000000 in
set_option maxRecDepth 100000 in
theorem jX7_goUp (G : Gx) (l : Launch) (l0 : Nat) (l1 : Nat) (M : Mem) : J G l cX7_goUp 4 RX7 none "goUp" 3 78 (QM G (fun _ : Unit => none)) 0 [(0, .ref (adr G l0)), (1, .ref (adr G l1))] [] M (fX7_goUp l0 l1 M) := by
  unfold fX7_goUp
  refine J_aload_n dX7_goUp_0 1 rfl ?_
  refine J_aload_n dX7_goUp_1 0 rfl ?_
  refine J_getR fd_7_13 w_301 rfl dX7_goUp_2 (fun r1 => ?_)
  refine J_callSNv (host := "ChainBooks") (okX8_copyHash G l _ _ _) mkX8_copyHash (List.mem_of_getElem? (i := 19) rfl) w_259 ⟨by decide, by decide⟩ rfl (Nat.le_of_ble_eq_true rfl) dX7_goUp_5 (fun _u3 M2 => ?_)
  refine J_aload_n dX7_goUp_8 1 rfl ?_
  refine J_aload_n dX7_goUp_9 0 rfl ?_
  refine J_getR fd_7_14 w_302 rfl dX7_goUp_10 (fun r4 => ?_)
  refine J_callSNv (host := "ChainBooks") (okX8_copyHash G l _ _ _) mkX8_copyHash (List.mem_of_getElem? (i := 19) rfl) w_259 ⟨by decide, by decide⟩ rfl (Nat.le_of_ble_eq_true rfl) dX7_goUp_13 (fun _u6 M5 => ?_)
  refine J_aload_n dX7_goUp_16 0 rfl ?_
  refine J_getI fd_7_1 w_304 rfl dX7_goUp_17 ?_
  refine J_aload_n dX7_goUp_20 0 rfl ?_
  refine J_getI fd_7_9 w_308 rfl dX7_goUp_21 ?_
  refine J_isub dX7_goUp_24 ?_
  refine J_istore_n (lv' := [(2, .int _), (0, .ref _), (1, .ref _)]) dX7_goUp_25 (by decide) rfl ?_
  refine J_aload_n dX7_goUp_26 1 rfl ?_
  refine J_getI fd_7_9 w_308 rfl dX7_goUp_27 ?_
  refine J_iconst (v := 1) dX7_goUp_30 (by decide) ?_
  refine J_isub dX7_goUp_31 ?_
  refine J_istore_n (lv' := [(3, .int _), (2, .int _), (0, .ref _), (1, .ref _)]) dX7_goUp_32 (by decide) rfl ?_
  refine J_sub [2, 1, 0] rfl ?_
  exact jX7_goUp_33 G l   FU _ _ _ _
theorem okX7_goUp (G : Gx) (l : Launch) (l0 : Nat) (l1 : Nat) (M : Mem) : Con G l yX7_goUp cX7_goUp 4 none 3 78 (fun _ : Unit => none) [.ref (adr G l0), .ref (adr G l1)] M (fX7_goUp l0 l1 M) := con_of (own := RX7) (nm := "goUp") (by decide +kernel) rfl rfl (Nat.le_of_ble_eq_true rfl) (jX7_goUp G l l0 l1 M)
theorem mkX7_goUp : MOk yX7_goUp cX7_goUp 4 none 1 := ⟨w_332, tb1 (List.mem_of_getElem? (i := 8) rfl) rfl, by decide +kernel, by decide +kernel, by decide +kernel⟩
