-- X8_isHeadOf
def fX8_isHeadOf_28  (s0 : Int32) (M : Mem) : Option (Int32 × Mem) := retZ s0 (some (s0, M))
set_option maxHeartbeats 4000000 in
set_option maxRecDepth 100000 in
theorem jX8_isHeadOf_28 (G : Gx) (l : Launch)   (s0 : Int32) (M : Mem) : J G l cX8_isHeadOf 3 RX8 (some .boolean) "isHeadOf" 0 0 (QM G (fun v : Int32 => some (.int v))) 28 [] [.int s0] M (fX8_isHeadOf_28  s0 M) := by
  unfold fX8_isHeadOf_28
  exact J_zret dX8_isHeadOf_28
def fX8_isHeadOf_27   (M : Mem) : Option (Int32 × Mem) := fX8_isHeadOf_28  (0 : Int32) M
set_option maxHeartbeats 4000000 in
set_option maxRecDepth 100000 in
theorem jX8_isHeadOf_27 (G : Gx) (l : Launch)    (M : Mem) : J G l cX8_isHeadOf 3 RX8 (some .boolean) "isHeadOf" 0 0 (QM G (fun v : Int32 => some (.int v))) 27 [] [] M (fX8_isHeadOf_27   M) := by
  unfold fX8_isHeadOf_27
  refine J_iconst (v := 0) dX8_isHeadOf_27 (by decide) ?_
  refine J_sub [] rfl ?_
  exact jX8_isHeadOf_28 G l   _ _
def fX8_isHeadOf (l0 : Nat) (l1 : Int32) (l2 : Int32) (M : Mem) : Option (Int32 × Mem) := (if l1 < 0 then fX8_isHeadOf_27   M else (if (8 : Int32) ≤ l1 then fX8_isHeadOf_27   M else (gR M 8 4 l0 fun r1 => (rR M (.object "ChainBooks$Head") r1 l1 fun r2 => (gI M 2 2 r2 fun v3 => (if v3 = l2 then fX8_isHeadOf_28  (1 : Int32) M else fX8_isHeadOf_27   M))))))
set_option maxHeartbeats 4000000 in
set_option maxRecDepth 100000 in
theorem jX8_isHeadOf (G : Gx) (l : Launch) (l0 : Nat) (l1 : Int32) (l2 : Int32) (M : Mem) : J G l cX8_isHeadOf 3 RX8 (some .boolean) "isHeadOf" 0 0 (QM G (fun v : Int32 => some (.int v))) 0 [(0, .ref (adr G l0)), (1, .int l1), (2, .int l2)] [] M (fX8_isHeadOf l0 l1 l2 M) := by
  unfold fX8_isHeadOf
  refine J_iload_n dX8_isHeadOf_0 1 rfl ?_
  refine J_if_lt (tgt := 27) dX8_isHeadOf_1 (by decide) ?_ ?_
  · refine J_sub [] rfl ?_
    exact jX8_isHeadOf_27 G l    _
  · refine J_iload_n dX8_isHeadOf_4 1 rfl ?_
    refine J_bipush (v := 8) dX8_isHeadOf_5 (by decide) ?_
    refine J_icmp_ge (tgt := 27) dX8_isHeadOf_7 (by decide) ?_ ?_
    · refine J_sub [] rfl ?_
      exact jX8_isHeadOf_27 G l    _
    · refine J_aload_n dX8_isHeadOf_10 0 rfl ?_
      refine J_getR fd_8_4 w_366 rfl dX8_isHeadOf_11 (fun r1 => ?_)
      refine J_iload_n dX8_isHeadOf_14 1 rfl ?_
      refine J_aaldO dX8_isHeadOf_15 (fun r2 => ?_)
      refine J_getI fd_2_2 w_367 rfl dX8_isHeadOf_16 ?_
      refine J_iload_n dX8_isHeadOf_19 2 rfl ?_
      refine J_icmp_ne (tgt := 27) dX8_isHeadOf_20 (by decide) ?_ ?_
      · refine J_sub [] rfl ?_
        exact jX8_isHeadOf_27 G l    _
      · refine J_iconst (v := 1) dX8_isHeadOf_23 (by decide) ?_
        refine J_goto (tgt := 28) dX8_isHeadOf_24 (by decide) ?_
        refine J_sub [] rfl ?_
        exact jX8_isHeadOf_28 G l   _ _
theorem okX8_isHeadOf (G : Gx) (l : Launch) (l0 : Nat) (l1 : Int32) (l2 : Int32) (M : Mem) : Con G l yX8_isHeadOf cX8_isHeadOf 3 (some .boolean) 0 0 (fun v : Int32 => some (.int v)) [.ref (adr G l0), .int l1, .int l2] M (fX8_isHeadOf l0 l1 l2 M) := con_of (own := RX8) (nm := "isHeadOf") (by decide +kernel) rfl rfl (Nat.le_of_ble_eq_true rfl) (jX8_isHeadOf G l l0 l1 l2 M)
theorem mkX8_isHeadOf : MOk yX8_isHeadOf cX8_isHeadOf 3 (some .boolean) 2 := ⟨w_385, tb1 (List.mem_of_getElem? (i := 1) rfl) rfl, by decide +kernel, by decide +kernel, by decide +kernel⟩
-- X8_oneIf
def fX8_oneIf_9  (s0 : Int32) (M : Mem) : Option (Int32 × Mem) := some (s0, M)
set_option maxHeartbeats 4000000 in
set_option maxRecDepth 100000 in
theorem jX8_oneIf_9 (G : Gx) (l : Launch)   (s0 : Int32) (M : Mem) : J G l cX8_oneIf 1 RX8 (some .int) "oneIf" 0 0 (QM G (fun v : Int32 => some (.int v))) 9 [] [.int s0] M (fX8_oneIf_9  s0 M) := by
  unfold fX8_oneIf_9
  exact J_iret dX8_oneIf_9
def fX8_oneIf (l0 : Int32) (M : Mem) : Option (Int32 × Mem) := (if l0 = 0 then fX8_oneIf_9  (0 : Int32) M else fX8_oneIf_9  (1 : Int32) M)
set_option maxHeartbeats 4000000 in
set_option maxRecDepth 100000 in
theorem jX8_oneIf (G : Gx) (l : Launch) (l0 : Int32) (M : Mem) : J G l cX8_oneIf 1 RX8 (some .int) "oneIf" 0 0 (QM G (fun v : Int32 => some (.int v))) 0 [(0, .int l0)] [] M (fX8_oneIf l0 M) := by
  unfold fX8_oneIf
  refine J_iload_n dX8_oneIf_0 0 rfl ?_
  refine J_if_eq (tgt := 8) dX8_oneIf_1 (by decide) ?_ ?_
  · refine J_iconst (v := 0) dX8_oneIf_8 (by decide) ?_
    refine J_sub [] rfl ?_
    exact jX8_oneIf_9 G l   _ _
  · refine J_iconst (v := 1) dX8_oneIf_4 (by decide) ?_
    refine J_goto (tgt := 9) dX8_oneIf_5 (by decide) ?_
    refine J_sub [] rfl ?_
    exact jX8_oneIf_9 G l   _ _
theorem okX8_oneIf (G : Gx) (l : Launch) (l0 : Int32) (M : Mem) : Con G l yX8_oneIf cX8_oneIf 1 (some .int) 0 0 (fun v : Int32 => some (.int v)) [.int l0] M (fX8_oneIf l0 M) := con_of (own := RX8) (nm := "oneIf") (by decide +kernel) rfl rfl (Nat.le_of_ble_eq_true rfl) (jX8_oneIf G l l0 M)
theorem mkX8_oneIf : MOk yX8_oneIf cX8_oneIf 1 (some .int) 1 := ⟨w_394, tb1 (List.mem_of_getElem? (i := 1) rfl) rfl, by decide +kernel, by decide +kernel, by decide +kernel⟩
-- X8_leads
def fX8_leads_78  (s0 : Int32) (M : Mem) : Option (Int32 × Mem) := some (s0, M)
set_option maxHeartbeats 4000000 in
set_option maxRecDepth 100000 in
theorem jX8_leads_78 (G : Gx) (l : Launch)   (s0 : Int32) (M : Mem) : J G l cX8_leads 3 RX8 (some .int) "leads" 6 146 (QM G (fun v : Int32 => some (.int v))) 78 [] [.int s0] M (fX8_leads_78  s0 M) := by
  unfold fX8_leads_78
  exact J_iret dX8_leads_78
def fX8_leads_25   (M : Mem) : Option (Int32 × Mem) := some ((-1 : Int32), M)
set_option maxHeartbeats 4000000 in
set_option maxRecDepth 100000 in
theorem jX8_leads_25 (G : Gx) (l : Launch)    (M : Mem) : J G l cX8_leads 3 RX8 (some .int) "leads" 6 146 (QM G (fun v : Int32 => some (.int v))) 25 [] [] M (fX8_leads_25   M) := by
  unfold fX8_leads_25
  refine J_iconst (v := -1) dX8_leads_25 (by decide) ?_
  exact J_iret dX8_leads_26
def fX8_leads (l0 : Nat) (l1 : Int32) (l2 : Int32) (M : Mem) : Option (Int32 × Mem) := (gR M 8 5 l0 fun r1 => (gI M 7 2 r1 fun v2 => (if v2 = 0 then fX8_leads_25   M else (gR M 8 5 l0 fun r3 => (gI M 7 5 r3 fun v4 => (cV M 8 l0 (fX8_isHeadOf l0 l2 v4 M) fun v6 M5 => (if v6 = 0 then fX8_leads_25   M5 else (gR M5 8 5 l0 fun r7 => (gI M5 7 3 r7 fun v8 => (if v8 = 0 then (gR M5 8 5 l0 fun r9 => (gR M5 8 3 l0 fun r10 => (gR M5 8 5 l0 fun r11 => (gI M5 7 4 r11 fun v12 => (cV M5 5 r10 (fX5_leafOf r10 v12 M5) fun v14 M13 => (gR M13 8 4 l0 fun r15 => (rR M13 (.object "ChainBooks$Head") r15 l2 fun r16 => (cV M13 7 r9 (fX7_reaches r9 v14 r16 M13) fun v18 M17 => (bd (fX8_oneIf v18 M17) fun v20 M19 => some (v20, M19)))))))))) else (gR M5 8 5 l0 fun r21 => (gI M5 7 4 r21 fun v22 => (cV M5 8 l0 (fX8_isHeadOf l0 l1 v22 M5) fun v24 M23 => (if v24 = 0 then fX8_leads_78  (-1 : Int32) M23 else (gR M23 8 5 l0 fun r25 => (gR M23 8 4 l0 fun r26 => (rR M23 (.object "ChainBooks$Head") r26 l1 fun r27 => (gR M23 8 4 l0 fun r28 => (rR M23 (.object "ChainBooks$Head") r28 l2 fun r29 => (cV M23 7 r25 (fX7_joins r25 r27 r29 M23) fun v31 M30 => (bd (fX8_oneIf v31 M30) fun v33 M32 => fX8_leads_78  v33 M32)))))))))))))))))))))
set_option maxHeartbeats 4000000 in
set_option maxRecDepth 100000 in
theorem jX8_leads (G : Gx) (l : Launch) (l0 : Nat) (l1 : Int32) (l2 : Int32) (M : Mem) : J G l cX8_leads 3 RX8 (some .int) "leads" 6 146 (QM G (fun v : Int32 => some (.int v))) 0 [(0, .ref (adr G l0)), (1, .int l1), (2, .int l2)] [] M (fX8_leads l0 l1 l2 M) := by
  unfold fX8_leads
  refine J_aload_n dX8_leads_0 0 rfl ?_
  refine J_getR fd_8_5 w_374 rfl dX8_leads_1 (fun r1 => ?_)
  refine J_getI fd_7_2 w_383 rfl dX8_leads_4 ?_
  refine J_if_eq (tgt := 25) dX8_leads_7 (by decide) ?_ ?_
  · refine J_sub [] rfl ?_
    exact jX8_leads_25 G l    _
  · refine J_aload_n dX8_leads_10 0 rfl ?_
    refine J_iload_n dX8_leads_11 2 rfl ?_
    refine J_aload_n dX8_leads_12 0 rfl ?_
    refine J_getR fd_8_5 w_374 rfl dX8_leads_13 (fun r3 => ?_)
    refine J_getI fd_7_5 w_384 rfl dX8_leads_16 ?_
    refine J_callVi (okX8_isHeadOf G l _ _ _ _) mkX8_isHeadOf _ _ rfl w_386 w_387 w_388 ⟨by decide, by decide⟩ rfl (Nat.le_of_ble_eq_true rfl) dX8_leads_19 (fun v6 M5 => ?_)
    refine J_if_ne (tgt := 27) dX8_leads_22 (by decide) ?_ ?_
    · refine J_aload_n dX8_leads_27 0 rfl ?_
      refine J_getR fd_8_5 w_374 rfl dX8_leads_28 (fun r7 => ?_)
      refine J_getI fd_7_3 w_389 rfl dX8_leads_31 ?_
      refine J_if_eq (tgt := 79) dX8_leads_34 (by decide) ?_ ?_
      · refine J_aload_n dX8_leads_79 0 rfl ?_
        refine J_getR fd_8_5 w_374 rfl dX8_leads_80 (fun r9 => ?_)
        refine J_aload_n dX8_leads_83 0 rfl ?_
        refine J_getR fd_8_3 w_302 rfl dX8_leads_84 (fun r10 => ?_)
        refine J_aload_n dX8_leads_87 0 rfl ?_
        refine J_getR fd_8_5 w_374 rfl dX8_leads_88 (fun r11 => ?_)
        refine J_getI fd_7_4 w_390 rfl dX8_leads_91 ?_
        refine J_callVr (okX5_leafOf G l _ _ _) mkX5_leafOf _ _ rfl w_362 w_363 w_364 ⟨by decide, by decide⟩ rfl (Nat.le_of_ble_eq_true rfl) dX8_leads_94 (fun v14 M13 => ?_)
        refine J_aload_n dX8_leads_97 0 rfl ?_
        refine J_getR fd_8_4 w_366 rfl dX8_leads_98 (fun r15 => ?_)
        refine J_iload_n dX8_leads_101 2 rfl ?_
        refine J_aaldO dX8_leads_102 (fun r16 => ?_)
        refine J_callVi (okX7_reaches G l _ _ _ _) mkX7_reaches _ _ rfl w_391 w_392 w_393 ⟨by decide, by decide⟩ rfl (Nat.le_of_ble_eq_true rfl) dX8_leads_103 (fun v18 M17 => ?_)
        refine J_callSi (okX8_oneIf G l _ _) mkX8_oneIf w_396 w_395 ⟨by decide, by decide⟩ rfl (Nat.le_of_ble_eq_true rfl) dX8_leads_106 (fun v20 M19 => ?_)
        exact J_iret dX8_leads_109
      · refine J_aload_n dX8_leads_37 0 rfl ?_
        refine J_iload_n dX8_leads_38 1 rfl ?_
        refine J_aload_n dX8_leads_39 0 rfl ?_
        refine J_getR fd_8_5 w_374 rfl dX8_leads_40 (fun r21 => ?_)
        refine J_getI fd_7_4 w_390 rfl dX8_leads_43 ?_
        refine J_callVi (okX8_isHeadOf G l _ _ _ _) mkX8_isHeadOf _ _ rfl w_386 w_387 w_388 ⟨by decide, by decide⟩ rfl (Nat.le_of_ble_eq_true rfl) dX8_leads_46 (fun v24 M23 => ?_)
        refine J_if_eq (tgt := 77) dX8_leads_49 (by decide) ?_ ?_
        · refine J_iconst (v := -1) dX8_leads_77 (by decide) ?_
          refine J_sub [] rfl ?_
          exact jX8_leads_78 G l   _ _
        · refine J_aload_n dX8_leads_52 0 rfl ?_
          refine J_getR fd_8_5 w_374 rfl dX8_leads_53 (fun r25 => ?_)
          refine J_aload_n dX8_leads_56 0 rfl ?_
          refine J_getR fd_8_4 w_366 rfl dX8_leads_57 (fun r26 => ?_)
          refine J_iload_n dX8_leads_60 1 rfl ?_
          refine J_aaldO dX8_leads_61 (fun r27 => ?_)
          refine J_aload_n dX8_leads_62 0 rfl ?_
          refine J_getR fd_8_4 w_366 rfl dX8_leads_63 (fun r28 => ?_)
          refine J_iload_n dX8_leads_66 2 rfl ?_
          refine J_aaldO dX8_leads_67 (fun r29 => ?_)
          refine J_callVi (okX7_joins G l _ _ _ _) mkX7_joins _ _ rfl w_397 w_398 w_399 ⟨by decide, by decide⟩ rfl (Nat.le_of_ble_eq_true rfl) dX8_leads_68 (fun v31 M30 => ?_)
          refine J_callSi (okX8_oneIf G l _ _) mkX8_oneIf w_396 w_395 ⟨by decide, by decide⟩ rfl (Nat.le_of_ble_eq_true rfl) dX8_leads_71 (fun v33 M32 => ?_)
          refine J_goto (tgt := 78) dX8_leads_74 (by decide) ?_
          refine J_sub [] rfl ?_
          exact jX8_leads_78 G l   _ _
    · refine J_sub [] rfl ?_
      exact jX8_leads_25 G l    _
theorem okX8_leads (G : Gx) (l : Launch) (l0 : Nat) (l1 : Int32) (l2 : Int32) (M : Mem) : Con G l yX8_leads cX8_leads 3 (some .int) 6 146 (fun v : Int32 => some (.int v)) [.ref (adr G l0), .int l1, .int l2] M (fX8_leads l0 l1 l2 M) := con_of (own := RX8) (nm := "leads") (by decide +kernel) rfl rfl (Nat.le_of_ble_eq_true rfl) (jX8_leads G l l0 l1 l2 M)
theorem mkX8_leads : MOk yX8_leads cX8_leads 3 (some .int) 2 := ⟨w_400, tb1 (List.mem_of_getElem? (i := 1) rfl) rfl, by decide +kernel, by decide +kernel, by decide +kernel⟩
-- X8_audit
def fX8_audit_25  : Nat → Nat → Int32 → Mem → Option (Int32 × Mem)
  | 0, _, _, _ => none
  | n + 1, l0, l2, M => (gR M 8 3 l0 fun r1 => (cV M 5 r1 (fX5_size r1 M) fun v3 M2 => (if v3 ≤ l2 then some ((-1 : Int32), M2) else (gR M2 8 3 l0 fun r4 => (gR M2 5 0 r4 fun r5 => (rI M2 .byte r5 l2 fun v6 => (gR M2 8 0 l0 fun r7 => (gR M2 3 5 r7 fun r8 => (rI M2 .byte r8 l2 fun v9 => (if v6 = v9 then fX8_audit_25  n l0 (l2 + (1 : Int32)) M2 else (gR M2 8 3 l0 fun r10 => (cV M2 5 r10 (fX5_entryWith r10 l2 M2) fun v12 M11 => some (v12, M11)))))))))))))
set_option maxHeartbeats 4000000 in
set_option maxRecDepth 100000 in
theorem jX8_audit_25 (G : Gx) (l : Launch)   : ∀ (n : Nat) (l0 : Nat) (l2 : Int32) (M : Mem), J G l cX8_audit 3 RX8 (some .int) "audit" 7 172 (QM G (fun v : Int32 => some (.int v))) 25 [(0, .ref (adr G l0)), (2, .int l2)] [] M (fX8_audit_25  n l0 l2 M) := by
  intro n
  induction n with
  | zero => intro l0 l2 M; exact J_none
  | succ n ih =>
    intro l0 l2 M
    rw [fX8_audit_25]
    refine J_iload_n dX8_audit_25 1 rfl ?_
    refine J_aload_n dX8_audit_26 0 rfl ?_
    refine J_getR fd_8_3 w_302 rfl dX8_audit_27 (fun r1 => ?_)
    refine J_callVi (okX5_size G l _ _) mkX5_size _ _ rfl w_348 w_9 w_10 ⟨by decide, by decide⟩ rfl (Nat.le_of_ble_eq_true rfl) dX8_audit_30 (fun v3 M2 => ?_)
    refine J_icmp_ge (tgt := 72) dX8_audit_33 (by decide) ?_ ?_
    · refine J_iconst (v := -1) dX8_audit_72 (by decide) ?_
      exact J_iret dX8_audit_73
    · refine J_aload_n dX8_audit_36 0 rfl ?_
      refine J_getR fd_8_3 w_302 rfl dX8_audit_37 (fun r4 => ?_)
      refine J_getR fd_5_0 w_349 rfl dX8_audit_40 (fun r5 => ?_)
      refine J_iload_n dX8_audit_43 1 rfl ?_
      refine J_bald dX8_audit_44 ?_
      refine J_aload_n dX8_audit_45 0 rfl ?_
      refine J_getR fd_8_0 w_300 rfl dX8_audit_46 (fun r7 => ?_)
      refine J_getR fd_3_5 w_401 rfl dX8_audit_49 (fun r8 => ?_)
      refine J_iload_n dX8_audit_52 1 rfl ?_
      refine J_bald dX8_audit_53 ?_
      refine J_icmp_eq (tgt := 66) dX8_audit_54 (by decide) ?_ ?_
      · refine J_iincK (z := 1) (lv' := [(2, .int _), (0, .ref _)]) dX8_audit_66 1 rfl (by decide) (by decide) rfl ?_
        refine J_goto (tgt := 25) dX8_audit_69 (by decide) ?_
        refine J_sub [1, 0] rfl ?_
        exact ih _ _ _
      · refine J_aload_n dX8_audit_57 0 rfl ?_
        refine J_getR fd_8_3 w_302 rfl dX8_audit_58 (fun r10 => ?_)
        refine J_iload_n dX8_audit_61 1 rfl ?_
        refine J_callVi (okX5_entryWith G l _ _ _) mkX5_entryWith _ _ rfl w_402 w_185 w_186 ⟨by decide, by decide⟩ rfl (Nat.le_of_ble_eq_true rfl) dX8_audit_62 (fun v12 M11 => ?_)
        exact J_iret dX8_audit_65
def fX8_audit (l0 : Nat) (M : Mem) : Option (Int32 × Mem) := (gR M 8 6 l0 fun r1 => (gR M 8 3 l0 fun r2 => (gR M 8 2 l0 fun r3 => (cV M 0 r1 (fX0_firstBad r1 r2 r3 M) fun v5 M4 => (if v5 = (-1 : Int32) then fX8_audit_25  FU l0 (0 : Int32) M4 else some (v5, M4))))))
set_option maxHeartbeats 4000000 in
set_option maxRecDepth 100000 in
theorem jX8_audit (G : Gx) (l : Launch) (l0 : Nat) (M : Mem) : J G l cX8_audit 3 RX8 (some .int) "audit" 7 172 (QM G (fun v : Int32 => some (.int v))) 0 [(0, .ref (adr G l0))] [] M (fX8_audit l0 M) := by
  unfold fX8_audit
  refine J_aload_n dX8_audit_0 0 rfl ?_
  refine J_getR fd_8_6 w_403 rfl dX8_audit_1 (fun r1 => ?_)
  refine J_aload_n dX8_audit_4 0 rfl ?_
  refine J_getR fd_8_3 w_302 rfl dX8_audit_5 (fun r2 => ?_)
  refine J_aload_n dX8_audit_8 0 rfl ?_
  refine J_getR fd_8_2 w_328 rfl dX8_audit_9 (fun r3 => ?_)
  refine J_callVi (okX0_firstBad G l _ _ _ _) mkX0_firstBad _ _ rfl w_404 w_405 w_406 ⟨by decide, by decide⟩ rfl (Nat.le_of_ble_eq_true rfl) dX8_audit_12 (fun v5 M4 => ?_)
  refine J_istore_n (lv' := [(1, .int _), (0, .ref _)]) dX8_audit_15 (by decide) rfl ?_
  refine J_iload_n dX8_audit_16 0 rfl ?_
  refine J_iconst (v := -1) dX8_audit_17 (by decide) ?_
  refine J_icmp_eq (tgt := 23) dX8_audit_18 (by decide) ?_ ?_
  · refine J_iconst (v := 0) dX8_audit_23 (by decide) ?_
    refine J_istore_n (lv' := [(2, .int _), (1, .int _), (0, .ref _)]) dX8_audit_24 (by decide) rfl ?_
    refine J_sub [2, 0] rfl ?_
    exact jX8_audit_25 G l   FU _ _ _
  · refine J_iload_n dX8_audit_21 0 rfl ?_
    exact J_iret dX8_audit_22
theorem okX8_audit (G : Gx) (l : Launch) (l0 : Nat) (M : Mem) : Con G l yX8_audit cX8_audit 3 (some .int) 7 172 (fun v : Int32 => some (.int v)) [.ref (adr G l0)] M (fX8_audit l0 M) := con_of (own := RX8) (nm := "audit") (by decide +kernel) rfl rfl (Nat.le_of_ble_eq_true rfl) (jX8_audit G l l0 M)
theorem mkX8_audit : MOk yX8_audit cX8_audit 3 (some .int) 0 := ⟨w_407, tb1 (List.mem_of_getElem? (i := 1) rfl) rfl, by decide +kernel, by decide +kernel, by decide +kernel⟩
-- X8_alteredBytes
def fX8_alteredBytes_39 (k4 : Nat → Int32 → Int32 → Mem → Option (Int32 × Mem)) (l0 : Nat) (l1 : Int32) (l2 : Int32) (M : Mem) : Option (Int32 × Mem) := k4 l0 l1 (l2 + (1 : Int32)) M
set_option maxHeartbeats 4000000 in
set_option maxRecDepth 100000 in
theorem jX8_alteredBytes_39 (G : Gx) (l : Launch) (k4 : Nat → Int32 → Int32 → Mem → Option (Int32 × Mem)) (h4 : ∀ (l0 : Nat) (l1 : Int32) (l2 : Int32) (M : Mem), J G l cX8_alteredBytes 3 RX8 (some .int) "alteredBytes" 1 20 (QM G (fun v : Int32 => some (.int v))) 4 [(0, .ref (adr G l0)), (1, .int l1), (2, .int l2)] [] M (k4 l0 l1 l2 M)) (l0 : Nat) (l1 : Int32) (l2 : Int32) (M : Mem) : J G l cX8_alteredBytes 3 RX8 (some .int) "alteredBytes" 1 20 (QM G (fun v : Int32 => some (.int v))) 39 [(0, .ref (adr G l0)), (1, .int l1), (2, .int l2)] [] M (fX8_alteredBytes_39 k4 l0 l1 l2 M) := by
  unfold fX8_alteredBytes_39
  refine J_iincK (z := 1) (lv' := [(2, .int _), (0, .ref _), (1, .int _)]) dX8_alteredBytes_39 2 rfl (by decide) (by decide) rfl ?_
  refine J_goto (tgt := 4) dX8_alteredBytes_42 (by decide) ?_
  refine J_sub [1, 2, 0] rfl ?_
  exact h4 _ _ _ _
def fX8_alteredBytes_4  : Nat → Nat → Int32 → Int32 → Mem → Option (Int32 × Mem)
  | 0, _, _, _, _ => none
  | n + 1, l0, l1, l2, M => (gR M 8 3 l0 fun r1 => (cV M 5 r1 (fX5_size r1 M) fun v3 M2 => (if v3 ≤ l2 then some (l1, M2) else (gR M2 8 3 l0 fun r4 => (gR M2 5 0 r4 fun r5 => (rI M2 .byte r5 l2 fun v6 => (gR M2 8 0 l0 fun r7 => (gR M2 3 5 r7 fun r8 => (rI M2 .byte r8 l2 fun v9 => (if v6 = v9 then fX8_alteredBytes_39 (fX8_alteredBytes_4  n) l0 l1 l2 M2 else fX8_alteredBytes_39 (fX8_alteredBytes_4  n) l0 (l1 + (1 : Int32)) l2 M2))))))))))
set_option maxHeartbeats 4000000 in
set_option maxRecDepth 100000 in
theorem jX8_alteredBytes_4 (G : Gx) (l : Launch)   : ∀ (n : Nat) (l0 : Nat) (l1 : Int32) (l2 : Int32) (M : Mem), J G l cX8_alteredBytes 3 RX8 (some .int) "alteredBytes" 1 20 (QM G (fun v : Int32 => some (.int v))) 4 [(0, .ref (adr G l0)), (1, .int l1), (2, .int l2)] [] M (fX8_alteredBytes_4  n l0 l1 l2 M) := by
  intro n
  induction n with
  | zero => intro l0 l1 l2 M; exact J_none
  | succ n ih =>
    intro l0 l1 l2 M
    rw [fX8_alteredBytes_4]
    refine J_iload_n dX8_alteredBytes_4 2 rfl ?_
    refine J_aload_n dX8_alteredBytes_5 0 rfl ?_
    refine J_getR fd_8_3 w_302 rfl dX8_alteredBytes_6 (fun r1 => ?_)
    refine J_callVi (okX5_size G l _ _) mkX5_size _ _ rfl w_348 w_9 w_10 ⟨by decide, by decide⟩ rfl (Nat.le_of_ble_eq_true rfl) dX8_alteredBytes_9 (fun v3 M2 => ?_)
    refine J_icmp_ge (tgt := 45) dX8_alteredBytes_12 (by decide) ?_ ?_
    · refine J_iload_n dX8_alteredBytes_45 1 rfl ?_
      exact J_iret dX8_alteredBytes_46
    · refine J_aload_n dX8_alteredBytes_15 0 rfl ?_
      refine J_getR fd_8_3 w_302 rfl dX8_alteredBytes_16 (fun r4 => ?_)
      refine J_getR fd_5_0 w_349 rfl dX8_alteredBytes_19 (fun r5 => ?_)
      refine J_iload_n dX8_alteredBytes_22 2 rfl ?_
      refine J_bald dX8_alteredBytes_23 ?_
      refine J_aload_n dX8_alteredBytes_24 0 rfl ?_
      refine J_getR fd_8_0 w_300 rfl dX8_alteredBytes_25 (fun r7 => ?_)
      refine J_getR fd_3_5 w_401 rfl dX8_alteredBytes_28 (fun r8 => ?_)
      refine J_iload_n dX8_alteredBytes_31 2 rfl ?_
      refine J_bald dX8_alteredBytes_32 ?_
      refine J_icmp_eq (tgt := 39) dX8_alteredBytes_33 (by decide) ?_ ?_
      · refine J_sub [0, 1, 2] rfl ?_
        exact jX8_alteredBytes_39 G l _ ih _ _ _ _
      · refine J_iincK (z := 1) (lv' := [(1, .int _), (0, .ref _), (2, .int _)]) dX8_alteredBytes_36 1 rfl (by decide) (by decide) rfl ?_
        refine J_sub [1, 0, 2] rfl ?_
        exact jX8_alteredBytes_39 G l _ ih _ _ _ _
def fX8_alteredBytes (l0 : Nat) (M : Mem) : Option (Int32 × Mem) := fX8_alteredBytes_4  FU l0 (0 : Int32) (0 : Int32) M
set_option maxHeartbeats 4000000 in
set_option maxRecDepth 100000 in
theorem jX8_alteredBytes (G : Gx) (l : Launch) (l0 : Nat) (M : Mem) : J G l cX8_alteredBytes 3 RX8 (some .int) "alteredBytes" 1 20 (QM G (fun v : Int32 => some (.int v))) 0 [(0, .ref (adr G l0))] [] M (fX8_alteredBytes l0 M) := by
  unfold fX8_alteredBytes
  refine J_iconst (v := 0) dX8_alteredBytes_0 (by decide) ?_
  refine J_istore_n (lv' := [(1, .int _), (0, .ref _)]) dX8_alteredBytes_1 (by decide) rfl ?_
  refine J_iconst (v := 0) dX8_alteredBytes_2 (by decide) ?_
  refine J_istore_n (lv' := [(2, .int _), (1, .int _), (0, .ref _)]) dX8_alteredBytes_3 (by decide) rfl ?_
  refine J_sub [2, 1, 0] rfl ?_
  exact jX8_alteredBytes_4 G l   FU _ _ _ _
theorem okX8_alteredBytes (G : Gx) (l : Launch) (l0 : Nat) (M : Mem) : Con G l yX8_alteredBytes cX8_alteredBytes 3 (some .int) 1 20 (fun v : Int32 => some (.int v)) [.ref (adr G l0)] M (fX8_alteredBytes l0 M) := con_of (own := RX8) (nm := "alteredBytes") (by decide +kernel) rfl rfl (Nat.le_of_ble_eq_true rfl) (jX8_alteredBytes G l l0 M)
theorem mkX8_alteredBytes : MOk yX8_alteredBytes cX8_alteredBytes 3 (some .int) 0 := ⟨w_410, tb1 (List.mem_of_getElem? (i := 1) rfl) rfl, by decide +kernel, by decide +kernel, by decide +kernel⟩
-- X8_count
def fX8_count (l0 : Nat) (l1 : Int32) (M : Mem) : Option (Int32 × Mem) := (if l1 = 0 then (gR M 8 0 l0 fun r1 => (gI M 3 4 r1 fun v2 => some (v2, M))) else if l1 = 1 then (gR M 8 0 l0 fun r3 => (gI M 3 12 r3 fun v4 => some (v4, M))) else if l1 = 2 then (gR M 8 3 l0 fun r5 => (cV M 5 r5 (fX5_size r5 M) fun v7 M6 => some (v7, M6))) else if l1 = 3 then (gR M 8 0 l0 fun r8 => (gI M 3 15 r8 fun v9 => some (v9, M))) else if l1 = 4 then (gR M 8 0 l0 fun r10 => (gI M 3 16 r10 fun v11 => some (v11, M))) else if l1 = 5 then (gR M 8 0 l0 fun r12 => (gI M 3 17 r12 fun v13 => some (v13, M))) else if l1 = 6 then (gR M 8 1 l0 fun r14 => (gI M 4 2 r14 fun v15 => some (v15, M))) else if l1 = 7 then (cV M 8 l0 (fX8_alteredBytes l0 M) fun v17 M16 => some (v17, M16)) else some ((-1 : Int32), M))
set_option maxHeartbeats 4000000 in
set_option maxRecDepth 100000 in
theorem jX8_count (G : Gx) (l : Launch) (l0 : Nat) (l1 : Int32) (M : Mem) : J G l cX8_count 2 RX8 (some .int) "count" 2 42 (QM G (fun v : Int32 => some (.int v))) 0 [(0, .ref (adr G l0)), (1, .int l1)] [] M (fX8_count l0 l1 M) := by
  unfold fX8_count
  refine J_iload_n dX8_count_0 1 rfl ?_
  refine J_ite (fun h1_0 => ?_) (fun h1_0 => ?_)
  · refine J_tabI (off := 47) (tgt := 48) dX8_count_1 (by rw [h1_0]; decide) (by rw [h1_0]; decide) (by rw [h1_0]; decide) (by decide) ?_
    refine J_aload_n dX8_count_48 0 rfl ?_
    refine J_getR fd_8_0 w_300 rfl dX8_count_49 (fun r1 => ?_)
    refine J_getI fd_3_4 w_331 rfl dX8_count_52 ?_
    exact J_iret dX8_count_55
  refine J_ite (fun h1_1 => ?_) (fun h1_1 => ?_)
  · refine J_tabI (off := 55) (tgt := 56) dX8_count_1 (by rw [h1_1]; decide) (by rw [h1_1]; decide) (by rw [h1_1]; decide) (by decide) ?_
    refine J_aload_n dX8_count_56 0 rfl ?_
    refine J_getR fd_8_0 w_300 rfl dX8_count_57 (fun r3 => ?_)
    refine J_getI fd_3_12 w_329 rfl dX8_count_60 ?_
    exact J_iret dX8_count_63
  refine J_ite (fun h1_2 => ?_) (fun h1_2 => ?_)
  · refine J_tabI (off := 63) (tgt := 64) dX8_count_1 (by rw [h1_2]; decide) (by rw [h1_2]; decide) (by rw [h1_2]; decide) (by decide) ?_
    refine J_aload_n dX8_count_64 0 rfl ?_
    refine J_getR fd_8_3 w_302 rfl dX8_count_65 (fun r5 => ?_)
    refine J_callVi (okX5_size G l _ _) mkX5_size _ _ rfl w_348 w_9 w_10 ⟨by decide, by decide⟩ rfl (Nat.le_of_ble_eq_true rfl) dX8_count_68 (fun v7 M6 => ?_)
    exact J_iret dX8_count_71
  refine J_ite (fun h1_3 => ?_) (fun h1_3 => ?_)
  · refine J_tabI (off := 71) (tgt := 72) dX8_count_1 (by rw [h1_3]; decide) (by rw [h1_3]; decide) (by rw [h1_3]; decide) (by decide) ?_
    refine J_aload_n dX8_count_72 0 rfl ?_
    refine J_getR fd_8_0 w_300 rfl dX8_count_73 (fun r8 => ?_)
    refine J_getI fd_3_15 w_408 rfl dX8_count_76 ?_
    exact J_iret dX8_count_79
  refine J_ite (fun h1_4 => ?_) (fun h1_4 => ?_)
  · refine J_tabI (off := 79) (tgt := 80) dX8_count_1 (by rw [h1_4]; decide) (by rw [h1_4]; decide) (by rw [h1_4]; decide) (by decide) ?_
    refine J_aload_n dX8_count_80 0 rfl ?_
    refine J_getR fd_8_0 w_300 rfl dX8_count_81 (fun r10 => ?_)
    refine J_getI fd_3_16 w_326 rfl dX8_count_84 ?_
    exact J_iret dX8_count_87
  refine J_ite (fun h1_5 => ?_) (fun h1_5 => ?_)
  · refine J_tabI (off := 87) (tgt := 88) dX8_count_1 (by rw [h1_5]; decide) (by rw [h1_5]; decide) (by rw [h1_5]; decide) (by decide) ?_
    refine J_aload_n dX8_count_88 0 rfl ?_
    refine J_getR fd_8_0 w_300 rfl dX8_count_89 (fun r12 => ?_)
    refine J_getI fd_3_17 w_409 rfl dX8_count_92 ?_
    exact J_iret dX8_count_95
  refine J_ite (fun h1_6 => ?_) (fun h1_6 => ?_)
  · refine J_tabI (off := 95) (tgt := 96) dX8_count_1 (by rw [h1_6]; decide) (by rw [h1_6]; decide) (by rw [h1_6]; decide) (by decide) ?_
    refine J_aload_n dX8_count_96 0 rfl ?_
    refine J_getR fd_8_1 w_311 rfl dX8_count_97 (fun r14 => ?_)
    refine J_getI fd_4_2 w_313 rfl dX8_count_100 ?_
    exact J_iret dX8_count_103
  refine J_ite (fun h1_7 => ?_) (fun h1_7 => ?_)
  · refine J_tabI (off := 103) (tgt := 104) dX8_count_1 (by rw [h1_7]; decide) (by rw [h1_7]; decide) (by rw [h1_7]; decide) (by decide) ?_
    refine J_aload_n dX8_count_104 0 rfl ?_
    refine J_callVi (okX8_alteredBytes G l _ _) mkX8_alteredBytes _ _ rfl w_411 w_412 w_413 ⟨by decide, by decide⟩ rfl (Nat.le_of_ble_eq_true rfl) dX8_count_105 (fun v17 M16 => ?_)
    exact J_iret dX8_count_108
  refine J_tabO (tgt := 109) dX8_count_1 (by have h1_0 := lv_neT h1_0 (show (0 : Int32).toInt = 0 by decide); have h1_1 := lv_neT h1_1 (show (1 : Int32).toInt = 1 by decide); have h1_2 := lv_neT h1_2 (show (2 : Int32).toInt = 2 by decide); have h1_3 := lv_neT h1_3 (show (3 : Int32).toInt = 3 by decide); have h1_4 := lv_neT h1_4 (show (4 : Int32).toInt = 4 by decide); have h1_5 := lv_neT h1_5 (show (5 : Int32).toInt = 5 by decide); have h1_6 := lv_neT h1_6 (show (6 : Int32).toInt = 6 by decide); have h1_7 := lv_neT h1_7 (show (7 : Int32).toInt = 7 by decide); omega) (by decide) ?_
  refine J_iconst (v := -1) dX8_count_109 (by decide) ?_
  exact J_iret dX8_count_110
theorem okX8_count (G : Gx) (l : Launch) (l0 : Nat) (l1 : Int32) (M : Mem) : Con G l yX8_count cX8_count 2 (some .int) 2 42 (fun v : Int32 => some (.int v)) [.ref (adr G l0), .int l1] M (fX8_count l0 l1 M) := con_of (own := RX8) (nm := "count") (by decide +kernel) rfl rfl (Nat.le_of_ble_eq_true rfl) (jX8_count G l l0 l1 M)
theorem mkX8_count : MOk yX8_count cX8_count 2 (some .int) 1 := ⟨w_414, tb1 (List.mem_of_getElem? (i := 1) rfl) rfl, by decide +kernel, by decide +kernel, by decide +kernel⟩
-- X9_put
def fX9_put (l0 : Nat) (l1 : Int32) (M : Mem) : Option (Unit × Mem) := (gR M 9 34 l0 fun r1 => (gI M 9 35 l0 fun v2 => (wI M .int r1 v2 (l1 &&& (255 : Int32)) fun M3 => (gI M3 9 35 l0 fun v4 => (pI M3 9 35 l0 (v4 + (1 : Int32)) fun M5 => some ((), M5))))))
set_option maxHeartbeats 4000000 in
set_option maxRecDepth 100000 in
theorem jX9_put (G : Gx) (l : Launch) (l0 : Nat) (l1 : Int32) (M : Mem) : J G l cX9_put 2 RX9 none "put" 0 0 (QM G (fun _ : Unit => none)) 0 [(0, .ref (adr G l0)), (1, .int l1)] [] M (fX9_put l0 l1 M) := by
  unfold fX9_put
  refine J_aload_n dX9_put_0 0 rfl ?_
  refine J_getR fd_9_34 w_422 rfl dX9_put_1 (fun r1 => ?_)
  refine J_aload_n dX9_put_4 0 rfl ?_
  refine J_getI fd_9_35 w_421 rfl dX9_put_5 ?_
  refine J_iload_n dX9_put_8 1 rfl ?_
  refine J_sipush (v := 255) dX9_put_9 (by decide) ?_
  refine J_iand dX9_put_12 ?_
  refine J_iast dX9_put_13 ?_
  refine J_aload_n dX9_put_14 0 rfl ?_
  refine J_dup dX9_put_15 rfl ?_
  refine J_getI fd_9_35 w_421 rfl dX9_put_16 ?_
  refine J_iconst (v := 1) dX9_put_19 (by decide) ?_
  refine J_iadd dX9_put_20 ?_
  refine J_putI fd_9_35 w_421 dX9_put_21 ?_
  exact J_vret dX9_put_24
theorem okX9_put (G : Gx) (l : Launch) (l0 : Nat) (l1 : Int32) (M : Mem) : Con G l yX9_put cX9_put 2 none 0 0 (fun _ : Unit => none) [.ref (adr G l0), .int l1] M (fX9_put l0 l1 M) := con_of (own := RX9) (nm := "put") (by decide +kernel) rfl rfl (Nat.le_of_ble_eq_true rfl) (jX9_put G l l0 l1 M)
theorem mkX9_put : MOk yX9_put cX9_put 2 none 1 := ⟨w_423, tb1 (List.mem_of_getElem? (i := 10) rfl) rfl, by decide +kernel, by decide +kernel, by decide +kernel⟩
-- X9_putLong
def fX9_putLong_3  : Nat → Nat → Int64 → Int32 → Mem → Option (Unit × Mem)
  | 0, _, _, _, _ => none
  | n + 1, l0, l1, l3, M => (if l3 < 0 then some ((), M) else (cV M 9 l0 (fX9_put l0 ((yshr l1 l3) &&& (255 : Int64)).toInt32 M) fun _u2 M1 => fX9_putLong_3  n l0 l1 (l3 + (-8 : Int32)) M1))
set_option maxHeartbeats 4000000 in
set_option maxRecDepth 100000 in
theorem jX9_putLong_3 (G : Gx) (l : Launch)   : ∀ (n : Nat) (l0 : Nat) (l1 : Int64) (l3 : Int32) (M : Mem), J G l cX9_putLong 4 RX9 none "putLong" 1 21 (QM G (fun _ : Unit => none)) 3 [(0, .ref (adr G l0)), (1, .long l1), (3, .int l3)] [] M (fX9_putLong_3  n l0 l1 l3 M) := by
  intro n
  induction n with
  | zero => intro l0 l1 l3 M; exact J_none
  | succ n ih =>
    intro l0 l1 l3 M
    rw [fX9_putLong_3]
    refine J_iload_n dX9_putLong_3 2 rfl ?_
    refine J_if_lt (tgt := 25) dX9_putLong_4 (by decide) ?_ ?_
    · exact J_vret dX9_putLong_25
    · refine J_aload_n dX9_putLong_7 0 rfl ?_
      refine J_lload_n dX9_putLong_8 1 rfl ?_
      refine J_iload_n dX9_putLong_9 2 rfl ?_
      refine J_lshrK dX9_putLong_10 ?_
      refine J_ldc2 (v := 255) dX9_putLong_11 w_427 ?_
      refine J_land dX9_putLong_14 ?_
      refine J_l2i dX9_putLong_15 ?_
      refine J_callVv (okX9_put G l _ _ _) mkX9_put _ _ rfl w_424 w_425 w_426 ⟨by decide, by decide⟩ rfl (Nat.le_of_ble_eq_true rfl) dX9_putLong_16 (fun _u2 M1 => ?_)
      refine J_iincK (z := -8) (lv' := [(3, .int _), (0, .ref _), (1, .long _)]) dX9_putLong_19 2 rfl (by decide) (by decide) rfl ?_
      refine J_goto (tgt := 3) dX9_putLong_22 (by decide) ?_
      refine J_sub [1, 2, 0] rfl ?_
      exact ih _ _ _ _
def fX9_putLong (l0 : Nat) (l1 : Int64) (M : Mem) : Option (Unit × Mem) := fX9_putLong_3  FU l0 l1 (56 : Int32) M
set_option maxHeartbeats 4000000 in
set_option maxRecDepth 100000 in
theorem jX9_putLong (G : Gx) (l : Launch) (l0 : Nat) (l1 : Int64) (M : Mem) : J G l cX9_putLong 4 RX9 none "putLong" 1 21 (QM G (fun _ : Unit => none)) 0 [(0, .ref (adr G l0)), (1, .long l1)] [] M (fX9_putLong l0 l1 M) := by
  unfold fX9_putLong
  refine J_bipush (v := 56) dX9_putLong_0 (by decide) ?_
  refine J_istore_n (lv' := [(3, .int _), (0, .ref _), (1, .long _)]) dX9_putLong_2 (by decide) rfl ?_
  refine J_sub [1, 2, 0] rfl ?_
  exact jX9_putLong_3 G l   FU _ _ _ _
theorem okX9_putLong (G : Gx) (l : Launch) (l0 : Nat) (l1 : Int64) (M : Mem) : Con G l yX9_putLong cX9_putLong 4 none 1 21 (fun _ : Unit => none) [.ref (adr G l0), .long l1] M (fX9_putLong l0 l1 M) := con_of (own := RX9) (nm := "putLong") (by decide +kernel) rfl rfl (Nat.le_of_ble_eq_true rfl) (jX9_putLong G l l0 l1 M)
theorem mkX9_putLong : MOk yX9_putLong cX9_putLong 4 none 1 := ⟨w_428, tb1 (List.mem_of_getElem? (i := 10) rfl) rfl, by decide +kernel, by decide +kernel, by decide +kernel⟩
-- X9_begins
def fX9_begins_51   (M : Mem) : Option (Unit × Mem) := some ((), M)
set_option maxHeartbeats 4000000 in
set_option maxRecDepth 100000 in
theorem jX9_begins_51 (G : Gx) (l : Launch)    (M : Mem) : J G l cX9_begins 4 RX9 none "begins" 2 44 (QM G (fun _ : Unit => none)) 51 [] [] M (fX9_begins_51   M) := by
  unfold fX9_begins_51
  exact J_vret dX9_begins_51
def fX9_begins (l0 : Nat) (l1 : Int32) (l2 : Int64) (M : Mem) : Option (Unit × Mem) := (pI M 9 26 l0 l1 fun M1 => (pJ M1 9 30 l0 l2 fun M2 => (pI M2 9 27 l0 (0 : Int32) fun M3 => (pI M3 9 28 l0 (-1 : Int32) fun M4 => (pI M4 9 29 l0 (-1 : Int32) fun M5 => (pJ M5 9 31 l0 (0 : Int64) fun M6 => (pI M6 9 35 l0 (0 : Int32) fun M7 => (cV M7 9 l0 (fX9_put l0 l1 M7) fun _u9 M8 => (if l2 = (0 : Int64) then fX9_begins_51   M8 else (cV M8 9 l0 (fX9_putLong l0 l2 M8) fun _u11 M10 => fX9_begins_51   M10))))))))))
set_option maxHeartbeats 4000000 in
set_option maxRecDepth 100000 in
theorem jX9_begins (G : Gx) (l : Launch) (l0 : Nat) (l1 : Int32) (l2 : Int64) (M : Mem) : J G l cX9_begins 4 RX9 none "begins" 2 44 (QM G (fun _ : Unit => none)) 0 [(0, .ref (adr G l0)), (1, .int l1), (2, .long l2)] [] M (fX9_begins l0 l1 l2 M) := by
  unfold fX9_begins
  refine J_aload_n dX9_begins_0 0 rfl ?_
  refine J_iload_n dX9_begins_1 1 rfl ?_
  refine J_putI fd_9_26 w_415 dX9_begins_2 ?_
  refine J_aload_n dX9_begins_5 0 rfl ?_
  refine J_lload_n dX9_begins_6 2 rfl ?_
  refine J_putJ fd_9_30 w_416 dX9_begins_7 ?_
  refine J_aload_n dX9_begins_10 0 rfl ?_
  refine J_iconst (v := 0) dX9_begins_11 (by decide) ?_
  refine J_putI fd_9_27 w_417 dX9_begins_12 ?_
  refine J_aload_n dX9_begins_15 0 rfl ?_
  refine J_iconst (v := -1) dX9_begins_16 (by decide) ?_
  refine J_putI fd_9_28 w_418 dX9_begins_17 ?_
  refine J_aload_n dX9_begins_20 0 rfl ?_
  refine J_iconst (v := -1) dX9_begins_21 (by decide) ?_
  refine J_putI fd_9_29 w_419 dX9_begins_22 ?_
  refine J_aload_n dX9_begins_25 0 rfl ?_
  refine J_lconst (v := 0) dX9_begins_26 (by decide) ?_
  refine J_putJ fd_9_31 w_420 dX9_begins_27 ?_
  refine J_aload_n dX9_begins_30 0 rfl ?_
  refine J_iconst (v := 0) dX9_begins_31 (by decide) ?_
  refine J_putI fd_9_35 w_421 dX9_begins_32 ?_
  refine J_aload_n dX9_begins_35 0 rfl ?_
  refine J_iload_n dX9_begins_36 1 rfl ?_
  refine J_callVv (okX9_put G l _ _ _) mkX9_put _ _ rfl w_424 w_425 w_426 ⟨by decide, by decide⟩ rfl (Nat.le_of_ble_eq_true rfl) dX9_begins_37 (fun _u9 M8 => ?_)
  refine J_lload_n dX9_begins_40 2 rfl ?_
  refine J_lconst (v := 0) dX9_begins_41 (by decide) ?_
  refine J_lcmp_eq (tgt := 51) dX9_begins_42 dX9_begins_43 (by decide) ?_ ?_
  · refine J_sub [] rfl ?_
    exact jX9_begins_51 G l    _
  · refine J_aload_n dX9_begins_46 0 rfl ?_
    refine J_lload_n dX9_begins_47 2 rfl ?_
    refine J_callVv (okX9_putLong G l _ _ _) mkX9_putLong _ _ rfl w_429 w_430 w_431 ⟨by decide, by decide⟩ rfl (Nat.le_of_ble_eq_true rfl) dX9_begins_48 (fun _u11 M10 => ?_)
    refine J_sub [] rfl ?_
    exact jX9_begins_51 G l    _
theorem okX9_begins (G : Gx) (l : Launch) (l0 : Nat) (l1 : Int32) (l2 : Int64) (M : Mem) : Con G l yX9_begins cX9_begins 4 none 2 44 (fun _ : Unit => none) [.ref (adr G l0), .int l1, .long l2] M (fX9_begins l0 l1 l2 M) := con_of (own := RX9) (nm := "begins") (by decide +kernel) rfl rfl (Nat.le_of_ble_eq_true rfl) (jX9_begins G l l0 l1 l2 M)
theorem mkX9_begins : MOk yX9_begins cX9_begins 4 none 2 := ⟨w_432, tb1 (List.mem_of_getElem? (i := 10) rfl) rfl, by decide +kernel, by decide +kernel, by decide +kernel⟩
-- X9_putShort
def fX9_putShort (l0 : Nat) (l1 : Int32) (M : Mem) : Option (Unit × Mem) := (cV M 9 l0 (fX9_put l0 (xshr l1 (8 : Int32)) M) fun _u2 M1 => (cV M1 9 l0 (fX9_put l0 l1 M1) fun _u4 M3 => some ((), M3)))
set_option maxHeartbeats 4000000 in
set_option maxRecDepth 100000 in
theorem jX9_putShort (G : Gx) (l : Launch) (l0 : Nat) (l1 : Int32) (M : Mem) : J G l cX9_putShort 2 RX9 none "putShort" 1 21 (QM G (fun _ : Unit => none)) 0 [(0, .ref (adr G l0)), (1, .int l1)] [] M (fX9_putShort l0 l1 M) := by
  unfold fX9_putShort
  refine J_aload_n dX9_putShort_0 0 rfl ?_
  refine J_iload_n dX9_putShort_1 1 rfl ?_
  refine J_bipush (v := 8) dX9_putShort_2 (by decide) ?_
  refine J_ishrK dX9_putShort_4 ?_
  refine J_callVv (okX9_put G l _ _ _) mkX9_put _ _ rfl w_424 w_425 w_426 ⟨by decide, by decide⟩ rfl (Nat.le_of_ble_eq_true rfl) dX9_putShort_5 (fun _u2 M1 => ?_)
  refine J_aload_n dX9_putShort_8 0 rfl ?_
  refine J_iload_n dX9_putShort_9 1 rfl ?_
  refine J_callVv (okX9_put G l _ _ _) mkX9_put _ _ rfl w_424 w_425 w_426 ⟨by decide, by decide⟩ rfl (Nat.le_of_ble_eq_true rfl) dX9_putShort_10 (fun _u4 M3 => ?_)
  exact J_vret dX9_putShort_13
theorem okX9_putShort (G : Gx) (l : Launch) (l0 : Nat) (l1 : Int32) (M : Mem) : Con G l yX9_putShort cX9_putShort 2 none 1 21 (fun _ : Unit => none) [.ref (adr G l0), .int l1] M (fX9_putShort l0 l1 M) := con_of (own := RX9) (nm := "putShort") (by decide +kernel) rfl rfl (Nat.le_of_ble_eq_true rfl) (jX9_putShort G l l0 l1 M)
theorem mkX9_putShort : MOk yX9_putShort cX9_putShort 2 none 1 := ⟨w_433, tb1 (List.mem_of_getElem? (i := 10) rfl) rfl, by decide +kernel, by decide +kernel, by decide +kernel⟩
-- X9_leg
def fX9_leg (l0 : Nat) (l1 : Int32) (l2 : Int64) (l4 : Int32) (M : Mem) : Option (Unit × Mem) := (gR M 9 32 l0 fun r1 => (wI M .int r1 l4 l1 fun M2 => (gR M2 9 33 l0 fun r3 => (wJ M2 r3 l4 l2 fun M4 => (pI M4 9 27 l0 (l4 + (1 : Int32)) fun M5 => some ((), M5))))))
set_option maxHeartbeats 4000000 in
set_option maxRecDepth 100000 in
theorem jX9_leg (G : Gx) (l : Launch) (l0 : Nat) (l1 : Int32) (l2 : Int64) (l4 : Int32) (M : Mem) : J G l cX9_leg 5 RX9 none "leg" 0 0 (QM G (fun _ : Unit => none)) 0 [(0, .ref (adr G l0)), (1, .int l1), (2, .long l2), (4, .int l4)] [] M (fX9_leg l0 l1 l2 l4 M) := by
  unfold fX9_leg
  refine J_aload_n dX9_leg_0 0 rfl ?_
  refine J_getR fd_9_32 w_434 rfl dX9_leg_1 (fun r1 => ?_)
  refine J_iload dX9_leg_4 3 rfl ?_
  refine J_iload_n dX9_leg_6 1 rfl ?_
  refine J_iast dX9_leg_7 ?_
  refine J_aload_n dX9_leg_8 0 rfl ?_
  refine J_getR fd_9_33 w_435 rfl dX9_leg_9 (fun r3 => ?_)
  refine J_iload dX9_leg_12 3 rfl ?_
  refine J_lload_n dX9_leg_14 2 rfl ?_
  refine J_last dX9_leg_15 ?_
  refine J_aload_n dX9_leg_16 0 rfl ?_
  refine J_iload dX9_leg_17 3 rfl ?_
  refine J_iconst (v := 1) dX9_leg_19 (by decide) ?_
  refine J_iadd dX9_leg_20 ?_
  refine J_putI fd_9_27 w_417 dX9_leg_21 ?_
  exact J_vret dX9_leg_24
theorem okX9_leg (G : Gx) (l : Launch) (l0 : Nat) (l1 : Int32) (l2 : Int64) (l4 : Int32) (M : Mem) : Con G l yX9_leg cX9_leg 5 none 0 0 (fun _ : Unit => none) [.ref (adr G l0), .int l1, .long l2, .int l4] M (fX9_leg l0 l1 l2 l4 M) := con_of (own := RX9) (nm := "leg") (by decide +kernel) rfl rfl (Nat.le_of_ble_eq_true rfl) (jX9_leg G l l0 l1 l2 l4 M)
theorem mkX9_leg : MOk yX9_leg cX9_leg 5 none 3 := ⟨w_436, tb1 (List.mem_of_getElem? (i := 10) rfl) rfl, by decide +kernel, by decide +kernel, by decide +kernel⟩
-- X9_byKey
def fX9_byKey_11  : Nat → Nat → Int32 → Int64 → Int32 → Mem → Option (Int32 × Mem)
  | 0, _, _, _, _, _ => none
  | n + 1, l0, l1, l2, l4, M => (gR M 9 1 l0 fun r1 => (rI M .int r1 l1 fun v2 => (if v2 ≤ l4 then some ((-1 : Int32), M) else (gR M 9 10 l0 fun r3 => (rJ M r3 (((200 : Int32) * l1) + l4) fun v4 => (if v4 = l2 then some (l4, M) else fX9_byKey_11  n l0 l1 l2 (l4 + (1 : Int32)) M))))))
set_option maxHeartbeats 4000000 in
set_option maxRecDepth 100000 in
theorem jX9_byKey_11 (G : Gx) (l : Launch)   : ∀ (n : Nat) (l0 : Nat) (l1 : Int32) (l2 : Int64) (l4 : Int32) (M : Mem), J G l cX9_byKey 5 RX9 (some .int) "byKey" 0 0 (QM G (fun v : Int32 => some (.int v))) 11 [(0, .ref (adr G l0)), (1, .int l1), (2, .long l2), (4, .int l4)] [] M (fX9_byKey_11  n l0 l1 l2 l4 M) := by
  intro n
  induction n with
  | zero => intro l0 l1 l2 l4 M; exact J_none
  | succ n ih =>
    intro l0 l1 l2 l4 M
    rw [fX9_byKey_11]
    refine J_iload dX9_byKey_11 3 rfl ?_
    refine J_aload_n dX9_byKey_13 0 rfl ?_
    refine J_getR fd_9_1 w_437 rfl dX9_byKey_14 (fun r1 => ?_)
    refine J_iload_n dX9_byKey_17 1 rfl ?_
    refine J_iald dX9_byKey_18 ?_
    refine J_icmp_ge (tgt := 49) dX9_byKey_19 (by decide) ?_ ?_
    · refine J_iconst (v := -1) dX9_byKey_49 (by decide) ?_
      exact J_iret dX9_byKey_50
    · refine J_aload_n dX9_byKey_22 0 rfl ?_
      refine J_getR fd_9_10 w_438 rfl dX9_byKey_23 (fun r3 => ?_)
      refine J_sipush (v := 200) dX9_byKey_26 (by decide) ?_
      refine J_iload_n dX9_byKey_29 1 rfl ?_
      refine J_imul dX9_byKey_30 ?_
      refine J_iload dX9_byKey_31 3 rfl ?_
      refine J_iadd dX9_byKey_33 ?_
      refine J_lald dX9_byKey_34 ?_
      refine J_lload_n dX9_byKey_35 2 rfl ?_
      refine J_lcmp_ne (tgt := 43) dX9_byKey_36 dX9_byKey_37 (by decide) ?_ ?_
      · refine J_iincK (z := 1) (lv' := [(4, .int _), (0, .ref _), (1, .int _), (2, .long _)]) dX9_byKey_43 3 rfl (by decide) (by decide) rfl ?_
        refine J_goto (tgt := 11) dX9_byKey_46 (by decide) ?_
        refine J_sub [1, 2, 3, 0] rfl ?_
        exact ih _ _ _ _ _
      · refine J_iload dX9_byKey_40 3 rfl ?_
        exact J_iret dX9_byKey_42
def fX9_byKey (l0 : Nat) (l1 : Int32) (l2 : Int64) (M : Mem) : Option (Int32 × Mem) := (if l2 = (0 : Int64) then some ((-1 : Int32), M) else fX9_byKey_11  FU l0 l1 l2 (0 : Int32) M)
set_option maxHeartbeats 4000000 in
set_option maxRecDepth 100000 in
theorem jX9_byKey (G : Gx) (l : Launch) (l0 : Nat) (l1 : Int32) (l2 : Int64) (M : Mem) : J G l cX9_byKey 5 RX9 (some .int) "byKey" 0 0 (QM G (fun v : Int32 => some (.int v))) 0 [(0, .ref (adr G l0)), (1, .int l1), (2, .long l2)] [] M (fX9_byKey l0 l1 l2 M) := by
  unfold fX9_byKey
  refine J_lload_n dX9_byKey_0 2 rfl ?_
  refine J_lconst (v := 0) dX9_byKey_1 (by decide) ?_
  refine J_lcmp_ne (tgt := 8) dX9_byKey_2 dX9_byKey_3 (by decide) ?_ ?_
  · refine J_iconst (v := 0) dX9_byKey_8 (by decide) ?_
    refine J_istore (lv' := [(4, .int _), (0, .ref _), (1, .int _), (2, .long _)]) dX9_byKey_9 (by decide) rfl ?_
    refine J_sub [1, 2, 3, 0] rfl ?_
    exact jX9_byKey_11 G l   FU _ _ _ _ _
  · refine J_iconst (v := -1) dX9_byKey_6 (by decide) ?_
    exact J_iret dX9_byKey_7
theorem okX9_byKey (G : Gx) (l : Launch) (l0 : Nat) (l1 : Int32) (l2 : Int64) (M : Mem) : Con G l yX9_byKey cX9_byKey 5 (some .int) 0 0 (fun v : Int32 => some (.int v)) [.ref (adr G l0), .int l1, .long l2] M (fX9_byKey l0 l1 l2 M) := con_of (own := RX9) (nm := "byKey") (by decide +kernel) rfl rfl (Nat.le_of_ble_eq_true rfl) (jX9_byKey G l l0 l1 l2 M)
theorem mkX9_byKey : MOk yX9_byKey cX9_byKey 5 (some .int) 2 := ⟨w_439, tb1 (List.mem_of_getElem? (i := 10) rfl) rfl, by decide +kernel, by decide +kernel, by decide +kernel⟩
-- X9_isSame
def fX9_isSame_67  (l2 : Int32) (M : Mem) : Option (Int32 × Mem) := retZ l2 (some (l2, M))
set_option maxHeartbeats 4000000 in
set_option maxRecDepth 100000 in
theorem jX9_isSame_67 (G : Gx) (l : Launch)   (l2 : Int32) (M : Mem) : J G l cX9_isSame 4 RX9 (some .boolean) "isSame" 0 0 (QM G (fun v : Int32 => some (.int v))) 67 [(2, .int l2)] [] M (fX9_isSame_67  l2 M) := by
  unfold fX9_isSame_67
  refine J_iload_n dX9_isSame_67 0 rfl ?_
  exact J_zret dX9_isSame_68
def fX9_isSame_60 (k21 : Nat → Int32 → Int32 → Int32 → Mem → Option (Int32 × Mem)) (l0 : Nat) (l1 : Int32) (l3 : Int32) (s0 : Int32) (M : Mem) : Option (Int32 × Mem) := k21 l0 l1 s0 (l3 + (1 : Int32)) M
set_option maxHeartbeats 4000000 in
set_option maxRecDepth 100000 in
theorem jX9_isSame_60 (G : Gx) (l : Launch) (k21 : Nat → Int32 → Int32 → Int32 → Mem → Option (Int32 × Mem)) (h21 : ∀ (l0 : Nat) (l1 : Int32) (l2 : Int32) (l3 : Int32) (M : Mem), J G l cX9_isSame 4 RX9 (some .boolean) "isSame" 0 0 (QM G (fun v : Int32 => some (.int v))) 21 [(0, .ref (adr G l0)), (1, .int l1), (2, .int l2), (3, .int l3)] [] M (k21 l0 l1 l2 l3 M)) (l0 : Nat) (l1 : Int32) (l3 : Int32) (s0 : Int32) (M : Mem) : J G l cX9_isSame 4 RX9 (some .boolean) "isSame" 0 0 (QM G (fun v : Int32 => some (.int v))) 60 [(0, .ref (adr G l0)), (1, .int l1), (3, .int l3)] [.int s0] M (fX9_isSame_60 k21 l0 l1 l3 s0 M) := by
  unfold fX9_isSame_60
  refine J_istore_n (lv' := [(2, .int _), (0, .ref _), (1, .int _), (3, .int _)]) dX9_isSame_60 (by decide) rfl ?_
  refine J_iincK (z := 1) (lv' := [(3, .int _), (2, .int _), (0, .ref _), (1, .int _)]) dX9_isSame_61 3 rfl (by decide) (by decide) rfl ?_
  refine J_goto (tgt := 21) dX9_isSame_64 (by decide) ?_
  refine J_sub [2, 3, 1, 0] rfl ?_
  exact h21 _ _ _ _ _
def fX9_isSame_21  : Nat → Nat → Int32 → Int32 → Int32 → Mem → Option (Int32 × Mem)
  | 0, _, _, _, _, _ => none
  | n + 1, l0, l1, l2, l3, M => (gI M 9 35 l0 fun v1 => (if v1 ≤ l3 then fX9_isSame_67  l2 M else (if l2 = 0 then fX9_isSame_67  l2 M else (gR M 9 19 l0 fun r2 => (gR M 9 21 l0 fun r3 => (rI M .int r3 l1 fun v4 => (rI M .int r2 (v4 + l3) fun v5 => (gR M 9 34 l0 fun r6 => (rI M .int r6 l3 fun v7 => (if v5 = v7 then fX9_isSame_60 (fX9_isSame_21  n) l0 l1 l3 (1 : Int32) M else fX9_isSame_60 (fX9_isSame_21  n) l0 l1 l3 (0 : Int32) M))))))))))
set_option maxHeartbeats 4000000 in
set_option maxRecDepth 100000 in
theorem jX9_isSame_21 (G : Gx) (l : Launch)   : ∀ (n : Nat) (l0 : Nat) (l1 : Int32) (l2 : Int32) (l3 : Int32) (M : Mem), J G l cX9_isSame 4 RX9 (some .boolean) "isSame" 0 0 (QM G (fun v : Int32 => some (.int v))) 21 [(0, .ref (adr G l0)), (1, .int l1), (2, .int l2), (3, .int l3)] [] M (fX9_isSame_21  n l0 l1 l2 l3 M) := by
  intro n
  induction n with
  | zero => intro l0 l1 l2 l3 M; exact J_none
  | succ n ih =>
    intro l0 l1 l2 l3 M
    rw [fX9_isSame_21]
    refine J_iload_n dX9_isSame_21 3 rfl ?_
    refine J_aload_n dX9_isSame_22 0 rfl ?_
    refine J_getI fd_9_35 w_421 rfl dX9_isSame_23 ?_
    refine J_icmp_ge (tgt := 67) dX9_isSame_26 (by decide) ?_ ?_
    · refine J_sub [2] rfl ?_
      exact jX9_isSame_67 G l   _ _
    · refine J_iload_n dX9_isSame_29 2 rfl ?_
      refine J_if_eq (tgt := 67) dX9_isSame_30 (by decide) ?_ ?_
      · refine J_sub [2] rfl ?_
        exact jX9_isSame_67 G l   _ _
      · refine J_aload_n dX9_isSame_33 0 rfl ?_
        refine J_getR fd_9_19 w_440 rfl dX9_isSame_34 (fun r2 => ?_)
        refine J_aload_n dX9_isSame_37 0 rfl ?_
        refine J_getR fd_9_21 w_441 rfl dX9_isSame_38 (fun r3 => ?_)
        refine J_iload_n dX9_isSame_41 1 rfl ?_
        refine J_iald dX9_isSame_42 ?_
        refine J_iload_n dX9_isSame_43 3 rfl ?_
        refine J_iadd dX9_isSame_44 ?_
        refine J_iald dX9_isSame_45 ?_
        refine J_aload_n dX9_isSame_46 0 rfl ?_
        refine J_getR fd_9_34 w_422 rfl dX9_isSame_47 (fun r6 => ?_)
        refine J_iload_n dX9_isSame_50 3 rfl ?_
        refine J_iald dX9_isSame_51 ?_
        refine J_icmp_ne (tgt := 59) dX9_isSame_52 (by decide) ?_ ?_
        · refine J_iconst (v := 0) dX9_isSame_59 (by decide) ?_
          refine J_sub [0, 1, 3] rfl ?_
          exact jX9_isSame_60 G l _ ih _ _ _ _ _
        · refine J_iconst (v := 1) dX9_isSame_55 (by decide) ?_
          refine J_goto (tgt := 60) dX9_isSame_56 (by decide) ?_
          refine J_sub [0, 1, 3] rfl ?_
          exact jX9_isSame_60 G l _ ih _ _ _ _ _
def fX9_isSame_18  (l0 : Nat) (l1 : Int32) (s0 : Int32) (M : Mem) : Option (Int32 × Mem) := fX9_isSame_21  FU l0 l1 s0 (0 : Int32) M
set_option maxHeartbeats 4000000 in
set_option maxRecDepth 100000 in
theorem jX9_isSame_18 (G : Gx) (l : Launch)   (l0 : Nat) (l1 : Int32) (s0 : Int32) (M : Mem) : J G l cX9_isSame 4 RX9 (some .boolean) "isSame" 0 0 (QM G (fun v : Int32 => some (.int v))) 18 [(0, .ref (adr G l0)), (1, .int l1)] [.int s0] M (fX9_isSame_18  l0 l1 s0 M) := by
  unfold fX9_isSame_18
  refine J_istore_n (lv' := [(2, .int _), (0, .ref _), (1, .int _)]) dX9_isSame_18 (by decide) rfl ?_
  refine J_iconst (v := 0) dX9_isSame_19 (by decide) ?_
  refine J_istore_n (lv' := [(3, .int _), (2, .int _), (0, .ref _), (1, .int _)]) dX9_isSame_20 (by decide) rfl ?_
  refine J_sub [2, 3, 1, 0] rfl ?_
  exact jX9_isSame_21 G l   FU _ _ _ _ _
def fX9_isSame (l0 : Nat) (l1 : Int32) (M : Mem) : Option (Int32 × Mem) := (gR M 9 22 l0 fun r1 => (rI M .int r1 l1 fun v2 => (gI M 9 35 l0 fun v3 => (if v2 = v3 then fX9_isSame_18  l0 l1 (1 : Int32) M else fX9_isSame_18  l0 l1 (0 : Int32) M))))
set_option maxHeartbeats 4000000 in
set_option maxRecDepth 100000 in
theorem jX9_isSame (G : Gx) (l : Launch) (l0 : Nat) (l1 : Int32) (M : Mem) : J G l cX9_isSame 4 RX9 (some .boolean) "isSame" 0 0 (QM G (fun v : Int32 => some (.int v))) 0 [(0, .ref (adr G l0)), (1, .int l1)] [] M (fX9_isSame l0 l1 M) := by
  unfold fX9_isSame
  refine J_aload_n dX9_isSame_0 0 rfl ?_
  refine J_getR fd_9_22 w_442 rfl dX9_isSame_1 (fun r1 => ?_)
  refine J_iload_n dX9_isSame_4 1 rfl ?_
  refine J_iald dX9_isSame_5 ?_
  refine J_aload_n dX9_isSame_6 0 rfl ?_
  refine J_getI fd_9_35 w_421 rfl dX9_isSame_7 ?_
  refine J_icmp_ne (tgt := 17) dX9_isSame_10 (by decide) ?_ ?_
  · refine J_iconst (v := 0) dX9_isSame_17 (by decide) ?_
    refine J_sub [0, 1] rfl ?_
    exact jX9_isSame_18 G l   _ _ _ _
  · refine J_iconst (v := 1) dX9_isSame_13 (by decide) ?_
    refine J_goto (tgt := 18) dX9_isSame_14 (by decide) ?_
    refine J_sub [0, 1] rfl ?_
    exact jX9_isSame_18 G l   _ _ _ _
theorem okX9_isSame (G : Gx) (l : Launch) (l0 : Nat) (l1 : Int32) (M : Mem) : Con G l yX9_isSame cX9_isSame 4 (some .boolean) 0 0 (fun v : Int32 => some (.int v)) [.ref (adr G l0), .int l1] M (fX9_isSame l0 l1 M) := con_of (own := RX9) (nm := "isSame") (by decide +kernel) rfl rfl (Nat.le_of_ble_eq_true rfl) (jX9_isSame G l l0 l1 M)
theorem mkX9_isSame : MOk yX9_isSame cX9_isSame 4 (some .boolean) 1 := ⟨w_443, tb1 (List.mem_of_getElem? (i := 10) rfl) rfl, by decide +kernel, by decide +kernel, by decide +kernel⟩
-- X9_isHold
def fX9_isHold_50  (s0 : Int32) (M : Mem) : Option (Int32 × Mem) := retZ s0 (some (s0, M))
set_option maxHeartbeats 4000000 in
set_option maxRecDepth 100000 in
theorem jX9_isHold_50 (G : Gx) (l : Launch)   (s0 : Int32) (M : Mem) : J G l cX9_isHold 3 RX9 (some .boolean) "isHold" 0 0 (QM G (fun v : Int32 => some (.int v))) 50 [] [.int s0] M (fX9_isHold_50  s0 M) := by
  unfold fX9_isHold_50
  exact J_zret dX9_isHold_50
def fX9_isHold_49   (M : Mem) : Option (Int32 × Mem) := fX9_isHold_50  (0 : Int32) M
set_option maxHeartbeats 4000000 in
set_option maxRecDepth 100000 in
theorem jX9_isHold_49 (G : Gx) (l : Launch)    (M : Mem) : J G l cX9_isHold 3 RX9 (some .boolean) "isHold" 0 0 (QM G (fun v : Int32 => some (.int v))) 49 [] [] M (fX9_isHold_49   M) := by
  unfold fX9_isHold_49
  refine J_iconst (v := 0) dX9_isHold_49 (by decide) ?_
  refine J_sub [] rfl ?_
  exact jX9_isHold_50 G l   _ _
def fX9_isHold (l0 : Nat) (l1 : Int32) (l2 : Int32) (M : Mem) : Option (Int32 × Mem) := (if l2 < 0 then fX9_isHold_49   M else (gR M 9 1 l0 fun r1 => (rI M .int r1 l1 fun v2 => (if v2 ≤ l2 then fX9_isHold_49   M else (gR M 9 9 l0 fun r3 => (rI M .int r3 (((200 : Int32) * l1) + l2) fun v4 => (if v4 = (3 : Int32) then (gR M 9 16 l0 fun r5 => (rI M .boolean r5 (((200 : Int32) * l1) + l2) fun v6 => (if v6 = 0 then fX9_isHold_49   M else fX9_isHold_50  (1 : Int32) M))) else fX9_isHold_49   M)))))))
set_option maxHeartbeats 4000000 in
set_option maxRecDepth 100000 in
theorem jX9_isHold (G : Gx) (l : Launch) (l0 : Nat) (l1 : Int32) (l2 : Int32) (M : Mem) : J G l cX9_isHold 3 RX9 (some .boolean) "isHold" 0 0 (QM G (fun v : Int32 => some (.int v))) 0 [(0, .ref (adr G l0)), (1, .int l1), (2, .int l2)] [] M (fX9_isHold l0 l1 l2 M) := by
  unfold fX9_isHold
  refine J_iload_n dX9_isHold_0 2 rfl ?_
  refine J_if_lt (tgt := 49) dX9_isHold_1 (by decide) ?_ ?_
  · refine J_sub [] rfl ?_
    exact jX9_isHold_49 G l    _
  · refine J_iload_n dX9_isHold_4 2 rfl ?_
    refine J_aload_n dX9_isHold_5 0 rfl ?_
    refine J_getR fd_9_1 w_437 rfl dX9_isHold_6 (fun r1 => ?_)
    refine J_iload_n dX9_isHold_9 1 rfl ?_
    refine J_iald dX9_isHold_10 ?_
    refine J_icmp_ge (tgt := 49) dX9_isHold_11 (by decide) ?_ ?_
    · refine J_sub [] rfl ?_
      exact jX9_isHold_49 G l    _
    · refine J_aload_n dX9_isHold_14 0 rfl ?_
      refine J_getR fd_9_9 w_444 rfl dX9_isHold_15 (fun r3 => ?_)
      refine J_sipush (v := 200) dX9_isHold_18 (by decide) ?_
      refine J_iload_n dX9_isHold_21 1 rfl ?_
      refine J_imul dX9_isHold_22 ?_
      refine J_iload_n dX9_isHold_23 2 rfl ?_
      refine J_iadd dX9_isHold_24 ?_
      refine J_iald dX9_isHold_25 ?_
      refine J_iconst (v := 3) dX9_isHold_26 (by decide) ?_
      refine J_icmp_ne (tgt := 49) dX9_isHold_27 (by decide) ?_ ?_
      · refine J_sub [] rfl ?_
        exact jX9_isHold_49 G l    _
      · refine J_aload_n dX9_isHold_30 0 rfl ?_
        refine J_getR fd_9_16 w_445 rfl dX9_isHold_31 (fun r5 => ?_)
        refine J_sipush (v := 200) dX9_isHold_34 (by decide) ?_
        refine J_iload_n dX9_isHold_37 1 rfl ?_
        refine J_imul dX9_isHold_38 ?_
        refine J_iload_n dX9_isHold_39 2 rfl ?_
        refine J_iadd dX9_isHold_40 ?_
        refine J_zald dX9_isHold_41 ?_
        refine J_if_eq (tgt := 49) dX9_isHold_42 (by decide) ?_ ?_
        · refine J_sub [] rfl ?_
          exact jX9_isHold_49 G l    _
        · refine J_iconst (v := 1) dX9_isHold_45 (by decide) ?_
          refine J_goto (tgt := 50) dX9_isHold_46 (by decide) ?_
          refine J_sub [] rfl ?_
          exact jX9_isHold_50 G l   _ _
theorem okX9_isHold (G : Gx) (l : Launch) (l0 : Nat) (l1 : Int32) (l2 : Int32) (M : Mem) : Con G l yX9_isHold cX9_isHold 3 (some .boolean) 0 0 (fun v : Int32 => some (.int v)) [.ref (adr G l0), .int l1, .int l2] M (fX9_isHold l0 l1 l2 M) := con_of (own := RX9) (nm := "isHold") (by decide +kernel) rfl rfl (Nat.le_of_ble_eq_true rfl) (jX9_isHold G l l0 l1 l2 M)
theorem mkX9_isHold : MOk yX9_isHold cX9_isHold 3 (some .boolean) 2 := ⟨w_446, tb1 (List.mem_of_getElem? (i := 10) rfl) rfl, by decide +kernel, by decide +kernel, by decide +kernel⟩
-- X9_isAccount
def fX9_isAccount_19  (s0 : Int32) (M : Mem) : Option (Int32 × Mem) := retZ s0 (some (s0, M))
set_option maxHeartbeats 4000000 in
set_option maxRecDepth 100000 in
theorem jX9_isAccount_19 (G : Gx) (l : Launch)   (s0 : Int32) (M : Mem) : J G l cX9_isAccount 3 RX9 (some .boolean) "isAccount" 0 0 (QM G (fun v : Int32 => some (.int v))) 19 [] [.int s0] M (fX9_isAccount_19  s0 M) := by
  unfold fX9_isAccount_19
  exact J_zret dX9_isAccount_19
def fX9_isAccount_18   (M : Mem) : Option (Int32 × Mem) := fX9_isAccount_19  (0 : Int32) M
set_option maxHeartbeats 4000000 in
set_option maxRecDepth 100000 in
theorem jX9_isAccount_18 (G : Gx) (l : Launch)    (M : Mem) : J G l cX9_isAccount 3 RX9 (some .boolean) "isAccount" 0 0 (QM G (fun v : Int32 => some (.int v))) 18 [] [] M (fX9_isAccount_18   M) := by
  unfold fX9_isAccount_18
  refine J_iconst (v := 0) dX9_isAccount_18 (by decide) ?_
  refine J_sub [] rfl ?_
  exact jX9_isAccount_19 G l   _ _
def fX9_isAccount (l0 : Nat) (l1 : Int32) (l2 : Int32) (M : Mem) : Option (Int32 × Mem) := (if l2 < 0 then fX9_isAccount_18   M else (gR M 9 0 l0 fun r1 => (rI M .int r1 l1 fun v2 => (if v2 ≤ l2 then fX9_isAccount_18   M else fX9_isAccount_19  (1 : Int32) M))))
set_option maxHeartbeats 4000000 in
set_option maxRecDepth 100000 in
theorem jX9_isAccount (G : Gx) (l : Launch) (l0 : Nat) (l1 : Int32) (l2 : Int32) (M : Mem) : J G l cX9_isAccount 3 RX9 (some .boolean) "isAccount" 0 0 (QM G (fun v : Int32 => some (.int v))) 0 [(0, .ref (adr G l0)), (1, .int l1), (2, .int l2)] [] M (fX9_isAccount l0 l1 l2 M) := by
  unfold fX9_isAccount
  refine J_iload_n dX9_isAccount_0 2 rfl ?_
  refine J_if_lt (tgt := 18) dX9_isAccount_1 (by decide) ?_ ?_
  · refine J_sub [] rfl ?_
    exact jX9_isAccount_18 G l    _
  · refine J_iload_n dX9_isAccount_4 2 rfl ?_
    refine J_aload_n dX9_isAccount_5 0 rfl ?_
    refine J_getR fd_9_0 w_447 rfl dX9_isAccount_6 (fun r1 => ?_)
    refine J_iload_n dX9_isAccount_9 1 rfl ?_
    refine J_iald dX9_isAccount_10 ?_
    refine J_icmp_ge (tgt := 18) dX9_isAccount_11 (by decide) ?_ ?_
    · refine J_sub [] rfl ?_
      exact jX9_isAccount_18 G l    _
    · refine J_iconst (v := 1) dX9_isAccount_14 (by decide) ?_
      refine J_goto (tgt := 19) dX9_isAccount_15 (by decide) ?_
      refine J_sub [] rfl ?_
      exact jX9_isAccount_19 G l   _ _
theorem okX9_isAccount (G : Gx) (l : Launch) (l0 : Nat) (l1 : Int32) (l2 : Int32) (M : Mem) : Con G l yX9_isAccount cX9_isAccount 3 (some .boolean) 0 0 (fun v : Int32 => some (.int v)) [.ref (adr G l0), .int l1, .int l2] M (fX9_isAccount l0 l1 l2 M) := con_of (own := RX9) (nm := "isAccount") (by decide +kernel) rfl rfl (Nat.le_of_ble_eq_true rfl) (jX9_isAccount G l l0 l1 l2 M)
theorem mkX9_isAccount : MOk yX9_isAccount cX9_isAccount 3 (some .boolean) 2 := ⟨w_448, tb1 (List.mem_of_getElem? (i := 10) rfl) rfl, by decide +kernel, by decide +kernel, by decide +kernel⟩
