-- X1_init
def fX1_init (l0 : Nat) (M : Mem) : Option (Unit × Mem) := (nwA M .byte (82 : Int32) fun c1 M2 => (pR M2 1 0 l0 c1 fun M3 => some ((), M3)))
set_option maxHeartbeats 4000000 in
set_option maxRecDepth 100000 in
theorem jX1_init (G : Gx) (l : Launch) (l0 : Nat) (M : Mem) : J G l cX1_init 1 RX1 none "<init>" 1 20 (QM G (fun _ : Unit => none)) 0 [(0, .ref (adr G l0))] [] M (fX1_init l0 M) := by
  unfold fX1_init
  refine J_aload_n dX1_init_0 0 rfl ?_
  refine J_objInit w_20 w_1 w_2 ⟨by decide, by decide⟩ (Nat.le_of_ble_eq_true rfl) dX1_init_1 ?_
  refine J_aload_n dX1_init_4 0 rfl ?_
  refine J_bipush (v := 82) dX1_init_5 (by decide) ?_
  refine J_newa (ty := .byte) (t0 := 1) rfl (fun _ _ _ _ => rfl) (fun _ _ h => h) nz_byte (by decide) w_10 dX1_init_7 ?_
  refine J_putRF fd_1_0 w_21 (Or.inl ⟨_, rfl⟩) dX1_init_9 ?_
  exact J_vret dX1_init_12
theorem okX1_init (G : Gx) (l : Launch) (l0 : Nat) (M : Mem) : Con G l yX1_init cX1_init 1 none 1 20 (fun _ : Unit => none) [.ref (adr G l0)] M (fX1_init l0 M) := con_of (own := RX1) (nm := "<init>") (by decide +kernel) rfl rfl (Nat.le_of_ble_eq_true rfl) (jX1_init G l l0 M)
theorem mkX1_init : MOk yX1_init cX1_init 1 none 0 := ⟨w_22, tb1 (List.mem_of_getElem? (i := 3) rfl) rfl, by decide +kernel, by decide +kernel, by decide +kernel⟩
-- X4_init
def fX4_init (l0 : Nat) (M : Mem) : Option (Unit × Mem) := (nwA M .int (8 : Int32) fun c1 M2 => (pR M2 4 0 l0 c1 fun M3 => (nwA M3 .long (8 : Int32) fun c4 M5 => (pR M5 4 1 l0 c4 fun M6 => some ((), M6)))))
set_option maxHeartbeats 4000000 in
set_option maxRecDepth 100000 in
theorem jX4_init (G : Gx) (l : Launch) (l0 : Nat) (M : Mem) : J G l cX4_init 1 RX4 none "<init>" 1 20 (QM G (fun _ : Unit => none)) 0 [(0, .ref (adr G l0))] [] M (fX4_init l0 M) := by
  unfold fX4_init
  refine J_aload_n dX4_init_0 0 rfl ?_
  refine J_objInit w_26 w_1 w_2 ⟨by decide, by decide⟩ (Nat.le_of_ble_eq_true rfl) dX4_init_1 ?_
  refine J_aload_n dX4_init_4 0 rfl ?_
  refine J_bipush (v := 8) dX4_init_5 (by decide) ?_
  refine J_newa (ty := .int) (t0 := 0) rfl (fun _ _ _ _ => rfl) (fun _ _ h => h) nz_int (by decide) w_12 dX4_init_7 ?_
  refine J_putRF fd_4_0 w_27 (Or.inl ⟨_, rfl⟩) dX4_init_9 ?_
  refine J_aload_n dX4_init_12 0 rfl ?_
  refine J_bipush (v := 8) dX4_init_13 (by decide) ?_
  refine J_newa (ty := .long) (t0 := 3) rfl (fun _ _ _ _ => rfl) (fun _ _ h => h) nz_long (by decide) w_5 dX4_init_15 ?_
  refine J_putRF fd_4_1 w_28 (Or.inl ⟨_, rfl⟩) dX4_init_17 ?_
  exact J_vret dX4_init_20
theorem okX4_init (G : Gx) (l : Launch) (l0 : Nat) (M : Mem) : Con G l yX4_init cX4_init 1 none 1 20 (fun _ : Unit => none) [.ref (adr G l0)] M (fX4_init l0 M) := con_of (own := RX4) (nm := "<init>") (by decide +kernel) rfl rfl (Nat.le_of_ble_eq_true rfl) (jX4_init G l l0 M)
theorem mkX4_init : MOk yX4_init cX4_init 1 none 0 := ⟨w_29, tb1 (List.mem_of_getElem? (i := 4) rfl) rfl, by decide +kernel, by decide +kernel, by decide +kernel⟩
-- X3_init
def fX3_init (l0 : Nat) (M : Mem) : Option (Unit × Mem) := (nwA M .long (40 : Int32) fun c1 M2 => (pR M2 3 0 l0 c1 fun M3 => (nwA M3 .long (40 : Int32) fun c4 M5 => (pR M5 3 1 l0 c4 fun M6 => (nwA M6 .long (40 : Int32) fun c7 M8 => (pR M8 3 2 l0 c7 fun M9 => (nwA M9 .long (40 : Int32) fun c10 M11 => (pR M11 3 3 l0 c10 fun M12 => (nwA M12 .byte (16400 : Int32) fun c13 M14 => (pR M14 3 5 l0 c13 fun M15 => (nwA M15 .int (201 : Int32) fun c16 M17 => (pR M17 3 6 l0 c16 fun M18 => (nwA M18 .long (200 : Int32) fun c19 M20 => (pR M20 3 7 l0 c19 fun M21 => (nwA M21 .int (200 : Int32) fun c22 M23 => (pR M23 3 8 l0 c22 fun M24 => (nwA M24 .int (200 : Int32) fun c25 M26 => (pR M26 3 9 l0 c25 fun M27 => (nwA M27 .int (1600 : Int32) fun c28 M29 => (pR M29 3 10 l0 c28 fun M30 => (nwA M30 .long (1600 : Int32) fun c31 M32 => (pR M32 3 11 l0 c31 fun M33 => (nwO M33 1 2 fun c34 M35 => (bd (fX1_init c34 M35) fun _u37 M36 => (pR M36 3 13 l0 c34 fun M38 => (nwO M38 4 3 fun c39 M40 => (bd (fX4_init c39 M40) fun _u42 M41 => (pR M41 3 14 l0 c39 fun M43 => some ((), M43)))))))))))))))))))))))))))))
set_option maxHeartbeats 4000000 in
set_option maxRecDepth 100000 in
theorem jX3_init (G : Gx) (l : Launch) (l0 : Nat) (M : Mem) : J G l cX3_init 1 RX3 none "<init>" 2 40 (QM G (fun _ : Unit => none)) 0 [(0, .ref (adr G l0))] [] M (fX3_init l0 M) := by
  unfold fX3_init
  refine J_aload_n dX3_init_0 0 rfl ?_
  refine J_objInit w_4 w_1 w_2 ⟨by decide, by decide⟩ (Nat.le_of_ble_eq_true rfl) dX3_init_1 ?_
  refine J_aload_n dX3_init_4 0 rfl ?_
  refine J_bipush (v := 40) dX3_init_5 (by decide) ?_
  refine J_newa (ty := .long) (t0 := 3) rfl (fun _ _ _ _ => rfl) (fun _ _ h => h) nz_long (by decide) w_5 dX3_init_7 ?_
  refine J_putRF fd_3_0 w_6 (Or.inl ⟨_, rfl⟩) dX3_init_9 ?_
  refine J_aload_n dX3_init_12 0 rfl ?_
  refine J_bipush (v := 40) dX3_init_13 (by decide) ?_
  refine J_newa (ty := .long) (t0 := 3) rfl (fun _ _ _ _ => rfl) (fun _ _ h => h) nz_long (by decide) w_5 dX3_init_15 ?_
  refine J_putRF fd_3_1 w_7 (Or.inl ⟨_, rfl⟩) dX3_init_17 ?_
  refine J_aload_n dX3_init_20 0 rfl ?_
  refine J_bipush (v := 40) dX3_init_21 (by decide) ?_
  refine J_newa (ty := .long) (t0 := 3) rfl (fun _ _ _ _ => rfl) (fun _ _ h => h) nz_long (by decide) w_5 dX3_init_23 ?_
  refine J_putRF fd_3_2 w_8 (Or.inl ⟨_, rfl⟩) dX3_init_25 ?_
  refine J_aload_n dX3_init_28 0 rfl ?_
  refine J_bipush (v := 40) dX3_init_29 (by decide) ?_
  refine J_newa (ty := .long) (t0 := 3) rfl (fun _ _ _ _ => rfl) (fun _ _ h => h) nz_long (by decide) w_5 dX3_init_31 ?_
  refine J_putRF fd_3_3 w_9 (Or.inl ⟨_, rfl⟩) dX3_init_33 ?_
  refine J_aload_n dX3_init_36 0 rfl ?_
  refine J_sipush (v := 16400) dX3_init_37 (by decide) ?_
  refine J_newa (ty := .byte) (t0 := 1) rfl (fun _ _ _ _ => rfl) (fun _ _ h => h) nz_byte (by decide) w_10 dX3_init_40 ?_
  refine J_putRF fd_3_5 w_11 (Or.inl ⟨_, rfl⟩) dX3_init_42 ?_
  refine J_aload_n dX3_init_45 0 rfl ?_
  refine J_sipush (v := 201) dX3_init_46 (by decide) ?_
  refine J_newa (ty := .int) (t0 := 0) rfl (fun _ _ _ _ => rfl) (fun _ _ h => h) nz_int (by decide) w_12 dX3_init_49 ?_
  refine J_putRF fd_3_6 w_13 (Or.inl ⟨_, rfl⟩) dX3_init_51 ?_
  refine J_aload_n dX3_init_54 0 rfl ?_
  refine J_sipush (v := 200) dX3_init_55 (by decide) ?_
  refine J_newa (ty := .long) (t0 := 3) rfl (fun _ _ _ _ => rfl) (fun _ _ h => h) nz_long (by decide) w_5 dX3_init_58 ?_
  refine J_putRF fd_3_7 w_14 (Or.inl ⟨_, rfl⟩) dX3_init_60 ?_
  refine J_aload_n dX3_init_63 0 rfl ?_
  refine J_sipush (v := 200) dX3_init_64 (by decide) ?_
  refine J_newa (ty := .int) (t0 := 0) rfl (fun _ _ _ _ => rfl) (fun _ _ h => h) nz_int (by decide) w_12 dX3_init_67 ?_
  refine J_putRF fd_3_8 w_15 (Or.inl ⟨_, rfl⟩) dX3_init_69 ?_
  refine J_aload_n dX3_init_72 0 rfl ?_
  refine J_sipush (v := 200) dX3_init_73 (by decide) ?_
  refine J_newa (ty := .int) (t0 := 0) rfl (fun _ _ _ _ => rfl) (fun _ _ h => h) nz_int (by decide) w_12 dX3_init_76 ?_
  refine J_putRF fd_3_9 w_16 (Or.inl ⟨_, rfl⟩) dX3_init_78 ?_
  refine J_aload_n dX3_init_81 0 rfl ?_
  refine J_sipush (v := 1600) dX3_init_82 (by decide) ?_
  refine J_newa (ty := .int) (t0 := 0) rfl (fun _ _ _ _ => rfl) (fun _ _ h => h) nz_int (by decide) w_12 dX3_init_85 ?_
  refine J_putRF fd_3_10 w_17 (Or.inl ⟨_, rfl⟩) dX3_init_87 ?_
  refine J_aload_n dX3_init_90 0 rfl ?_
  refine J_sipush (v := 1600) dX3_init_91 (by decide) ?_
  refine J_newa (ty := .long) (t0 := 3) rfl (fun _ _ _ _ => rfl) (fun _ _ h => h) nz_long (by decide) w_5 dX3_init_94 ?_
  refine J_putRF fd_3_11 w_18 (Or.inl ⟨_, rfl⟩) dX3_init_96 ?_
  refine J_aload_n dX3_init_99 0 rfl ?_
  refine J_new nw_1 w_19 dX3_init_100 ?_
  refine J_dup dX3_init_103 rfl ?_
  refine J_callINv (host := "ChainBooks") (okX1_init G l _ _) mkX1_init rfl (List.mem_of_getElem? (i := 1) rfl) w_23 ⟨by decide, by decide⟩ rfl (Nat.le_of_ble_eq_true rfl) dX3_init_104 (fun _u37 M36 => ?_)
  refine J_putRF fd_3_13 w_24 (Or.inr ⟨_, rfl⟩) dX3_init_107 ?_
  refine J_aload_n dX3_init_110 0 rfl ?_
  refine J_new nw_4 w_25 dX3_init_111 ?_
  refine J_dup dX3_init_114 rfl ?_
  refine J_callINv (host := "ChainBooks") (okX4_init G l _ _) mkX4_init rfl (List.mem_of_getElem? (i := 2) rfl) w_30 ⟨by decide, by decide⟩ rfl (Nat.le_of_ble_eq_true rfl) dX3_init_115 (fun _u42 M41 => ?_)
  refine J_putRF fd_3_14 w_31 (Or.inr ⟨_, rfl⟩) dX3_init_118 ?_
  exact J_vret dX3_init_121
theorem okX3_init (G : Gx) (l : Launch) (l0 : Nat) (M : Mem) : Con G l yX3_init cX3_init 1 none 2 40 (fun _ : Unit => none) [.ref (adr G l0)] M (fX3_init l0 M) := con_of (own := RX3) (nm := "<init>") (by decide +kernel) rfl rfl (Nat.le_of_ble_eq_true rfl) (jX3_init G l l0 M)
theorem mkX3_init : MOk yX3_init cX3_init 1 none 0 := ⟨w_32, tb1 (List.mem_of_getElem? (i := 2) rfl) rfl, by decide +kernel, by decide +kernel, by decide +kernel⟩
-- X0_init
def fX0_init (l0 : Nat) (M : Mem) : Option (Unit × Mem) := (nwO M 3 18 fun c1 M2 => (bd (fX3_init c1 M2) fun _u4 M3 => (pR M3 0 0 l0 c1 fun M5 => (nwO M5 4 3 fun c6 M7 => (bd (fX4_init c6 M7) fun _u9 M8 => (pR M8 0 1 l0 c6 fun M10 => some ((), M10)))))))
set_option maxHeartbeats 4000000 in
set_option maxRecDepth 100000 in
theorem jX0_init (G : Gx) (l : Launch) (l0 : Nat) (M : Mem) : J G l cX0_init 1 RX0 none "<init>" 3 60 (QM G (fun _ : Unit => none)) 0 [(0, .ref (adr G l0))] [] M (fX0_init l0 M) := by
  unfold fX0_init
  refine J_aload_n dX0_init_0 0 rfl ?_
  refine J_objInit w_0 w_1 w_2 ⟨by decide, by decide⟩ (Nat.le_of_ble_eq_true rfl) dX0_init_1 ?_
  refine J_aload_n dX0_init_4 0 rfl ?_
  refine J_new nw_3 w_3 dX0_init_5 ?_
  refine J_dup dX0_init_8 rfl ?_
  refine J_callINv (host := "ChainBooks") (okX3_init G l _ _) mkX3_init rfl (List.mem_of_getElem? (i := 10) rfl) w_33 ⟨by decide, by decide⟩ rfl (Nat.le_of_ble_eq_true rfl) dX0_init_9 (fun _u4 M3 => ?_)
  refine J_putRF fd_0_0 w_34 (Or.inr ⟨_, rfl⟩) dX0_init_12 ?_
  refine J_aload_n dX0_init_15 0 rfl ?_
  refine J_new nw_4 w_35 dX0_init_16 ?_
  refine J_dup dX0_init_19 rfl ?_
  refine J_callINv (host := "ChainBooks") (okX4_init G l _ _) mkX4_init rfl (List.mem_of_getElem? (i := 11) rfl) w_30 ⟨by decide, by decide⟩ rfl (Nat.le_of_ble_eq_true rfl) dX0_init_20 (fun _u9 M8 => ?_)
  refine J_putRF fd_0_1 w_36 (Or.inr ⟨_, rfl⟩) dX0_init_23 ?_
  exact J_vret dX0_init_26
theorem okX0_init (G : Gx) (l : Launch) (l0 : Nat) (M : Mem) : Con G l yX0_init cX0_init 1 none 3 60 (fun _ : Unit => none) [.ref (adr G l0)] M (fX0_init l0 M) := con_of (own := RX0) (nm := "<init>") (by decide +kernel) rfl rfl (Nat.le_of_ble_eq_true rfl) (jX0_init G l l0 M)
theorem mkX0_init : MOk yX0_init cX0_init 1 none 0 := ⟨w_37, tb1 (List.mem_of_getElem? (i := 9) rfl) rfl, by decide +kernel, by decide +kernel, by decide +kernel⟩
-- X5_size
def fX5_size (l0 : Nat) (M : Mem) : Option (Int32 × Mem) := (gR M 5 1 l0 fun r1 => (gI M 5 2 l0 fun v2 => (rI M .int r1 v2 fun v3 => some (v3, M))))
set_option maxHeartbeats 4000000 in
set_option maxRecDepth 100000 in
theorem jX5_size (G : Gx) (l : Launch) (l0 : Nat) (M : Mem) : J G l cX5_size 1 RX5 (some .int) "size" 0 0 (QM G (fun v : Int32 => some (.int v))) 0 [(0, .ref (adr G l0))] [] M (fX5_size l0 M) := by
  unfold fX5_size
  refine J_aload_n dX5_size_0 0 rfl ?_
  refine J_getR fd_5_1 w_42 rfl dX5_size_1 (fun r1 => ?_)
  refine J_aload_n dX5_size_4 0 rfl ?_
  refine J_getI fd_5_2 w_43 rfl dX5_size_5 ?_
  refine J_iald dX5_size_8 ?_
  exact J_iret dX5_size_9
theorem okX5_size (G : Gx) (l : Launch) (l0 : Nat) (M : Mem) : Con G l yX5_size cX5_size 1 (some .int) 0 0 (fun v : Int32 => some (.int v)) [.ref (adr G l0)] M (fX5_size l0 M) := con_of (own := RX5) (nm := "size") (by decide +kernel) rfl rfl (Nat.le_of_ble_eq_true rfl) (jX5_size G l l0 M)
theorem mkX5_size : MOk yX5_size cX5_size 1 (some .int) 0 := ⟨w_44, tb1 (List.mem_of_getElem? (i := 5) rfl) rfl, by decide +kernel, by decide +kernel, by decide +kernel⟩
-- X0_stands
def fX0_stands_30  : Nat → Nat → Nat → Int32 → Int32 → Mem → Option (Int32 × Mem)
  | 0, _, _, _, _, _ => none
  | n + 1, l0, l1, l2, l3, M => (gR M 0 0 l0 fun r1 => (gR M 3 6 r1 fun r2 => (rI M .int r2 (l2 + (1 : Int32)) fun v3 => (if v3 ≤ l3 then retZ (1 : Int32) (some ((1 : Int32), M)) else (gR M 0 0 l0 fun r4 => (gR M 3 5 r4 fun r5 => (rI M .byte r5 l3 fun v6 => (gR M 5 0 l1 fun r7 => (rI M .byte r7 l3 fun v8 => (if v6 = v8 then fX0_stands_30  n l0 l1 l2 (l3 + (1 : Int32)) M else retZ (0 : Int32) (some ((0 : Int32), M))))))))))))
set_option maxHeartbeats 4000000 in
set_option maxRecDepth 100000 in
theorem jX0_stands_30 (G : Gx) (l : Launch)   : ∀ (n : Nat) (l0 : Nat) (l1 : Nat) (l2 : Int32) (l3 : Int32) (M : Mem), J G l cX0_stands 4 RX0 (some .boolean) "stands" 1 20 (QM G (fun v : Int32 => some (.int v))) 30 [(0, .ref (adr G l0)), (1, .ref (adr G l1)), (2, .int l2), (3, .int l3)] [] M (fX0_stands_30  n l0 l1 l2 l3 M) := by
  intro n
  induction n with
  | zero => intro l0 l1 l2 l3 M; exact J_none
  | succ n ih =>
    intro l0 l1 l2 l3 M
    rw [fX0_stands_30]
    refine J_iload_n dX0_stands_30 3 rfl ?_
    refine J_aload_n dX0_stands_31 0 rfl ?_
    refine J_getR fd_0_0 w_34 rfl dX0_stands_32 (fun r1 => ?_)
    refine J_getR fd_3_6 w_39 rfl dX0_stands_35 (fun r2 => ?_)
    refine J_iload_n dX0_stands_38 2 rfl ?_
    refine J_iconst (v := 1) dX0_stands_39 (by decide) ?_
    refine J_iadd dX0_stands_40 ?_
    refine J_iald dX0_stands_41 ?_
    refine J_icmp_ge (tgt := 71) dX0_stands_42 (by decide) ?_ ?_
    · refine J_iconst (v := 1) dX0_stands_71 (by decide) ?_
      exact J_zret dX0_stands_72
    · refine J_aload_n dX0_stands_45 0 rfl ?_
      refine J_getR fd_0_0 w_34 rfl dX0_stands_46 (fun r4 => ?_)
      refine J_getR fd_3_5 w_40 rfl dX0_stands_49 (fun r5 => ?_)
      refine J_iload_n dX0_stands_52 3 rfl ?_
      refine J_bald dX0_stands_53 ?_
      refine J_aload_n dX0_stands_54 1 rfl ?_
      refine J_getR fd_5_0 w_41 rfl dX0_stands_55 (fun r7 => ?_)
      refine J_iload_n dX0_stands_58 3 rfl ?_
      refine J_bald dX0_stands_59 ?_
      refine J_icmp_eq (tgt := 65) dX0_stands_60 (by decide) ?_ ?_
      · refine J_iincK (z := 1) (lv' := [(3, .int _), (0, .ref _), (1, .ref _), (2, .int _)]) dX0_stands_65 3 rfl (by decide) (by decide) rfl ?_
        refine J_goto (tgt := 30) dX0_stands_68 (by decide) ?_
        refine J_sub [1, 2, 3, 0] rfl ?_
        exact ih _ _ _ _ _
      · refine J_iconst (v := 0) dX0_stands_63 (by decide) ?_
        exact J_zret dX0_stands_64
def fX0_stands (l0 : Nat) (l1 : Nat) (l2 : Int32) (M : Mem) : Option (Int32 × Mem) := (gR M 0 0 l0 fun r1 => (gR M 3 6 r1 fun r2 => (rI M .int r2 (l2 + (1 : Int32)) fun v3 => (cV M 5 l1 (fX5_size l1 M) fun v5 M4 => (if v3 ≤ v5 then (gR M4 0 0 l0 fun r6 => (gR M4 3 6 r6 fun r7 => (rI M4 .int r7 l2 fun v8 => fX0_stands_30  FU l0 l1 l2 v8 M4))) else retZ (0 : Int32) (some ((0 : Int32), M4)))))))
set_option maxHeartbeats 4000000 in
set_option maxRecDepth 100000 in
theorem jX0_stands (G : Gx) (l : Launch) (l0 : Nat) (l1 : Nat) (l2 : Int32) (M : Mem) : J G l cX0_stands 4 RX0 (some .boolean) "stands" 1 20 (QM G (fun v : Int32 => some (.int v))) 0 [(0, .ref (adr G l0)), (1, .ref (adr G l1)), (2, .int l2)] [] M (fX0_stands l0 l1 l2 M) := by
  unfold fX0_stands
  refine J_aload_n dX0_stands_0 0 rfl ?_
  refine J_getR fd_0_0 w_34 rfl dX0_stands_1 (fun r1 => ?_)
  refine J_getR fd_3_6 w_39 rfl dX0_stands_4 (fun r2 => ?_)
  refine J_iload_n dX0_stands_7 2 rfl ?_
  refine J_iconst (v := 1) dX0_stands_8 (by decide) ?_
  refine J_iadd dX0_stands_9 ?_
  refine J_iald dX0_stands_10 ?_
  refine J_aload_n dX0_stands_11 1 rfl ?_
  refine J_callVi (okX5_size G l _ _) mkX5_size _ _ rfl w_45 w_46 w_47 ⟨by decide, by decide⟩ rfl (Nat.le_of_ble_eq_true rfl) dX0_stands_12 (fun v5 M4 => ?_)
  refine J_icmp_le (tgt := 20) dX0_stands_15 (by decide) ?_ ?_
  · refine J_aload_n dX0_stands_20 0 rfl ?_
    refine J_getR fd_0_0 w_34 rfl dX0_stands_21 (fun r6 => ?_)
    refine J_getR fd_3_6 w_39 rfl dX0_stands_24 (fun r7 => ?_)
    refine J_iload_n dX0_stands_27 2 rfl ?_
    refine J_iald dX0_stands_28 ?_
    refine J_istore_n (lv' := [(3, .int _), (0, .ref _), (1, .ref _), (2, .int _)]) dX0_stands_29 (by decide) rfl ?_
    refine J_sub [1, 2, 3, 0] rfl ?_
    exact jX0_stands_30 G l   FU _ _ _ _ _
  · refine J_iconst (v := 0) dX0_stands_18 (by decide) ?_
    exact J_zret dX0_stands_19
theorem okX0_stands (G : Gx) (l : Launch) (l0 : Nat) (l1 : Nat) (l2 : Int32) (M : Mem) : Con G l yX0_stands cX0_stands 4 (some .boolean) 1 20 (fun v : Int32 => some (.int v)) [.ref (adr G l0), .ref (adr G l1), .int l2] M (fX0_stands l0 l1 l2 M) := con_of (own := RX0) (nm := "stands") (by decide +kernel) rfl rfl (Nat.le_of_ble_eq_true rfl) (jX0_stands G l l0 l1 l2 M)
theorem mkX0_stands : MOk yX0_stands cX0_stands 4 (some .boolean) 2 := ⟨w_48, tb1 (List.mem_of_getElem? (i := 9) rfl) rfl, by decide +kernel, by decide +kernel, by decide +kernel⟩
-- X5_number
def fX5_number_41 (k5 : Nat → Int32 → Int32 → Int64 → Int32 → Mem → Option (Int64 × Mem)) (l0 : Nat) (l1 : Int32) (l2 : Int32) (l5 : Int32) (s0 : Int32) (s1 : Int64) (M : Mem) : Option (Int64 × Mem) := k5 l0 l1 l2 (s1 ||| s0.toInt64) (l5 + (1 : Int32)) M
set_option maxHeartbeats 4000000 in
set_option maxRecDepth 100000 in
theorem jX5_number_41 (G : Gx) (l : Launch) (k5 : Nat → Int32 → Int32 → Int64 → Int32 → Mem → Option (Int64 × Mem)) (h5 : ∀ (l0 : Nat) (l1 : Int32) (l2 : Int32) (l3 : Int64) (l5 : Int32) (M : Mem), J G l cX5_number 6 RX5 (some .long) "number" 1 20 (QM G (fun v : Int64 => some (.long v))) 5 [(0, .ref (adr G l0)), (1, .int l1), (2, .int l2), (3, .long l3), (5, .int l5)] [] M (k5 l0 l1 l2 l3 l5 M)) (l0 : Nat) (l1 : Int32) (l2 : Int32) (l5 : Int32) (s0 : Int32) (s1 : Int64) (M : Mem) : J G l cX5_number 6 RX5 (some .long) "number" 1 20 (QM G (fun v : Int64 => some (.long v))) 41 [(0, .ref (adr G l0)), (1, .int l1), (2, .int l2), (5, .int l5)] [.int s0, .long s1] M (fX5_number_41 k5 l0 l1 l2 l5 s0 s1 M) := by
  unfold fX5_number_41
  refine J_i2l dX5_number_41 ?_
  refine J_lor dX5_number_42 ?_
  refine J_lstore_n (lv' := [(3, .long _), (0, .ref _), (1, .int _), (2, .int _), (5, .int _)]) dX5_number_43 (by decide) rfl ?_
  refine J_iincK (z := 1) (lv' := [(5, .int _), (3, .long _), (0, .ref _), (1, .int _), (2, .int _)]) dX5_number_44 4 rfl (by decide) (by decide) rfl ?_
  refine J_goto (tgt := 5) dX5_number_47 (by decide) ?_
  refine J_sub [2, 3, 4, 1, 0] rfl ?_
  exact h5 _ _ _ _ _ _
def fX5_number_5  : Nat → Nat → Int32 → Int32 → Int64 → Int32 → Mem → Option (Int64 × Mem)
  | 0, _, _, _, _, _, _ => none
  | n + 1, l0, l1, l2, l3, l5, M => (if (l1 + l2) ≤ l5 then some (l3, M) else (cV M 5 l0 (fX5_size l0 M) fun v2 M1 => (if v2 ≤ l5 then fX5_number_41 (fX5_number_5  n) l0 l1 l2 l5 (0 : Int32) (yshl l3 (8 : Int32)) M1 else (gR M1 5 0 l0 fun r3 => (rI M1 .byte r3 l5 fun v4 => fX5_number_41 (fX5_number_5  n) l0 l1 l2 l5 (v4 &&& (255 : Int32)) (yshl l3 (8 : Int32)) M1)))))
set_option maxHeartbeats 4000000 in
set_option maxRecDepth 100000 in
theorem jX5_number_5 (G : Gx) (l : Launch)   : ∀ (n : Nat) (l0 : Nat) (l1 : Int32) (l2 : Int32) (l3 : Int64) (l5 : Int32) (M : Mem), J G l cX5_number 6 RX5 (some .long) "number" 1 20 (QM G (fun v : Int64 => some (.long v))) 5 [(0, .ref (adr G l0)), (1, .int l1), (2, .int l2), (3, .long l3), (5, .int l5)] [] M (fX5_number_5  n l0 l1 l2 l3 l5 M) := by
  intro n
  induction n with
  | zero => intro l0 l1 l2 l3 l5 M; exact J_none
  | succ n ih =>
    intro l0 l1 l2 l3 l5 M
    rw [fX5_number_5]
    refine J_iload dX5_number_5 4 rfl ?_
    refine J_iload_n dX5_number_7 1 rfl ?_
    refine J_iload_n dX5_number_8 2 rfl ?_
    refine J_iadd dX5_number_9 ?_
    refine J_icmp_ge (tgt := 50) dX5_number_10 (by decide) ?_ ?_
    · refine J_lload_n dX5_number_50 3 rfl ?_
      exact J_lret dX5_number_51
    · refine J_lload_n dX5_number_13 3 rfl ?_
      refine J_bipush (v := 8) dX5_number_14 (by decide) ?_
      refine J_lshlK dX5_number_16 ?_
      refine J_iload dX5_number_17 4 rfl ?_
      refine J_aload_n dX5_number_19 0 rfl ?_
      refine J_callVi (okX5_size G l _ _) mkX5_size _ _ rfl w_52 w_46 w_47 ⟨by decide, by decide⟩ rfl (Nat.le_of_ble_eq_true rfl) dX5_number_20 (fun v2 M1 => ?_)
      refine J_icmp_ge (tgt := 40) dX5_number_23 (by decide) ?_ ?_
      · refine J_iconst (v := 0) dX5_number_40 (by decide) ?_
        refine J_sub [0, 1, 2, 4] rfl ?_
        exact jX5_number_41 G l _ ih _ _ _ _ _ _ _
      · refine J_aload_n dX5_number_26 0 rfl ?_
        refine J_getR fd_5_0 w_53 rfl dX5_number_27 (fun r3 => ?_)
        refine J_iload dX5_number_30 4 rfl ?_
        refine J_bald dX5_number_32 ?_
        refine J_sipush (v := 255) dX5_number_33 (by decide) ?_
        refine J_iand dX5_number_36 ?_
        refine J_goto (tgt := 41) dX5_number_37 (by decide) ?_
        refine J_sub [0, 1, 2, 4] rfl ?_
        exact jX5_number_41 G l _ ih _ _ _ _ _ _ _
def fX5_number (l0 : Nat) (l1 : Int32) (l2 : Int32) (M : Mem) : Option (Int64 × Mem) := fX5_number_5  FU l0 l1 l2 (0 : Int64) l1 M
set_option maxHeartbeats 4000000 in
set_option maxRecDepth 100000 in
theorem jX5_number (G : Gx) (l : Launch) (l0 : Nat) (l1 : Int32) (l2 : Int32) (M : Mem) : J G l cX5_number 6 RX5 (some .long) "number" 1 20 (QM G (fun v : Int64 => some (.long v))) 0 [(0, .ref (adr G l0)), (1, .int l1), (2, .int l2)] [] M (fX5_number l0 l1 l2 M) := by
  unfold fX5_number
  refine J_lconst (v := 0) dX5_number_0 (by decide) ?_
  refine J_lstore_n (lv' := [(3, .long _), (0, .ref _), (1, .int _), (2, .int _)]) dX5_number_1 (by decide) rfl ?_
  refine J_iload_n dX5_number_2 2 rfl ?_
  refine J_istore (lv' := [(5, .int _), (3, .long _), (0, .ref _), (1, .int _), (2, .int _)]) dX5_number_3 (by decide) rfl ?_
  refine J_sub [2, 3, 4, 1, 0] rfl ?_
  exact jX5_number_5 G l   FU _ _ _ _ _ _
theorem okX5_number (G : Gx) (l : Launch) (l0 : Nat) (l1 : Int32) (l2 : Int32) (M : Mem) : Con G l yX5_number cX5_number 6 (some .long) 1 20 (fun v : Int64 => some (.long v)) [.ref (adr G l0), .int l1, .int l2] M (fX5_number l0 l1 l2 M) := con_of (own := RX5) (nm := "number") (by decide +kernel) rfl rfl (Nat.le_of_ble_eq_true rfl) (jX5_number G l l0 l1 l2 M)
theorem mkX5_number : MOk yX5_number cX5_number 6 (some .long) 2 := ⟨w_54, tb1 (List.mem_of_getElem? (i := 5) rfl) rfl, by decide +kernel, by decide +kernel, by decide +kernel⟩
-- X1_add
def fX1_add_47 (k5 : Nat → Int64 → Int32 → Mem → Option (Unit × Mem)) (l0 : Nat) (l1 : Int64) (l4 : Int32) (M : Mem) : Option (Unit × Mem) := k5 l0 l1 (l4 + (-1 : Int32)) M
set_option maxHeartbeats 4000000 in
set_option maxRecDepth 100000 in
theorem jX1_add_47 (G : Gx) (l : Launch) (k5 : Nat → Int64 → Int32 → Mem → Option (Unit × Mem)) (h5 : ∀ (l0 : Nat) (l1 : Int64) (l4 : Int32) (M : Mem), J G l cX1_add 5 RX1 none "add" 0 0 (QM G (fun _ : Unit => none)) 5 [(0, .ref (adr G l0)), (1, .long l1), (4, .int l4)] [] M (k5 l0 l1 l4 M)) (l0 : Nat) (l1 : Int64) (l4 : Int32) (M : Mem) : J G l cX1_add 5 RX1 none "add" 0 0 (QM G (fun _ : Unit => none)) 47 [(0, .ref (adr G l0)), (1, .long l1), (4, .int l4)] [] M (fX1_add_47 k5 l0 l1 l4 M) := by
  unfold fX1_add_47
  refine J_iincK (z := -1) (lv' := [(4, .int _), (0, .ref _), (1, .long _)]) dX1_add_47 2 rfl (by decide) (by decide) rfl ?_
  refine J_goto (tgt := 5) dX1_add_50 (by decide) ?_
  refine J_sub [1, 2, 0] rfl ?_
  exact h5 _ _ _ _
def fX1_add_5  : Nat → Nat → Int64 → Int32 → Mem → Option (Unit × Mem)
  | 0, _, _, _, _ => none
  | n + 1, l0, l1, l4, M => (if l4 < 0 then some ((), M) else (gI M 1 1 l0 fun v1 => (if (82 : Int32) ≤ v1 then fX1_add_47 (fX1_add_5  n) l0 l1 l4 M else (gR M 1 0 l0 fun r2 => (gI M 1 1 l0 fun v3 => (wI M .byte r2 v3 (yushr l1 ((8 : Int32) * l4)).toInt32.toInt8.toInt32 fun M4 => (gI M4 1 1 l0 fun v5 => (pI M4 1 1 l0 (v5 + (1 : Int32)) fun M6 => fX1_add_47 (fX1_add_5  n) l0 l1 l4 M6))))))))
set_option maxHeartbeats 4000000 in
set_option maxRecDepth 100000 in
theorem jX1_add_5 (G : Gx) (l : Launch)   : ∀ (n : Nat) (l0 : Nat) (l1 : Int64) (l4 : Int32) (M : Mem), J G l cX1_add 5 RX1 none "add" 0 0 (QM G (fun _ : Unit => none)) 5 [(0, .ref (adr G l0)), (1, .long l1), (4, .int l4)] [] M (fX1_add_5  n l0 l1 l4 M) := by
  intro n
  induction n with
  | zero => intro l0 l1 l4 M; exact J_none
  | succ n ih =>
    intro l0 l1 l4 M
    rw [fX1_add_5]
    refine J_iload dX1_add_5 2 rfl ?_
    refine J_if_lt (tgt := 53) dX1_add_7 (by decide) ?_ ?_
    · exact J_vret dX1_add_53
    · refine J_aload_n dX1_add_10 0 rfl ?_
      refine J_getI fd_1_1 w_60 rfl dX1_add_11 ?_
      refine J_bipush (v := 82) dX1_add_14 (by decide) ?_
      refine J_icmp_ge (tgt := 47) dX1_add_16 (by decide) ?_ ?_
      · refine J_sub [0, 1, 2] rfl ?_
        exact jX1_add_47 G l _ ih _ _ _ _
      · refine J_aload_n dX1_add_19 0 rfl ?_
        refine J_getR fd_1_0 w_21 rfl dX1_add_20 (fun r2 => ?_)
        refine J_aload_n dX1_add_23 0 rfl ?_
        refine J_getI fd_1_1 w_60 rfl dX1_add_24 ?_
        refine J_lload_n dX1_add_27 1 rfl ?_
        refine J_bipush (v := 8) dX1_add_28 (by decide) ?_
        refine J_iload dX1_add_30 2 rfl ?_
        refine J_imul dX1_add_32 ?_
        refine J_lushrK dX1_add_33 ?_
        refine J_l2i dX1_add_34 ?_
        refine J_i2b dX1_add_35 ?_
        refine J_bast dX1_add_36 ?_
        refine J_aload_n dX1_add_37 0 rfl ?_
        refine J_dup dX1_add_38 rfl ?_
        refine J_getI fd_1_1 w_60 rfl dX1_add_39 ?_
        refine J_iconst (v := 1) dX1_add_42 (by decide) ?_
        refine J_iadd dX1_add_43 ?_
        refine J_putI fd_1_1 w_60 dX1_add_44 ?_
        refine J_sub [0, 1, 2] rfl ?_
        exact jX1_add_47 G l _ ih _ _ _ _
def fX1_add (l0 : Nat) (l1 : Int64) (l3 : Int32) (M : Mem) : Option (Unit × Mem) := fX1_add_5  FU l0 l1 (l3 - (1 : Int32)) M
set_option maxHeartbeats 4000000 in
set_option maxRecDepth 100000 in
theorem jX1_add (G : Gx) (l : Launch) (l0 : Nat) (l1 : Int64) (l3 : Int32) (M : Mem) : J G l cX1_add 5 RX1 none "add" 0 0 (QM G (fun _ : Unit => none)) 0 [(0, .ref (adr G l0)), (1, .long l1), (3, .int l3)] [] M (fX1_add l0 l1 l3 M) := by
  unfold fX1_add
  refine J_iload_n dX1_add_0 2 rfl ?_
  refine J_iconst (v := 1) dX1_add_1 (by decide) ?_
  refine J_isub dX1_add_2 ?_
  refine J_istore (lv' := [(4, .int _), (0, .ref _), (1, .long _), (3, .int _)]) dX1_add_3 (by decide) rfl ?_
  refine J_sub [1, 2, 0] rfl ?_
  exact jX1_add_5 G l   FU _ _ _ _
theorem okX1_add (G : Gx) (l : Launch) (l0 : Nat) (l1 : Int64) (l3 : Int32) (M : Mem) : Con G l yX1_add cX1_add 5 none 0 0 (fun _ : Unit => none) [.ref (adr G l0), .long l1, .int l3] M (fX1_add l0 l1 l3 M) := con_of (own := RX1) (nm := "add") (by decide +kernel) rfl rfl (Nat.le_of_ble_eq_true rfl) (jX1_add G l l0 l1 l3 M)
theorem mkX1_add : MOk yX1_add cX1_add 5 none 2 := ⟨w_61, tb1 (List.mem_of_getElem? (i := 3) rfl) rfl, by decide +kernel, by decide +kernel, by decide +kernel⟩
-- X1_begin
def fX1_begin (l0 : Nat) (l1 : Int32) (M : Mem) : Option (Unit × Mem) := (pI M 1 1 l0 (0 : Int32) fun M1 => (cV M1 1 l0 (fX1_add l0 l1.toInt64 (1 : Int32) M1) fun _u3 M2 => some ((), M2)))
set_option maxHeartbeats 4000000 in
set_option maxRecDepth 100000 in
theorem jX1_begin (G : Gx) (l : Launch) (l0 : Nat) (l1 : Int32) (M : Mem) : J G l cX1_begin 2 RX1 none "begin" 1 24 (QM G (fun _ : Unit => none)) 0 [(0, .ref (adr G l0)), (1, .int l1)] [] M (fX1_begin l0 l1 M) := by
  unfold fX1_begin
  refine J_aload_n dX1_begin_0 0 rfl ?_
  refine J_iconst (v := 0) dX1_begin_1 (by decide) ?_
  refine J_putI fd_1_1 w_60 dX1_begin_2 ?_
  refine J_aload_n dX1_begin_5 0 rfl ?_
  refine J_iload_n dX1_begin_6 1 rfl ?_
  refine J_i2l dX1_begin_7 ?_
  refine J_iconst (v := 1) dX1_begin_8 (by decide) ?_
  refine J_callVv (okX1_add G l _ _ _ _) mkX1_add _ _ rfl w_62 w_63 w_64 ⟨by decide, by decide⟩ rfl (Nat.le_of_ble_eq_true rfl) dX1_begin_9 (fun _u3 M2 => ?_)
  exact J_vret dX1_begin_12
theorem okX1_begin (G : Gx) (l : Launch) (l0 : Nat) (l1 : Int32) (M : Mem) : Con G l yX1_begin cX1_begin 2 none 1 24 (fun _ : Unit => none) [.ref (adr G l0), .int l1] M (fX1_begin l0 l1 M) := con_of (own := RX1) (nm := "begin") (by decide +kernel) rfl rfl (Nat.le_of_ble_eq_true rfl) (jX1_begin G l l0 l1 M)
theorem mkX1_begin : MOk yX1_begin cX1_begin 2 none 1 := ⟨w_65, tb1 (List.mem_of_getElem? (i := 3) rfl) rfl, by decide +kernel, by decide +kernel, by decide +kernel⟩
-- X3_append
def fX3_append (l0 : Nat) (l1 : Int64) (M : Mem) : Option (Int32 × Mem) := (gI M 3 12 l0 fun v1 => (gR M 3 13 l0 fun r2 => (gR M 1 0 r2 fun r3 => (gR M 3 5 l0 fun r4 => (gR M 3 6 l0 fun r5 => (rI M .int r5 v1 fun v6 => (gR M 3 13 l0 fun r7 => (gI M 1 1 r7 fun v8 => (cpI M .byte r3 (0 : Int32) r4 v6 v8 fun M9 => (gR M9 3 6 l0 fun r10 => (gR M9 3 6 l0 fun r11 => (rI M9 .int r11 v1 fun v12 => (gR M9 3 13 l0 fun r13 => (gI M9 1 1 r13 fun v14 => (wI M9 .int r10 (v1 + (1 : Int32)) (v12 + v14) fun M15 => (gR M15 3 7 l0 fun r16 => (wJ M15 r16 v1 l1 fun M17 => (gR M17 3 8 l0 fun r18 => (wI M17 .int r18 v1 (-1 : Int32) fun M19 => (gR M19 3 9 l0 fun r20 => (wI M19 .int r20 v1 (0 : Int32) fun M21 => (gI M21 3 12 l0 fun v22 => (pI M21 3 12 l0 (v22 + (1 : Int32)) fun M23 => some (v1, M23))))))))))))))))))))))))
set_option maxHeartbeats 4000000 in
set_option maxRecDepth 100000 in
theorem jX3_append (G : Gx) (l : Launch) (l0 : Nat) (l1 : Int64) (M : Mem) : J G l cX3_append 4 RX3 (some .int) "append" 1 18 (QM G (fun v : Int32 => some (.int v))) 0 [(0, .ref (adr G l0)), (1, .long l1)] [] M (fX3_append l0 l1 M) := by
  unfold fX3_append
  refine J_aload_n dX3_append_0 0 rfl ?_
  refine J_getI fd_3_12 w_58 rfl dX3_append_1 ?_
  refine J_istore_n (lv' := [(3, .int _), (0, .ref _), (1, .long _)]) dX3_append_4 (by decide) rfl ?_
  refine J_aload_n dX3_append_5 1 rfl ?_
  refine J_getR fd_3_13 w_24 rfl dX3_append_6 (fun r2 => ?_)
  refine J_getR fd_1_0 w_70 rfl dX3_append_9 (fun r3 => ?_)
  refine J_iconst (v := 0) dX3_append_12 (by decide) ?_
  refine J_aload_n dX3_append_13 1 rfl ?_
  refine J_getR fd_3_5 w_11 rfl dX3_append_14 (fun r4 => ?_)
  refine J_aload_n dX3_append_17 1 rfl ?_
  refine J_getR fd_3_6 w_13 rfl dX3_append_18 (fun r5 => ?_)
  refine J_iload_n dX3_append_21 0 rfl ?_
  refine J_iald dX3_append_22 ?_
  refine J_aload_n dX3_append_23 1 rfl ?_
  refine J_getR fd_3_13 w_24 rfl dX3_append_24 (fun r7 => ?_)
  refine J_getI fd_1_1 w_71 rfl dX3_append_27 ?_
  refine J_copyI (ty := .byte) (t0 := 1) (fun _ _ _ _ => rfl) (fun _ _ _ => rfl) rfl w_72 w_73 w_74 w_75 ⟨by decide, Nat.le_of_ble_eq_true rfl⟩ dX3_append_30 ?_
  refine J_aload_n dX3_append_33 1 rfl ?_
  refine J_getR fd_3_6 w_13 rfl dX3_append_34 (fun r10 => ?_)
  refine J_iload_n dX3_append_37 0 rfl ?_
  refine J_iconst (v := 1) dX3_append_38 (by decide) ?_
  refine J_iadd dX3_append_39 ?_
  refine J_aload_n dX3_append_40 1 rfl ?_
  refine J_getR fd_3_6 w_13 rfl dX3_append_41 (fun r11 => ?_)
  refine J_iload_n dX3_append_44 0 rfl ?_
  refine J_iald dX3_append_45 ?_
  refine J_aload_n dX3_append_46 1 rfl ?_
  refine J_getR fd_3_13 w_24 rfl dX3_append_47 (fun r13 => ?_)
  refine J_getI fd_1_1 w_71 rfl dX3_append_50 ?_
  refine J_iadd dX3_append_53 ?_
  refine J_iast dX3_append_54 ?_
  refine J_aload_n dX3_append_55 1 rfl ?_
  refine J_getR fd_3_7 w_14 rfl dX3_append_56 (fun r16 => ?_)
  refine J_iload_n dX3_append_59 0 rfl ?_
  refine J_lload_n dX3_append_60 2 rfl ?_
  refine J_last dX3_append_61 ?_
  refine J_aload_n dX3_append_62 1 rfl ?_
  refine J_getR fd_3_8 w_15 rfl dX3_append_63 (fun r18 => ?_)
  refine J_iload_n dX3_append_66 0 rfl ?_
  refine J_iconst (v := -1) dX3_append_67 (by decide) ?_
  refine J_iast dX3_append_68 ?_
  refine J_aload_n dX3_append_69 1 rfl ?_
  refine J_getR fd_3_9 w_16 rfl dX3_append_70 (fun r20 => ?_)
  refine J_iload_n dX3_append_73 0 rfl ?_
  refine J_iconst (v := 0) dX3_append_74 (by decide) ?_
  refine J_iast dX3_append_75 ?_
  refine J_aload_n dX3_append_76 1 rfl ?_
  refine J_dup dX3_append_77 rfl ?_
  refine J_getI fd_3_12 w_58 rfl dX3_append_78 ?_
  refine J_iconst (v := 1) dX3_append_81 (by decide) ?_
  refine J_iadd dX3_append_82 ?_
  refine J_putI fd_3_12 w_58 dX3_append_83 ?_
  refine J_iload_n dX3_append_86 0 rfl ?_
  exact J_iret dX3_append_87
theorem okX3_append (G : Gx) (l : Launch) (l0 : Nat) (l1 : Int64) (M : Mem) : Con G l yX3_append cX3_append 4 (some .int) 1 18 (fun v : Int32 => some (.int v)) [.ref (adr G l0), .long l1] M (fX3_append l0 l1 M) := con_of (own := RX3) (nm := "append") (by decide +kernel) rfl rfl (Nat.le_of_ble_eq_true rfl) (jX3_append G l l0 l1 M)
theorem mkX3_append : MOk yX3_append cX3_append 4 (some .int) 1 := ⟨w_76, tb1 (List.mem_of_getElem? (i := 2) rfl) rfl, by decide +kernel, by decide +kernel, by decide +kernel⟩
-- X3_addAccount
def fX3_addAccount (l0 : Nat) (l1 : Int64) (M : Mem) : Option (Int32 × Mem) := (if l1 ≤ (0 : Int64) then (gI M 3 12 l0 fun v1 => (if v1 < (200 : Int32) then (gI M 3 4 l0 fun v2 => (if v2 < (40 : Int32) then (gI M 3 4 l0 fun v3 => (gR M 3 0 l0 fun r4 => (wJ M r4 v3 l1 fun M5 => (gR M5 3 1 l0 fun r6 => (wJ M5 r6 v3 (0 : Int64) fun M7 => (gR M7 3 2 l0 fun r8 => (wJ M7 r8 v3 (0 : Int64) fun M9 => (gI M9 3 4 l0 fun v10 => (pI M9 3 4 l0 (v10 + (1 : Int32)) fun M11 => (gR M11 3 13 l0 fun r12 => (cV M11 1 r12 (fX1_begin r12 (1 : Int32) M11) fun _u14 M13 => (gR M13 3 13 l0 fun r15 => (cV M13 1 r15 (fX1_add r15 l1 (8 : Int32) M13) fun _u17 M16 => (cV M16 3 l0 (fX3_append l0 (0 : Int64) M16) fun v19 M18 => some (v3, M18))))))))))))))) else some ((-1 : Int32), M))) else some ((-8 : Int32), M))) else some ((-6 : Int32), M))
set_option maxHeartbeats 4000000 in
set_option maxRecDepth 100000 in
theorem jX3_addAccount (G : Gx) (l : Launch) (l0 : Nat) (l1 : Int64) (M : Mem) : J G l cX3_addAccount 4 RX3 (some .int) "addAccount" 2 45 (QM G (fun v : Int32 => some (.int v))) 0 [(0, .ref (adr G l0)), (1, .long l1)] [] M (fX3_addAccount l0 l1 M) := by
  unfold fX3_addAccount
  refine J_lload_n dX3_addAccount_0 1 rfl ?_
  refine J_lconst (v := 0) dX3_addAccount_1 (by decide) ?_
  refine J_lcmp_le (tgt := 9) dX3_addAccount_2 dX3_addAccount_3 (by decide) ?_ ?_
  · refine J_aload_n dX3_addAccount_9 0 rfl ?_
    refine J_getI fd_3_12 w_58 rfl dX3_addAccount_10 ?_
    refine J_sipush (v := 200) dX3_addAccount_13 (by decide) ?_
    refine J_icmp_lt (tgt := 22) dX3_addAccount_16 (by decide) ?_ ?_
    · refine J_aload_n dX3_addAccount_22 0 rfl ?_
      refine J_getI fd_3_4 w_59 rfl dX3_addAccount_23 ?_
      refine J_bipush (v := 40) dX3_addAccount_26 (by decide) ?_
      refine J_icmp_lt (tgt := 33) dX3_addAccount_28 (by decide) ?_ ?_
      · refine J_aload_n dX3_addAccount_33 0 rfl ?_
        refine J_getI fd_3_4 w_59 rfl dX3_addAccount_34 ?_
        refine J_istore_n (lv' := [(3, .int _), (0, .ref _), (1, .long _)]) dX3_addAccount_37 (by decide) rfl ?_
        refine J_aload_n dX3_addAccount_38 1 rfl ?_
        refine J_getR fd_3_0 w_6 rfl dX3_addAccount_39 (fun r4 => ?_)
        refine J_iload_n dX3_addAccount_42 0 rfl ?_
        refine J_lload_n dX3_addAccount_43 2 rfl ?_
        refine J_last dX3_addAccount_44 ?_
        refine J_aload_n dX3_addAccount_45 1 rfl ?_
        refine J_getR fd_3_1 w_7 rfl dX3_addAccount_46 (fun r6 => ?_)
        refine J_iload_n dX3_addAccount_49 0 rfl ?_
        refine J_lconst (v := 0) dX3_addAccount_50 (by decide) ?_
        refine J_last dX3_addAccount_51 ?_
        refine J_aload_n dX3_addAccount_52 1 rfl ?_
        refine J_getR fd_3_2 w_8 rfl dX3_addAccount_53 (fun r8 => ?_)
        refine J_iload_n dX3_addAccount_56 0 rfl ?_
        refine J_lconst (v := 0) dX3_addAccount_57 (by decide) ?_
        refine J_last dX3_addAccount_58 ?_
        refine J_aload_n dX3_addAccount_59 1 rfl ?_
        refine J_dup dX3_addAccount_60 rfl ?_
        refine J_getI fd_3_4 w_59 rfl dX3_addAccount_61 ?_
        refine J_iconst (v := 1) dX3_addAccount_64 (by decide) ?_
        refine J_iadd dX3_addAccount_65 ?_
        refine J_putI fd_3_4 w_59 dX3_addAccount_66 ?_
        refine J_aload_n dX3_addAccount_69 1 rfl ?_
        refine J_getR fd_3_13 w_24 rfl dX3_addAccount_70 (fun r12 => ?_)
        refine J_iconst (v := 1) dX3_addAccount_73 (by decide) ?_
        refine J_callVv (okX1_begin G l _ _ _) mkX1_begin _ _ rfl w_66 w_67 w_68 ⟨by decide, by decide⟩ rfl (Nat.le_of_ble_eq_true rfl) dX3_addAccount_74 (fun _u14 M13 => ?_)
        refine J_aload_n dX3_addAccount_77 1 rfl ?_
        refine J_getR fd_3_13 w_24 rfl dX3_addAccount_78 (fun r15 => ?_)
        refine J_lload_n dX3_addAccount_81 2 rfl ?_
        refine J_bipush (v := 8) dX3_addAccount_82 (by decide) ?_
        refine J_callVv (okX1_add G l _ _ _ _) mkX1_add _ _ rfl w_69 w_63 w_64 ⟨by decide, by decide⟩ rfl (Nat.le_of_ble_eq_true rfl) dX3_addAccount_84 (fun _u17 M16 => ?_)
        refine J_aload_n dX3_addAccount_87 1 rfl ?_
        refine J_lconst (v := 0) dX3_addAccount_88 (by decide) ?_
        refine J_callVi (okX3_append G l _ _ _) mkX3_append _ _ rfl w_77 w_78 w_79 ⟨by decide, by decide⟩ rfl (Nat.le_of_ble_eq_true rfl) dX3_addAccount_89 (fun v19 M18 => ?_)
        refine J_pop dX3_addAccount_92 rfl ?_
        refine J_iload_n dX3_addAccount_93 0 rfl ?_
        exact J_iret dX3_addAccount_94
      · refine J_iconst (v := -1) dX3_addAccount_31 (by decide) ?_
        exact J_iret dX3_addAccount_32
    · refine J_bipush (v := -8) dX3_addAccount_19 (by decide) ?_
      exact J_iret dX3_addAccount_21
  · refine J_bipush (v := -6) dX3_addAccount_6 (by decide) ?_
    exact J_iret dX3_addAccount_8
theorem okX3_addAccount (G : Gx) (l : Launch) (l0 : Nat) (l1 : Int64) (M : Mem) : Con G l yX3_addAccount cX3_addAccount 4 (some .int) 2 45 (fun v : Int32 => some (.int v)) [.ref (adr G l0), .long l1] M (fX3_addAccount l0 l1 M) := con_of (own := RX3) (nm := "addAccount") (by decide +kernel) rfl rfl (Nat.le_of_ble_eq_true rfl) (jX3_addAccount G l l0 l1 M)
theorem mkX3_addAccount : MOk yX3_addAccount cX3_addAccount 4 (some .int) 1 := ⟨w_80, tb1 (List.mem_of_getElem? (i := 2) rfl) rfl, by decide +kernel, by decide +kernel, by decide +kernel⟩
-- X8_isByte
def fX8_isByte_16  (s0 : Int32) (M : Mem) : Option (Int32 × Mem) := retZ s0 (some (s0, M))
set_option maxHeartbeats 4000000 in
set_option maxRecDepth 100000 in
theorem jX8_isByte_16 (G : Gx) (l : Launch)   (s0 : Int32) (M : Mem) : J G l cX8_isByte 1 RX8 (some .boolean) "isByte" 0 0 (QM G (fun v : Int32 => some (.int v))) 16 [] [.int s0] M (fX8_isByte_16  s0 M) := by
  unfold fX8_isByte_16
  exact J_zret dX8_isByte_16
def fX8_isByte_15   (M : Mem) : Option (Int32 × Mem) := fX8_isByte_16  (0 : Int32) M
set_option maxHeartbeats 4000000 in
set_option maxRecDepth 100000 in
theorem jX8_isByte_15 (G : Gx) (l : Launch)    (M : Mem) : J G l cX8_isByte 1 RX8 (some .boolean) "isByte" 0 0 (QM G (fun v : Int32 => some (.int v))) 15 [] [] M (fX8_isByte_15   M) := by
  unfold fX8_isByte_15
  refine J_iconst (v := 0) dX8_isByte_15 (by decide) ?_
  refine J_sub [] rfl ?_
  exact jX8_isByte_16 G l   _ _
def fX8_isByte (l0 : Int32) (M : Mem) : Option (Int32 × Mem) := (if l0 < 0 then fX8_isByte_15   M else (if (255 : Int32) < l0 then fX8_isByte_15   M else fX8_isByte_16  (1 : Int32) M))
set_option maxHeartbeats 4000000 in
set_option maxRecDepth 100000 in
theorem jX8_isByte (G : Gx) (l : Launch) (l0 : Int32) (M : Mem) : J G l cX8_isByte 1 RX8 (some .boolean) "isByte" 0 0 (QM G (fun v : Int32 => some (.int v))) 0 [(0, .int l0)] [] M (fX8_isByte l0 M) := by
  unfold fX8_isByte
  refine J_iload_n dX8_isByte_0 0 rfl ?_
  refine J_if_lt (tgt := 15) dX8_isByte_1 (by decide) ?_ ?_
  · refine J_sub [] rfl ?_
    exact jX8_isByte_15 G l    _
  · refine J_iload_n dX8_isByte_4 0 rfl ?_
    refine J_sipush (v := 255) dX8_isByte_5 (by decide) ?_
    refine J_icmp_gt (tgt := 15) dX8_isByte_8 (by decide) ?_ ?_
    · refine J_sub [] rfl ?_
      exact jX8_isByte_15 G l    _
    · refine J_iconst (v := 1) dX8_isByte_11 (by decide) ?_
      refine J_goto (tgt := 16) dX8_isByte_12 (by decide) ?_
      refine J_sub [] rfl ?_
      exact jX8_isByte_16 G l   _ _
theorem okX8_isByte (G : Gx) (l : Launch) (l0 : Int32) (M : Mem) : Con G l yX8_isByte cX8_isByte 1 (some .boolean) 0 0 (fun v : Int32 => some (.int v)) [.int l0] M (fX8_isByte l0 M) := con_of (own := RX8) (nm := "isByte") (by decide +kernel) rfl rfl (Nat.le_of_ble_eq_true rfl) (jX8_isByte G l l0 M)
theorem mkX8_isByte : MOk yX8_isByte cX8_isByte 1 (some .boolean) 1 := ⟨w_85, tb1 (List.mem_of_getElem? (i := 1) rfl) rfl, by decide +kernel, by decide +kernel, by decide +kernel⟩
-- X4_add
def fX4_add_30   (M : Mem) : Option (Int32 × Mem) := retZ (0 : Int32) (some ((0 : Int32), M))
set_option maxHeartbeats 4000000 in
set_option maxRecDepth 100000 in
theorem jX4_add_30 (G : Gx) (l : Launch)    (M : Mem) : J G l cX4_add 4 RX4 (some .boolean) "add" 1 20 (QM G (fun v : Int32 => some (.int v))) 30 [] [] M (fX4_add_30   M) := by
  unfold fX4_add_30
  refine J_iconst (v := 0) dX4_add_30 (by decide) ?_
  exact J_zret dX4_add_31
def fX4_add (l0 : Nat) (l1 : Int32) (l2 : Int64) (M : Mem) : Option (Int32 × Mem) := (gI M 4 2 l0 fun v1 => (if (8 : Int32) ≤ v1 then fX4_add_30   M else (bd (fX8_isByte l1 M) fun v3 M2 => (if v3 = 0 then fX4_add_30   M2 else (if l2 = (0 : Int64) then fX4_add_30   M2 else (if l2 = (-9223372036854775808 : Int64) then fX4_add_30   M2 else (gR M2 4 0 l0 fun r4 => (gI M2 4 2 l0 fun v5 => (wI M2 .int r4 v5 l1 fun M6 => (gR M6 4 1 l0 fun r7 => (gI M6 4 2 l0 fun v8 => (wJ M6 r7 v8 l2 fun M9 => (gI M9 4 2 l0 fun v10 => (pI M9 4 2 l0 (v10 + (1 : Int32)) fun M11 => retZ (1 : Int32) (some ((1 : Int32), M11))))))))))))))))
set_option maxHeartbeats 4000000 in
set_option maxRecDepth 100000 in
theorem jX4_add (G : Gx) (l : Launch) (l0 : Nat) (l1 : Int32) (l2 : Int64) (M : Mem) : J G l cX4_add 4 RX4 (some .boolean) "add" 1 20 (QM G (fun v : Int32 => some (.int v))) 0 [(0, .ref (adr G l0)), (1, .int l1), (2, .long l2)] [] M (fX4_add l0 l1 l2 M) := by
  unfold fX4_add
  refine J_aload_n dX4_add_0 0 rfl ?_
  refine J_getI fd_4_2 w_84 rfl dX4_add_1 ?_
  refine J_bipush (v := 8) dX4_add_4 (by decide) ?_
  refine J_icmp_ge (tgt := 30) dX4_add_6 (by decide) ?_ ?_
  · refine J_sub [] rfl ?_
    exact jX4_add_30 G l    _
  · refine J_iload_n dX4_add_9 1 rfl ?_
    refine J_callSNi (host := "ChainBooks") (okX8_isByte G l _ _) mkX8_isByte (List.mem_of_getElem? (i := 12) rfl) w_86 ⟨by decide, by decide⟩ rfl (Nat.le_of_ble_eq_true rfl) dX4_add_10 (fun v3 M2 => ?_)
    refine J_if_eq (tgt := 30) dX4_add_13 (by decide) ?_ ?_
    · refine J_sub [] rfl ?_
      exact jX4_add_30 G l    _
    · refine J_lload_n dX4_add_16 2 rfl ?_
      refine J_lconst (v := 0) dX4_add_17 (by decide) ?_
      refine J_lcmp_eq (tgt := 30) dX4_add_18 dX4_add_19 (by decide) ?_ ?_
      · refine J_sub [] rfl ?_
        exact jX4_add_30 G l    _
      · refine J_lload_n dX4_add_22 2 rfl ?_
        refine J_ldc2 (v := -9223372036854775808) dX4_add_23 w_87 ?_
        refine J_lcmp_ne (tgt := 32) dX4_add_26 dX4_add_27 (by decide) ?_ ?_
        · refine J_aload_n dX4_add_32 0 rfl ?_
          refine J_getR fd_4_0 w_27 rfl dX4_add_33 (fun r4 => ?_)
          refine J_aload_n dX4_add_36 0 rfl ?_
          refine J_getI fd_4_2 w_84 rfl dX4_add_37 ?_
          refine J_iload_n dX4_add_40 1 rfl ?_
          refine J_iast dX4_add_41 ?_
          refine J_aload_n dX4_add_42 0 rfl ?_
          refine J_getR fd_4_1 w_28 rfl dX4_add_43 (fun r7 => ?_)
          refine J_aload_n dX4_add_46 0 rfl ?_
          refine J_getI fd_4_2 w_84 rfl dX4_add_47 ?_
          refine J_lload_n dX4_add_50 2 rfl ?_
          refine J_last dX4_add_51 ?_
          refine J_aload_n dX4_add_52 0 rfl ?_
          refine J_dup dX4_add_53 rfl ?_
          refine J_getI fd_4_2 w_84 rfl dX4_add_54 ?_
          refine J_iconst (v := 1) dX4_add_57 (by decide) ?_
          refine J_iadd dX4_add_58 ?_
          refine J_putI fd_4_2 w_84 dX4_add_59 ?_
          refine J_iconst (v := 1) dX4_add_62 (by decide) ?_
          exact J_zret dX4_add_63
        · refine J_sub [] rfl ?_
          exact jX4_add_30 G l    _
theorem okX4_add (G : Gx) (l : Launch) (l0 : Nat) (l1 : Int32) (l2 : Int64) (M : Mem) : Con G l yX4_add cX4_add 4 (some .boolean) 1 20 (fun v : Int32 => some (.int v)) [.ref (adr G l0), .int l1, .long l2] M (fX4_add l0 l1 l2 M) := con_of (own := RX4) (nm := "add") (by decide +kernel) rfl rfl (Nat.le_of_ble_eq_true rfl) (jX4_add G l l0 l1 l2 M)
theorem mkX4_add : MOk yX4_add cX4_add 4 (some .boolean) 2 := ⟨w_88, tb1 (List.mem_of_getElem? (i := 4) rfl) rfl, by decide +kernel, by decide +kernel, by decide +kernel⟩
-- X0_readLegs
def fX0_readLegs_19  : Nat → Nat → Nat → Int32 → Int32 → Int32 → Mem → Option (Int32 × Mem)
  | 0, _, _, _, _, _, _ => none
  | n + 1, l0, l1, l2, l3, l4, M => (if l3 ≤ l4 then retZ (1 : Int32) (some ((1 : Int32), M)) else (gR M 0 1 l0 fun r1 => (cV M 5 l1 (fX5_number l1 ((l2 + (1 : Int32)) + ((9 : Int32) * l4)) (1 : Int32) M) fun v3 M2 => (cV M2 5 l1 (fX5_number l1 (((l2 + (1 : Int32)) + ((9 : Int32) * l4)) + (1 : Int32)) (8 : Int32) M2) fun v5 M4 => (cV M4 4 r1 (fX4_add r1 v3.toInt32 v5 M4) fun v7 M6 => (if v7 = 0 then retZ (0 : Int32) (some ((0 : Int32), M6)) else fX0_readLegs_19  n l0 l1 l2 l3 (l4 + (1 : Int32)) M6))))))
set_option maxHeartbeats 4000000 in
set_option maxRecDepth 100000 in
theorem jX0_readLegs_19 (G : Gx) (l : Launch)   : ∀ (n : Nat) (l0 : Nat) (l1 : Nat) (l2 : Int32) (l3 : Int32) (l4 : Int32) (M : Mem), J G l cX0_readLegs 6 RX0 (some .boolean) "readLegs" 2 45 (QM G (fun v : Int32 => some (.int v))) 19 [(0, .ref (adr G l0)), (1, .ref (adr G l1)), (2, .int l2), (3, .int l3), (4, .int l4)] [] M (fX0_readLegs_19  n l0 l1 l2 l3 l4 M) := by
  intro n
  induction n with
  | zero => intro l0 l1 l2 l3 l4 M; exact J_none
  | succ n ih =>
    intro l0 l1 l2 l3 l4 M
    rw [fX0_readLegs_19]
    refine J_iload dX0_readLegs_19 4 rfl ?_
    refine J_iload_n dX0_readLegs_21 3 rfl ?_
    refine J_icmp_ge (tgt := 72) dX0_readLegs_22 (by decide) ?_ ?_
    · refine J_iconst (v := 1) dX0_readLegs_72 (by decide) ?_
      exact J_zret dX0_readLegs_73
    · refine J_iload_n dX0_readLegs_25 2 rfl ?_
      refine J_iconst (v := 1) dX0_readLegs_26 (by decide) ?_
      refine J_iadd dX0_readLegs_27 ?_
      refine J_bipush (v := 9) dX0_readLegs_28 (by decide) ?_
      refine J_iload dX0_readLegs_30 4 rfl ?_
      refine J_imul dX0_readLegs_32 ?_
      refine J_iadd dX0_readLegs_33 ?_
      refine J_istore (lv' := [(5, .int _), (0, .ref _), (1, .ref _), (2, .int _), (3, .int _), (4, .int _)]) dX0_readLegs_34 (by decide) rfl ?_
      refine J_aload_n dX0_readLegs_36 1 rfl ?_
      refine J_getR fd_0_1 w_36 rfl dX0_readLegs_37 (fun r1 => ?_)
      refine J_aload_n dX0_readLegs_40 2 rfl ?_
      refine J_iload dX0_readLegs_41 0 rfl ?_
      refine J_iconst (v := 1) dX0_readLegs_43 (by decide) ?_
      refine J_callVl (okX5_number G l _ _ _ _) mkX5_number _ _ rfl w_55 w_56 w_57 ⟨by decide, by decide⟩ rfl (Nat.le_of_ble_eq_true rfl) dX0_readLegs_44 (fun v3 M2 => ?_)
      refine J_l2i dX0_readLegs_47 ?_
      refine J_aload_n dX0_readLegs_48 2 rfl ?_
      refine J_iload dX0_readLegs_49 0 rfl ?_
      refine J_iconst (v := 1) dX0_readLegs_51 (by decide) ?_
      refine J_iadd dX0_readLegs_52 ?_
      refine J_bipush (v := 8) dX0_readLegs_53 (by decide) ?_
      refine J_callVl (okX5_number G l _ _ _ _) mkX5_number _ _ rfl w_55 w_56 w_57 ⟨by decide, by decide⟩ rfl (Nat.le_of_ble_eq_true rfl) dX0_readLegs_55 (fun v5 M4 => ?_)
      refine J_callVi (okX4_add G l _ _ _ _) mkX4_add _ _ rfl w_89 w_90 w_91 ⟨by decide, by decide⟩ rfl (Nat.le_of_ble_eq_true rfl) dX0_readLegs_58 (fun v7 M6 => ?_)
      refine J_if_ne (tgt := 66) dX0_readLegs_61 (by decide) ?_ ?_
      · refine J_iincK (z := 1) (lv' := [(4, .int _), (5, .int _), (0, .ref _), (1, .ref _), (2, .int _), (3, .int _)]) dX0_readLegs_66 5 rfl (by decide) (by decide) rfl ?_
        refine J_goto (tgt := 19) dX0_readLegs_69 (by decide) ?_
        refine J_sub [2, 3, 4, 5, 0] rfl ?_
        exact ih _ _ _ _ _ _
      · refine J_iconst (v := 0) dX0_readLegs_64 (by decide) ?_
        exact J_zret dX0_readLegs_65
def fX0_readLegs (l0 : Nat) (l1 : Nat) (l2 : Int32) (M : Mem) : Option (Int32 × Mem) := (gR M 0 1 l0 fun r1 => (pI M 4 2 r1 (0 : Int32) fun M2 => (cV M2 5 l1 (fX5_number l1 l2 (1 : Int32) M2) fun v4 M3 => fX0_readLegs_19  FU l0 l1 l2 v4.toInt32 (0 : Int32) M3)))
set_option maxHeartbeats 4000000 in
set_option maxRecDepth 100000 in
theorem jX0_readLegs (G : Gx) (l : Launch) (l0 : Nat) (l1 : Nat) (l2 : Int32) (M : Mem) : J G l cX0_readLegs 6 RX0 (some .boolean) "readLegs" 2 45 (QM G (fun v : Int32 => some (.int v))) 0 [(0, .ref (adr G l0)), (1, .ref (adr G l1)), (2, .int l2)] [] M (fX0_readLegs l0 l1 l2 M) := by
  unfold fX0_readLegs
  refine J_aload_n dX0_readLegs_0 0 rfl ?_
  refine J_getR fd_0_1 w_36 rfl dX0_readLegs_1 (fun r1 => ?_)
  refine J_iconst (v := 0) dX0_readLegs_4 (by decide) ?_
  refine J_putI fd_4_2 w_92 dX0_readLegs_5 ?_
  refine J_aload_n dX0_readLegs_8 1 rfl ?_
  refine J_iload_n dX0_readLegs_9 2 rfl ?_
  refine J_iconst (v := 1) dX0_readLegs_10 (by decide) ?_
  refine J_callVl (okX5_number G l _ _ _ _) mkX5_number _ _ rfl w_55 w_56 w_57 ⟨by decide, by decide⟩ rfl (Nat.le_of_ble_eq_true rfl) dX0_readLegs_11 (fun v4 M3 => ?_)
  refine J_l2i dX0_readLegs_14 ?_
  refine J_istore_n (lv' := [(3, .int _), (0, .ref _), (1, .ref _), (2, .int _)]) dX0_readLegs_15 (by decide) rfl ?_
  refine J_iconst (v := 0) dX0_readLegs_16 (by decide) ?_
  refine J_istore (lv' := [(4, .int _), (3, .int _), (0, .ref _), (1, .ref _), (2, .int _)]) dX0_readLegs_17 (by decide) rfl ?_
  refine J_sub [2, 3, 4, 1, 0] rfl ?_
  exact jX0_readLegs_19 G l   FU _ _ _ _ _ _
theorem okX0_readLegs (G : Gx) (l : Launch) (l0 : Nat) (l1 : Nat) (l2 : Int32) (M : Mem) : Con G l yX0_readLegs cX0_readLegs 6 (some .boolean) 2 45 (fun v : Int32 => some (.int v)) [.ref (adr G l0), .ref (adr G l1), .int l2] M (fX0_readLegs l0 l1 l2 M) := con_of (own := RX0) (nm := "readLegs") (by decide +kernel) rfl rfl (Nat.le_of_ble_eq_true rfl) (jX0_readLegs G l l0 l1 l2 M)
theorem mkX0_readLegs : MOk yX0_readLegs cX0_readLegs 6 (some .boolean) 2 := ⟨w_93, tb1 (List.mem_of_getElem? (i := 9) rfl) rfl, by decide +kernel, by decide +kernel, by decide +kernel⟩
-- X3_isAsDrafted
def fX3_isAsDrafted_29  : Nat → Nat → Int32 → Int32 → Mem → Option (Int32 × Mem)
  | 0, _, _, _, _ => none
  | n + 1, l0, l1, l2, M => (gR M 3 13 l0 fun r1 => (gI M 1 1 r1 fun v2 => (if v2 ≤ l2 then retZ (1 : Int32) (some ((1 : Int32), M)) else (gR M 3 5 l0 fun r3 => (gR M 3 6 l0 fun r4 => (rI M .int r4 l1 fun v5 => (rI M .byte r3 (v5 + l2) fun v6 => (gR M 3 13 l0 fun r7 => (gR M 1 0 r7 fun r8 => (rI M .byte r8 l2 fun v9 => (if v6 = v9 then fX3_isAsDrafted_29  n l0 l1 (l2 + (1 : Int32)) M else retZ (0 : Int32) (some ((0 : Int32), M)))))))))))))
set_option maxHeartbeats 4000000 in
set_option maxRecDepth 100000 in
theorem jX3_isAsDrafted_29 (G : Gx) (l : Launch)   : ∀ (n : Nat) (l0 : Nat) (l1 : Int32) (l2 : Int32) (M : Mem), J G l cX3_isAsDrafted 3 RX3 (some .boolean) "isAsDrafted" 0 0 (QM G (fun v : Int32 => some (.int v))) 29 [(0, .ref (adr G l0)), (1, .int l1), (2, .int l2)] [] M (fX3_isAsDrafted_29  n l0 l1 l2 M) := by
  intro n
  induction n with
  | zero => intro l0 l1 l2 M; exact J_none
  | succ n ih =>
    intro l0 l1 l2 M
    rw [fX3_isAsDrafted_29]
    refine J_iload_n dX3_isAsDrafted_29 2 rfl ?_
    refine J_aload_n dX3_isAsDrafted_30 0 rfl ?_
    refine J_getR fd_3_13 w_24 rfl dX3_isAsDrafted_31 (fun r1 => ?_)
    refine J_getI fd_1_1 w_71 rfl dX3_isAsDrafted_34 ?_
    refine J_icmp_ge (tgt := 73) dX3_isAsDrafted_37 (by decide) ?_ ?_
    · refine J_iconst (v := 1) dX3_isAsDrafted_73 (by decide) ?_
      exact J_zret dX3_isAsDrafted_74
    · refine J_aload_n dX3_isAsDrafted_40 0 rfl ?_
      refine J_getR fd_3_5 w_11 rfl dX3_isAsDrafted_41 (fun r3 => ?_)
      refine J_aload_n dX3_isAsDrafted_44 0 rfl ?_
      refine J_getR fd_3_6 w_13 rfl dX3_isAsDrafted_45 (fun r4 => ?_)
      refine J_iload_n dX3_isAsDrafted_48 1 rfl ?_
      refine J_iald dX3_isAsDrafted_49 ?_
      refine J_iload_n dX3_isAsDrafted_50 2 rfl ?_
      refine J_iadd dX3_isAsDrafted_51 ?_
      refine J_bald dX3_isAsDrafted_52 ?_
      refine J_aload_n dX3_isAsDrafted_53 0 rfl ?_
      refine J_getR fd_3_13 w_24 rfl dX3_isAsDrafted_54 (fun r7 => ?_)
      refine J_getR fd_1_0 w_70 rfl dX3_isAsDrafted_57 (fun r8 => ?_)
      refine J_iload_n dX3_isAsDrafted_60 2 rfl ?_
      refine J_bald dX3_isAsDrafted_61 ?_
      refine J_icmp_eq (tgt := 67) dX3_isAsDrafted_62 (by decide) ?_ ?_
      · refine J_iincK (z := 1) (lv' := [(2, .int _), (0, .ref _), (1, .int _)]) dX3_isAsDrafted_67 2 rfl (by decide) (by decide) rfl ?_
        refine J_goto (tgt := 29) dX3_isAsDrafted_70 (by decide) ?_
        refine J_sub [1, 2, 0] rfl ?_
        exact ih _ _ _ _
      · refine J_iconst (v := 0) dX3_isAsDrafted_65 (by decide) ?_
        exact J_zret dX3_isAsDrafted_66
def fX3_isAsDrafted (l0 : Nat) (l1 : Int32) (M : Mem) : Option (Int32 × Mem) := (gR M 3 6 l0 fun r1 => (rI M .int r1 (l1 + (1 : Int32)) fun v2 => (gR M 3 6 l0 fun r3 => (rI M .int r3 l1 fun v4 => (gR M 3 13 l0 fun r5 => (gI M 1 1 r5 fun v6 => (if (v2 - v4) = v6 then fX3_isAsDrafted_29  FU l0 l1 (0 : Int32) M else retZ (0 : Int32) (some ((0 : Int32), M)))))))))
set_option maxHeartbeats 4000000 in
set_option maxRecDepth 100000 in
theorem jX3_isAsDrafted (G : Gx) (l : Launch) (l0 : Nat) (l1 : Int32) (M : Mem) : J G l cX3_isAsDrafted 3 RX3 (some .boolean) "isAsDrafted" 0 0 (QM G (fun v : Int32 => some (.int v))) 0 [(0, .ref (adr G l0)), (1, .int l1)] [] M (fX3_isAsDrafted l0 l1 M) := by
  unfold fX3_isAsDrafted
  refine J_aload_n dX3_isAsDrafted_0 0 rfl ?_
  refine J_getR fd_3_6 w_13 rfl dX3_isAsDrafted_1 (fun r1 => ?_)
  refine J_iload_n dX3_isAsDrafted_4 1 rfl ?_
  refine J_iconst (v := 1) dX3_isAsDrafted_5 (by decide) ?_
  refine J_iadd dX3_isAsDrafted_6 ?_
  refine J_iald dX3_isAsDrafted_7 ?_
  refine J_aload_n dX3_isAsDrafted_8 0 rfl ?_
  refine J_getR fd_3_6 w_13 rfl dX3_isAsDrafted_9 (fun r3 => ?_)
  refine J_iload_n dX3_isAsDrafted_12 1 rfl ?_
  refine J_iald dX3_isAsDrafted_13 ?_
  refine J_isub dX3_isAsDrafted_14 ?_
  refine J_aload_n dX3_isAsDrafted_15 0 rfl ?_
  refine J_getR fd_3_13 w_24 rfl dX3_isAsDrafted_16 (fun r5 => ?_)
  refine J_getI fd_1_1 w_71 rfl dX3_isAsDrafted_19 ?_
  refine J_icmp_eq (tgt := 27) dX3_isAsDrafted_22 (by decide) ?_ ?_
  · refine J_iconst (v := 0) dX3_isAsDrafted_27 (by decide) ?_
    refine J_istore_n (lv' := [(2, .int _), (0, .ref _), (1, .int _)]) dX3_isAsDrafted_28 (by decide) rfl ?_
    refine J_sub [1, 2, 0] rfl ?_
    exact jX3_isAsDrafted_29 G l   FU _ _ _ _
  · refine J_iconst (v := 0) dX3_isAsDrafted_25 (by decide) ?_
    exact J_zret dX3_isAsDrafted_26
theorem okX3_isAsDrafted (G : Gx) (l : Launch) (l0 : Nat) (l1 : Int32) (M : Mem) : Con G l yX3_isAsDrafted cX3_isAsDrafted 3 (some .boolean) 0 0 (fun v : Int32 => some (.int v)) [.ref (adr G l0), .int l1] M (fX3_isAsDrafted l0 l1 M) := con_of (own := RX3) (nm := "isAsDrafted") (by decide +kernel) rfl rfl (Nat.le_of_ble_eq_true rfl) (jX3_isAsDrafted G l l0 l1 M)
theorem mkX3_isAsDrafted : MOk yX3_isAsDrafted cX3_isAsDrafted 3 (some .boolean) 1 := ⟨w_98, tb1 (List.mem_of_getElem? (i := 2) rfl) rfl, by decide +kernel, by decide +kernel, by decide +kernel⟩
-- X3_answeredBefore
def fX3_answeredBefore_35  (s0 : Int32) (M : Mem) : Option (Int32 × Mem) := some (s0, M)
set_option maxHeartbeats 4000000 in
set_option maxRecDepth 100000 in
theorem jX3_answeredBefore_35 (G : Gx) (l : Launch)   (s0 : Int32) (M : Mem) : J G l cX3_answeredBefore 4 RX3 (some .int) "answeredBefore" 1 22 (QM G (fun v : Int32 => some (.int v))) 35 [] [.int s0] M (fX3_answeredBefore_35  s0 M) := by
  unfold fX3_answeredBefore_35
  exact J_iret dX3_answeredBefore_35
def fX3_answeredBefore_2  : Nat → Nat → Int64 → Int32 → Mem → Option (Int32 × Mem)
  | 0, _, _, _, _ => none
  | n + 1, l0, l1, l3, M => (gI M 3 12 l0 fun v1 => (if v1 ≤ l3 then some ((-1 : Int32), M) else (gR M 3 7 l0 fun r2 => (rJ M r2 l3 fun v3 => (if v3 = l1 then (cV M 3 l0 (fX3_isAsDrafted l0 l3 M) fun v5 M4 => (if v5 = 0 then fX3_answeredBefore_35  (-4 : Int32) M4 else fX3_answeredBefore_35  l3 M4)) else fX3_answeredBefore_2  n l0 l1 (l3 + (1 : Int32)) M)))))
set_option maxHeartbeats 4000000 in
set_option maxRecDepth 100000 in
theorem jX3_answeredBefore_2 (G : Gx) (l : Launch)   : ∀ (n : Nat) (l0 : Nat) (l1 : Int64) (l3 : Int32) (M : Mem), J G l cX3_answeredBefore 4 RX3 (some .int) "answeredBefore" 1 22 (QM G (fun v : Int32 => some (.int v))) 2 [(0, .ref (adr G l0)), (1, .long l1), (3, .int l3)] [] M (fX3_answeredBefore_2  n l0 l1 l3 M) := by
  intro n
  induction n with
  | zero => intro l0 l1 l3 M; exact J_none
  | succ n ih =>
    intro l0 l1 l3 M
    rw [fX3_answeredBefore_2]
    refine J_iload_n dX3_answeredBefore_2 2 rfl ?_
    refine J_aload_n dX3_answeredBefore_3 0 rfl ?_
    refine J_getI fd_3_12 w_58 rfl dX3_answeredBefore_4 ?_
    refine J_icmp_ge (tgt := 42) dX3_answeredBefore_7 (by decide) ?_ ?_
    · refine J_iconst (v := -1) dX3_answeredBefore_42 (by decide) ?_
      exact J_iret dX3_answeredBefore_43
    · refine J_aload_n dX3_answeredBefore_10 0 rfl ?_
      refine J_getR fd_3_7 w_14 rfl dX3_answeredBefore_11 (fun r2 => ?_)
      refine J_iload_n dX3_answeredBefore_14 2 rfl ?_
      refine J_lald dX3_answeredBefore_15 ?_
      refine J_lload_n dX3_answeredBefore_16 1 rfl ?_
      refine J_lcmp_ne (tgt := 36) dX3_answeredBefore_17 dX3_answeredBefore_18 (by decide) ?_ ?_
      · refine J_iincK (z := 1) (lv' := [(3, .int _), (0, .ref _), (1, .long _)]) dX3_answeredBefore_36 2 rfl (by decide) (by decide) rfl ?_
        refine J_goto (tgt := 2) dX3_answeredBefore_39 (by decide) ?_
        refine J_sub [1, 2, 0] rfl ?_
        exact ih _ _ _ _
      · refine J_aload_n dX3_answeredBefore_21 0 rfl ?_
        refine J_iload_n dX3_answeredBefore_22 2 rfl ?_
        refine J_callVi (okX3_isAsDrafted G l _ _ _) mkX3_isAsDrafted _ _ rfl w_99 w_100 w_101 ⟨by decide, by decide⟩ rfl (Nat.le_of_ble_eq_true rfl) dX3_answeredBefore_23 (fun v5 M4 => ?_)
        refine J_if_eq (tgt := 33) dX3_answeredBefore_26 (by decide) ?_ ?_
        · refine J_bipush (v := -4) dX3_answeredBefore_33 (by decide) ?_
          refine J_sub [] rfl ?_
          exact jX3_answeredBefore_35 G l   _ _
        · refine J_iload_n dX3_answeredBefore_29 2 rfl ?_
          refine J_goto (tgt := 35) dX3_answeredBefore_30 (by decide) ?_
          refine J_sub [] rfl ?_
          exact jX3_answeredBefore_35 G l   _ _
def fX3_answeredBefore (l0 : Nat) (l1 : Int64) (M : Mem) : Option (Int32 × Mem) := fX3_answeredBefore_2  FU l0 l1 (0 : Int32) M
set_option maxHeartbeats 4000000 in
set_option maxRecDepth 100000 in
theorem jX3_answeredBefore (G : Gx) (l : Launch) (l0 : Nat) (l1 : Int64) (M : Mem) : J G l cX3_answeredBefore 4 RX3 (some .int) "answeredBefore" 1 22 (QM G (fun v : Int32 => some (.int v))) 0 [(0, .ref (adr G l0)), (1, .long l1)] [] M (fX3_answeredBefore l0 l1 M) := by
  unfold fX3_answeredBefore
  refine J_iconst (v := 0) dX3_answeredBefore_0 (by decide) ?_
  refine J_istore_n (lv' := [(3, .int _), (0, .ref _), (1, .long _)]) dX3_answeredBefore_1 (by decide) rfl ?_
  refine J_sub [1, 2, 0] rfl ?_
  exact jX3_answeredBefore_2 G l   FU _ _ _ _
theorem okX3_answeredBefore (G : Gx) (l : Launch) (l0 : Nat) (l1 : Int64) (M : Mem) : Con G l yX3_answeredBefore cX3_answeredBefore 4 (some .int) 1 22 (fun v : Int32 => some (.int v)) [.ref (adr G l0), .long l1] M (fX3_answeredBefore l0 l1 M) := con_of (own := RX3) (nm := "answeredBefore") (by decide +kernel) rfl rfl (Nat.le_of_ble_eq_true rfl) (jX3_answeredBefore G l l0 l1 M)
theorem mkX3_answeredBefore : MOk yX3_answeredBefore cX3_answeredBefore 4 (some .int) 1 := ⟨w_102, tb1 (List.mem_of_getElem? (i := 2) rfl) rfl, by decide +kernel, by decide +kernel, by decide +kernel⟩
-- X3_areThere
def fX3_areThere_2  : Nat → Nat → Nat → Int32 → Mem → Option (Int32 × Mem)
  | 0, _, _, _, _ => none
  | n + 1, l0, l1, l2, M => (gI M 4 2 l1 fun v1 => (if v1 ≤ l2 then retZ (1 : Int32) (some ((1 : Int32), M)) else (gR M 4 0 l1 fun r2 => (rI M .int r2 l2 fun v3 => (gI M 3 4 l0 fun v4 => (if v3 < v4 then fX3_areThere_2  n l0 l1 (l2 + (1 : Int32)) M else retZ (0 : Int32) (some ((0 : Int32), M))))))))
set_option maxHeartbeats 4000000 in
set_option maxRecDepth 100000 in
theorem jX3_areThere_2 (G : Gx) (l : Launch)   : ∀ (n : Nat) (l0 : Nat) (l1 : Nat) (l2 : Int32) (M : Mem), J G l cX3_areThere 3 RX3 (some .boolean) "areThere" 0 0 (QM G (fun v : Int32 => some (.int v))) 2 [(0, .ref (adr G l0)), (1, .ref (adr G l1)), (2, .int l2)] [] M (fX3_areThere_2  n l0 l1 l2 M) := by
  intro n
  induction n with
  | zero => intro l0 l1 l2 M; exact J_none
  | succ n ih =>
    intro l0 l1 l2 M
    rw [fX3_areThere_2]
    refine J_iload_n dX3_areThere_2 2 rfl ?_
    refine J_aload_n dX3_areThere_3 1 rfl ?_
    refine J_getI fd_4_2 w_97 rfl dX3_areThere_4 ?_
    refine J_icmp_ge (tgt := 31) dX3_areThere_7 (by decide) ?_ ?_
    · refine J_iconst (v := 1) dX3_areThere_31 (by decide) ?_
      exact J_zret dX3_areThere_32
    · refine J_aload_n dX3_areThere_10 1 rfl ?_
      refine J_getR fd_4_0 w_106 rfl dX3_areThere_11 (fun r2 => ?_)
      refine J_iload_n dX3_areThere_14 2 rfl ?_
      refine J_iald dX3_areThere_15 ?_
      refine J_aload_n dX3_areThere_16 0 rfl ?_
      refine J_getI fd_3_4 w_59 rfl dX3_areThere_17 ?_
      refine J_icmp_lt (tgt := 25) dX3_areThere_20 (by decide) ?_ ?_
      · refine J_iincK (z := 1) (lv' := [(2, .int _), (0, .ref _), (1, .ref _)]) dX3_areThere_25 2 rfl (by decide) (by decide) rfl ?_
        refine J_goto (tgt := 2) dX3_areThere_28 (by decide) ?_
        refine J_sub [1, 2, 0] rfl ?_
        exact ih _ _ _ _
      · refine J_iconst (v := 0) dX3_areThere_23 (by decide) ?_
        exact J_zret dX3_areThere_24
def fX3_areThere (l0 : Nat) (l1 : Nat) (M : Mem) : Option (Int32 × Mem) := fX3_areThere_2  FU l0 l1 (0 : Int32) M
set_option maxHeartbeats 4000000 in
set_option maxRecDepth 100000 in
theorem jX3_areThere (G : Gx) (l : Launch) (l0 : Nat) (l1 : Nat) (M : Mem) : J G l cX3_areThere 3 RX3 (some .boolean) "areThere" 0 0 (QM G (fun v : Int32 => some (.int v))) 0 [(0, .ref (adr G l0)), (1, .ref (adr G l1))] [] M (fX3_areThere l0 l1 M) := by
  unfold fX3_areThere
  refine J_iconst (v := 0) dX3_areThere_0 (by decide) ?_
  refine J_istore_n (lv' := [(2, .int _), (0, .ref _), (1, .ref _)]) dX3_areThere_1 (by decide) rfl ?_
  refine J_sub [1, 2, 0] rfl ?_
  exact jX3_areThere_2 G l   FU _ _ _ _
theorem okX3_areThere (G : Gx) (l : Launch) (l0 : Nat) (l1 : Nat) (M : Mem) : Con G l yX3_areThere cX3_areThere 3 (some .boolean) 0 0 (fun v : Int32 => some (.int v)) [.ref (adr G l0), .ref (adr G l1)] M (fX3_areThere l0 l1 M) := con_of (own := RX3) (nm := "areThere") (by decide +kernel) rfl rfl (Nat.le_of_ble_eq_true rfl) (jX3_areThere G l l0 l1 M)
theorem mkX3_areThere : MOk yX3_areThere cX3_areThere 3 (some .boolean) 1 := ⟨w_107, tb1 (List.mem_of_getElem? (i := 2) rfl) rfl, by decide +kernel, by decide +kernel, by decide +kernel⟩
-- X4_comeToNothing
def fX4_comeToNothing_75  (s0 : Int32) (M : Mem) : Option (Int32 × Mem) := retZ s0 (some (s0, M))
set_option maxHeartbeats 4000000 in
set_option maxRecDepth 100000 in
theorem jX4_comeToNothing_75 (G : Gx) (l : Launch)   (s0 : Int32) (M : Mem) : J G l cX4_comeToNothing 6 RX4 (some .boolean) "comeToNothing" 0 0 (QM G (fun v : Int32 => some (.int v))) 75 [] [.int s0] M (fX4_comeToNothing_75  s0 M) := by
  unfold fX4_comeToNothing_75
  exact J_zret dX4_comeToNothing_75
def fX4_comeToNothing_74   (M : Mem) : Option (Int32 × Mem) := fX4_comeToNothing_75  (0 : Int32) M
set_option maxHeartbeats 4000000 in
set_option maxRecDepth 100000 in
theorem jX4_comeToNothing_74 (G : Gx) (l : Launch)    (M : Mem) : J G l cX4_comeToNothing 6 RX4 (some .boolean) "comeToNothing" 0 0 (QM G (fun v : Int32 => some (.int v))) 74 [] [] M (fX4_comeToNothing_74   M) := by
  unfold fX4_comeToNothing_74
  refine J_iconst (v := 0) dX4_comeToNothing_74 (by decide) ?_
  refine J_sub [] rfl ?_
  exact jX4_comeToNothing_75 G l   _ _
def fX4_comeToNothing_7  : Nat → Nat → Int64 → Int64 → Int32 → Mem → Option (Int32 × Mem)
  | 0, _, _, _, _, _ => none
  | n + 1, l0, l1, l3, l5, M => (gI M 4 2 l0 fun v1 => (if v1 ≤ l5 then (if (l3 &&& (4294967295 : Int64)) = (0 : Int64) then (if (l1 + (yshr l3 (32 : Int32))) = (0 : Int64) then fX4_comeToNothing_75  (1 : Int32) M else fX4_comeToNothing_74   M) else fX4_comeToNothing_74   M) else (gR M 4 1 l0 fun r2 => (rJ M r2 l5 fun v3 => (gR M 4 1 l0 fun r4 => (rJ M r4 l5 fun v5 => fX4_comeToNothing_7  n l0 (l1 + (yshr v3 (32 : Int32))) (l3 + (v5 &&& (4294967295 : Int64))) (l5 + (1 : Int32)) M))))))
set_option maxHeartbeats 4000000 in
set_option maxRecDepth 100000 in
theorem jX4_comeToNothing_7 (G : Gx) (l : Launch)   : ∀ (n : Nat) (l0 : Nat) (l1 : Int64) (l3 : Int64) (l5 : Int32) (M : Mem), J G l cX4_comeToNothing 6 RX4 (some .boolean) "comeToNothing" 0 0 (QM G (fun v : Int32 => some (.int v))) 7 [(0, .ref (adr G l0)), (1, .long l1), (3, .long l3), (5, .int l5)] [] M (fX4_comeToNothing_7  n l0 l1 l3 l5 M) := by
  intro n
  induction n with
  | zero => intro l0 l1 l3 l5 M; exact J_none
  | succ n ih =>
    intro l0 l1 l3 l5 M
    rw [fX4_comeToNothing_7]
    refine J_iload dX4_comeToNothing_7 3 rfl ?_
    refine J_aload_n dX4_comeToNothing_9 0 rfl ?_
    refine J_getI fd_4_2 w_84 rfl dX4_comeToNothing_10 ?_
    refine J_icmp_ge (tgt := 49) dX4_comeToNothing_13 (by decide) ?_ ?_
    · refine J_lload_n dX4_comeToNothing_49 2 rfl ?_
      refine J_ldc2 (v := 4294967295) dX4_comeToNothing_50 w_111 ?_
      refine J_land dX4_comeToNothing_53 ?_
      refine J_lconst (v := 0) dX4_comeToNothing_54 (by decide) ?_
      refine J_lcmp_ne (tgt := 74) dX4_comeToNothing_55 dX4_comeToNothing_56 (by decide) ?_ ?_
      · refine J_sub [] rfl ?_
        exact jX4_comeToNothing_74 G l    _
      · refine J_lload_n dX4_comeToNothing_59 1 rfl ?_
        refine J_lload_n dX4_comeToNothing_60 2 rfl ?_
        refine J_bipush (v := 32) dX4_comeToNothing_61 (by decide) ?_
        refine J_lshrK dX4_comeToNothing_63 ?_
        refine J_ladd dX4_comeToNothing_64 ?_
        refine J_lconst (v := 0) dX4_comeToNothing_65 (by decide) ?_
        refine J_lcmp_ne (tgt := 74) dX4_comeToNothing_66 dX4_comeToNothing_67 (by decide) ?_ ?_
        · refine J_sub [] rfl ?_
          exact jX4_comeToNothing_74 G l    _
        · refine J_iconst (v := 1) dX4_comeToNothing_70 (by decide) ?_
          refine J_goto (tgt := 75) dX4_comeToNothing_71 (by decide) ?_
          refine J_sub [] rfl ?_
          exact jX4_comeToNothing_75 G l   _ _
    · refine J_lload_n dX4_comeToNothing_16 1 rfl ?_
      refine J_aload_n dX4_comeToNothing_17 0 rfl ?_
      refine J_getR fd_4_1 w_28 rfl dX4_comeToNothing_18 (fun r2 => ?_)
      refine J_iload dX4_comeToNothing_21 3 rfl ?_
      refine J_lald dX4_comeToNothing_23 ?_
      refine J_bipush (v := 32) dX4_comeToNothing_24 (by decide) ?_
      refine J_lshrK dX4_comeToNothing_26 ?_
      refine J_ladd dX4_comeToNothing_27 ?_
      refine J_lstore_n (lv' := [(1, .long _), (0, .ref _), (3, .long _), (5, .int _)]) dX4_comeToNothing_28 (by decide) rfl ?_
      refine J_lload_n dX4_comeToNothing_29 2 rfl ?_
      refine J_aload_n dX4_comeToNothing_30 1 rfl ?_
      refine J_getR fd_4_1 w_28 rfl dX4_comeToNothing_31 (fun r4 => ?_)
      refine J_iload dX4_comeToNothing_34 3 rfl ?_
      refine J_lald dX4_comeToNothing_36 ?_
      refine J_ldc2 (v := 4294967295) dX4_comeToNothing_37 w_111 ?_
      refine J_land dX4_comeToNothing_40 ?_
      refine J_ladd dX4_comeToNothing_41 ?_
      refine J_lstore_n (lv' := [(3, .long _), (1, .long _), (0, .ref _), (5, .int _)]) dX4_comeToNothing_42 (by decide) rfl ?_
      refine J_iincK (z := 1) (lv' := [(5, .int _), (3, .long _), (1, .long _), (0, .ref _)]) dX4_comeToNothing_43 3 rfl (by decide) (by decide) rfl ?_
      refine J_goto (tgt := 7) dX4_comeToNothing_46 (by decide) ?_
      refine J_sub [3, 2, 1, 0] rfl ?_
      exact ih _ _ _ _ _
def fX4_comeToNothing (l0 : Nat) (M : Mem) : Option (Int32 × Mem) := fX4_comeToNothing_7  FU l0 (0 : Int64) (0 : Int64) (0 : Int32) M
set_option maxHeartbeats 4000000 in
set_option maxRecDepth 100000 in
theorem jX4_comeToNothing (G : Gx) (l : Launch) (l0 : Nat) (M : Mem) : J G l cX4_comeToNothing 6 RX4 (some .boolean) "comeToNothing" 0 0 (QM G (fun v : Int32 => some (.int v))) 0 [(0, .ref (adr G l0))] [] M (fX4_comeToNothing l0 M) := by
  unfold fX4_comeToNothing
  refine J_lconst (v := 0) dX4_comeToNothing_0 (by decide) ?_
  refine J_lstore_n (lv' := [(1, .long _), (0, .ref _)]) dX4_comeToNothing_1 (by decide) rfl ?_
  refine J_lconst (v := 0) dX4_comeToNothing_2 (by decide) ?_
  refine J_lstore_n (lv' := [(3, .long _), (1, .long _), (0, .ref _)]) dX4_comeToNothing_3 (by decide) rfl ?_
  refine J_iconst (v := 0) dX4_comeToNothing_4 (by decide) ?_
  refine J_istore (lv' := [(5, .int _), (3, .long _), (1, .long _), (0, .ref _)]) dX4_comeToNothing_5 (by decide) rfl ?_
  refine J_sub [3, 2, 1, 0] rfl ?_
  exact jX4_comeToNothing_7 G l   FU _ _ _ _ _
theorem okX4_comeToNothing (G : Gx) (l : Launch) (l0 : Nat) (M : Mem) : Con G l yX4_comeToNothing cX4_comeToNothing 6 (some .boolean) 0 0 (fun v : Int32 => some (.int v)) [.ref (adr G l0)] M (fX4_comeToNothing l0 M) := con_of (own := RX4) (nm := "comeToNothing") (by decide +kernel) rfl rfl (Nat.le_of_ble_eq_true rfl) (jX4_comeToNothing G l l0 M)
theorem mkX4_comeToNothing : MOk yX4_comeToNothing cX4_comeToNothing 6 (some .boolean) 0 := ⟨w_112, tb1 (List.mem_of_getElem? (i := 4) rfl) rfl, by decide +kernel, by decide +kernel, by decide +kernel⟩
