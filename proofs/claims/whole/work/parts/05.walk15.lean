-- X9_altered
def fX9_altered_33 (k4 : Nat → Int32 → Int32 → Mem → Option (Int32 × Mem)) (l0 : Nat) (l2 : Int32) (s0 : Int32) (s1 : Int32) (M : Mem) : Option (Int32 × Mem) := k4 l0 (s1 + s0) (l2 + (1 : Int32)) M
set_option maxHeartbeats 4000000 in
set_option maxRecDepth 100000 in
theorem jX9_altered_33 (G : Gx) (l : Launch) (k4 : Nat → Int32 → Int32 → Mem → Option (Int32 × Mem)) (h4 : ∀ (l0 : Nat) (l1 : Int32) (l2 : Int32) (M : Mem), J G l cX9_altered 3 RX9 (some .int) "altered" 0 0 (QM G (fun v : Int32 => some (.int v))) 4 [(0, .ref (adr G l0)), (1, .int l1), (2, .int l2)] [] M (k4 l0 l1 l2 M)) (l0 : Nat) (l2 : Int32) (s0 : Int32) (s1 : Int32) (M : Mem) : J G l cX9_altered 3 RX9 (some .int) "altered" 0 0 (QM G (fun v : Int32 => some (.int v))) 33 [(0, .ref (adr G l0)), (2, .int l2)] [.int s0, .int s1] M (fX9_altered_33 k4 l0 l2 s0 s1 M) := by
  unfold fX9_altered_33
  refine J_iadd dX9_altered_33 ?_
  refine J_istore_n (lv' := [(1, .int _), (0, .ref _), (2, .int _)]) dX9_altered_34 (by decide) rfl ?_
  refine J_iincK (z := 1) (lv' := [(2, .int _), (1, .int _), (0, .ref _)]) dX9_altered_35 2 rfl (by decide) (by decide) rfl ?_
  refine J_goto (tgt := 4) dX9_altered_38 (by decide) ?_
  refine J_sub [2, 1, 0] rfl ?_
  exact h4 _ _ _ _
def fX9_altered_4  : Nat → Nat → Int32 → Int32 → Mem → Option (Int32 × Mem)
  | 0, _, _, _, _ => none
  | n + 1, l0, l1, l2, M => (gI M 9 20 l0 fun v1 => (if v1 ≤ l2 then some (l1, M) else (gR M 9 18 l0 fun r2 => (rI M .int r2 l2 fun v3 => (gR M 9 19 l0 fun r4 => (rI M .int r4 l2 fun v5 => (if v3 = v5 then fX9_altered_33 (fX9_altered_4  n) l0 l2 (0 : Int32) l1 M else fX9_altered_33 (fX9_altered_4  n) l0 l2 (1 : Int32) l1 M)))))))
set_option maxHeartbeats 4000000 in
set_option maxRecDepth 100000 in
theorem jX9_altered_4 (G : Gx) (l : Launch)   : ∀ (n : Nat) (l0 : Nat) (l1 : Int32) (l2 : Int32) (M : Mem), J G l cX9_altered 3 RX9 (some .int) "altered" 0 0 (QM G (fun v : Int32 => some (.int v))) 4 [(0, .ref (adr G l0)), (1, .int l1), (2, .int l2)] [] M (fX9_altered_4  n l0 l1 l2 M) := by
  intro n
  induction n with
  | zero => intro l0 l1 l2 M; exact J_none
  | succ n ih =>
    intro l0 l1 l2 M
    rw [fX9_altered_4]
    refine J_iload_n dX9_altered_4 2 rfl ?_
    refine J_aload_n dX9_altered_5 0 rfl ?_
    refine J_getI fd_9_20 w_640 rfl dX9_altered_6 ?_
    refine J_icmp_ge (tgt := 41) dX9_altered_9 (by decide) ?_ ?_
    · refine J_iload_n dX9_altered_41 1 rfl ?_
      exact J_iret dX9_altered_42
    · refine J_iload_n dX9_altered_12 1 rfl ?_
      refine J_aload_n dX9_altered_13 0 rfl ?_
      refine J_getR fd_9_18 w_487 rfl dX9_altered_14 (fun r2 => ?_)
      refine J_iload_n dX9_altered_17 2 rfl ?_
      refine J_iald dX9_altered_18 ?_
      refine J_aload_n dX9_altered_19 0 rfl ?_
      refine J_getR fd_9_19 w_488 rfl dX9_altered_20 (fun r4 => ?_)
      refine J_iload_n dX9_altered_23 2 rfl ?_
      refine J_iald dX9_altered_24 ?_
      refine J_icmp_ne (tgt := 32) dX9_altered_25 (by decide) ?_ ?_
      · refine J_iconst (v := 1) dX9_altered_32 (by decide) ?_
        refine J_sub [0, 2] rfl ?_
        exact jX9_altered_33 G l _ ih _ _ _ _ _
      · refine J_iconst (v := 0) dX9_altered_28 (by decide) ?_
        refine J_goto (tgt := 33) dX9_altered_29 (by decide) ?_
        refine J_sub [0, 2] rfl ?_
        exact jX9_altered_33 G l _ ih _ _ _ _ _
def fX9_altered (l0 : Nat) (M : Mem) : Option (Int32 × Mem) := fX9_altered_4  FU l0 (0 : Int32) (0 : Int32) M
set_option maxHeartbeats 4000000 in
set_option maxRecDepth 100000 in
theorem jX9_altered (G : Gx) (l : Launch) (l0 : Nat) (M : Mem) : J G l cX9_altered 3 RX9 (some .int) "altered" 0 0 (QM G (fun v : Int32 => some (.int v))) 0 [(0, .ref (adr G l0))] [] M (fX9_altered l0 M) := by
  unfold fX9_altered
  refine J_iconst (v := 0) dX9_altered_0 (by decide) ?_
  refine J_istore_n (lv' := [(1, .int _), (0, .ref _)]) dX9_altered_1 (by decide) rfl ?_
  refine J_iconst (v := 0) dX9_altered_2 (by decide) ?_
  refine J_istore_n (lv' := [(2, .int _), (1, .int _), (0, .ref _)]) dX9_altered_3 (by decide) rfl ?_
  refine J_sub [2, 1, 0] rfl ?_
  exact jX9_altered_4 G l   FU _ _ _ _
theorem okX9_altered (G : Gx) (l : Launch) (l0 : Nat) (M : Mem) : Con G l yX9_altered cX9_altered 3 (some .int) 0 0 (fun v : Int32 => some (.int v)) [.ref (adr G l0)] M (fX9_altered l0 M) := con_of (own := RX9) (nm := "altered") (by decide +kernel) rfl rfl (Nat.le_of_ble_eq_true rfl) (jX9_altered G l l0 M)
theorem mkX9_altered : MOk yX9_altered cX9_altered 3 (some .int) 0 := ⟨w_806, tb1 (List.mem_of_getElem? (i := 10) rfl) rfl, by decide +kernel, by decide +kernel, by decide +kernel⟩
-- X9_there
def fX9_there_29 (k4 : Nat → Int32 → Int32 → Mem → Option (Int32 × Mem)) (l0 : Nat) (l2 : Int32) (s0 : Int32) (s1 : Int32) (M : Mem) : Option (Int32 × Mem) := k4 l0 (s1 + s0) (l2 + (1 : Int32)) M
set_option maxHeartbeats 4000000 in
set_option maxRecDepth 100000 in
theorem jX9_there_29 (G : Gx) (l : Launch) (k4 : Nat → Int32 → Int32 → Mem → Option (Int32 × Mem)) (h4 : ∀ (l0 : Nat) (l1 : Int32) (l2 : Int32) (M : Mem), J G l cX9_there 3 RX9 (some .int) "there" 0 0 (QM G (fun v : Int32 => some (.int v))) 4 [(0, .ref (adr G l0)), (1, .int l1), (2, .int l2)] [] M (k4 l0 l1 l2 M)) (l0 : Nat) (l2 : Int32) (s0 : Int32) (s1 : Int32) (M : Mem) : J G l cX9_there 3 RX9 (some .int) "there" 0 0 (QM G (fun v : Int32 => some (.int v))) 29 [(0, .ref (adr G l0)), (2, .int l2)] [.int s0, .int s1] M (fX9_there_29 k4 l0 l2 s0 s1 M) := by
  unfold fX9_there_29
  refine J_iadd dX9_there_29 ?_
  refine J_istore_n (lv' := [(1, .int _), (0, .ref _), (2, .int _)]) dX9_there_30 (by decide) rfl ?_
  refine J_iincK (z := 1) (lv' := [(2, .int _), (1, .int _), (0, .ref _)]) dX9_there_31 2 rfl (by decide) (by decide) rfl ?_
  refine J_goto (tgt := 4) dX9_there_34 (by decide) ?_
  refine J_sub [2, 1, 0] rfl ?_
  exact h4 _ _ _ _
def fX9_there_4  : Nat → Nat → Int32 → Int32 → Mem → Option (Int32 × Mem)
  | 0, _, _, _, _ => none
  | n + 1, l0, l1, l2, M => (gR M 9 1 l0 fun r1 => (rI M .int r1 (0 : Int32) fun v2 => (if v2 ≤ l2 then some (l1, M) else (gR M 9 16 l0 fun r3 => (rI M .boolean r3 l2 fun v4 => (if v4 = 0 then fX9_there_29 (fX9_there_4  n) l0 l2 (0 : Int32) l1 M else fX9_there_29 (fX9_there_4  n) l0 l2 (1 : Int32) l1 M))))))
set_option maxHeartbeats 4000000 in
set_option maxRecDepth 100000 in
theorem jX9_there_4 (G : Gx) (l : Launch)   : ∀ (n : Nat) (l0 : Nat) (l1 : Int32) (l2 : Int32) (M : Mem), J G l cX9_there 3 RX9 (some .int) "there" 0 0 (QM G (fun v : Int32 => some (.int v))) 4 [(0, .ref (adr G l0)), (1, .int l1), (2, .int l2)] [] M (fX9_there_4  n l0 l1 l2 M) := by
  intro n
  induction n with
  | zero => intro l0 l1 l2 M; exact J_none
  | succ n ih =>
    intro l0 l1 l2 M
    rw [fX9_there_4]
    refine J_iload_n dX9_there_4 2 rfl ?_
    refine J_aload_n dX9_there_5 0 rfl ?_
    refine J_getR fd_9_1 w_470 rfl dX9_there_6 (fun r1 => ?_)
    refine J_iconst (v := 0) dX9_there_9 (by decide) ?_
    refine J_iald dX9_there_10 ?_
    refine J_icmp_ge (tgt := 37) dX9_there_11 (by decide) ?_ ?_
    · refine J_iload_n dX9_there_37 1 rfl ?_
      exact J_iret dX9_there_38
    · refine J_iload_n dX9_there_14 1 rfl ?_
      refine J_aload_n dX9_there_15 0 rfl ?_
      refine J_getR fd_9_16 w_485 rfl dX9_there_16 (fun r3 => ?_)
      refine J_iload_n dX9_there_19 2 rfl ?_
      refine J_zald dX9_there_20 ?_
      refine J_if_eq (tgt := 28) dX9_there_21 (by decide) ?_ ?_
      · refine J_iconst (v := 0) dX9_there_28 (by decide) ?_
        refine J_sub [0, 2] rfl ?_
        exact jX9_there_29 G l _ ih _ _ _ _ _
      · refine J_iconst (v := 1) dX9_there_24 (by decide) ?_
        refine J_goto (tgt := 29) dX9_there_25 (by decide) ?_
        refine J_sub [0, 2] rfl ?_
        exact jX9_there_29 G l _ ih _ _ _ _ _
def fX9_there (l0 : Nat) (M : Mem) : Option (Int32 × Mem) := fX9_there_4  FU l0 (0 : Int32) (0 : Int32) M
set_option maxHeartbeats 4000000 in
set_option maxRecDepth 100000 in
theorem jX9_there (G : Gx) (l : Launch) (l0 : Nat) (M : Mem) : J G l cX9_there 3 RX9 (some .int) "there" 0 0 (QM G (fun v : Int32 => some (.int v))) 0 [(0, .ref (adr G l0))] [] M (fX9_there l0 M) := by
  unfold fX9_there
  refine J_iconst (v := 0) dX9_there_0 (by decide) ?_
  refine J_istore_n (lv' := [(1, .int _), (0, .ref _)]) dX9_there_1 (by decide) rfl ?_
  refine J_iconst (v := 0) dX9_there_2 (by decide) ?_
  refine J_istore_n (lv' := [(2, .int _), (1, .int _), (0, .ref _)]) dX9_there_3 (by decide) rfl ?_
  refine J_sub [2, 1, 0] rfl ?_
  exact jX9_there_4 G l   FU _ _ _ _
theorem okX9_there (G : Gx) (l : Launch) (l0 : Nat) (M : Mem) : Con G l yX9_there cX9_there 3 (some .int) 0 0 (fun v : Int32 => some (.int v)) [.ref (adr G l0)] M (fX9_there l0 M) := con_of (own := RX9) (nm := "there") (by decide +kernel) rfl rfl (Nat.le_of_ble_eq_true rfl) (jX9_there G l l0 M)
theorem mkX9_there : MOk yX9_there cX9_there 3 (some .int) 0 := ⟨w_807, tb1 (List.mem_of_getElem? (i := 10) rfl) rfl, by decide +kernel, by decide +kernel, by decide +kernel⟩
-- X9_count
def fX9_count (l0 : Nat) (l1 : Int32) (M : Mem) : Option (Int32 × Mem) := (if l1 = 0 then (gR M 9 0 l0 fun r1 => (rI M .int r1 (0 : Int32) fun v2 => some (v2, M))) else if l1 = 1 then (gR M 9 1 l0 fun r3 => (rI M .int r3 (0 : Int32) fun v4 => some (v4, M))) else if l1 = 2 then (gI M 9 20 l0 fun v5 => some (v5, M)) else if l1 = 3 then (cV M 9 l0 (fX9_there l0 M) fun v7 M6 => some (v7, M6)) else if l1 = 4 then (gR M 9 2 l0 fun r8 => (rI M .int r8 (0 : Int32) fun v9 => some (v9, M))) else if l1 = 5 then (gR M 9 3 l0 fun r10 => (rI M .int r10 (0 : Int32) fun v11 => some (v11, M))) else if l1 = 6 then (gI M 9 37 l0 fun v12 => some (v12, M)) else if l1 = 7 then (cV M 9 l0 (fX9_altered l0 M) fun v14 M13 => some (v14, M13)) else some ((-1 : Int32), M))
set_option maxHeartbeats 4000000 in
set_option maxRecDepth 100000 in
theorem jX9_count (G : Gx) (l : Launch) (l0 : Nat) (l1 : Int32) (M : Mem) : J G l cX9_count 2 RX9 (some .int) "count" 1 22 (QM G (fun v : Int32 => some (.int v))) 0 [(0, .ref (adr G l0)), (1, .int l1)] [] M (fX9_count l0 l1 M) := by
  unfold fX9_count
  refine J_iload_n dX9_count_0 1 rfl ?_
  refine J_ite (fun h1_0 => ?_) (fun h1_0 => ?_)
  · refine J_tabI (off := 47) (tgt := 48) dX9_count_1 (by rw [h1_0]; decide) (by rw [h1_0]; decide) (by rw [h1_0]; decide) (by decide) ?_
    refine J_aload_n dX9_count_48 0 rfl ?_
    refine J_getR fd_9_0 w_469 rfl dX9_count_49 (fun r1 => ?_)
    refine J_iconst (v := 0) dX9_count_52 (by decide) ?_
    refine J_iald dX9_count_53 ?_
    exact J_iret dX9_count_54
  refine J_ite (fun h1_1 => ?_) (fun h1_1 => ?_)
  · refine J_tabI (off := 54) (tgt := 55) dX9_count_1 (by rw [h1_1]; decide) (by rw [h1_1]; decide) (by rw [h1_1]; decide) (by decide) ?_
    refine J_aload_n dX9_count_55 0 rfl ?_
    refine J_getR fd_9_1 w_470 rfl dX9_count_56 (fun r3 => ?_)
    refine J_iconst (v := 0) dX9_count_59 (by decide) ?_
    refine J_iald dX9_count_60 ?_
    exact J_iret dX9_count_61
  refine J_ite (fun h1_2 => ?_) (fun h1_2 => ?_)
  · refine J_tabI (off := 61) (tgt := 62) dX9_count_1 (by rw [h1_2]; decide) (by rw [h1_2]; decide) (by rw [h1_2]; decide) (by decide) ?_
    refine J_aload_n dX9_count_62 0 rfl ?_
    refine J_getI fd_9_20 w_640 rfl dX9_count_63 ?_
    exact J_iret dX9_count_66
  refine J_ite (fun h1_3 => ?_) (fun h1_3 => ?_)
  · refine J_tabI (off := 66) (tgt := 67) dX9_count_1 (by rw [h1_3]; decide) (by rw [h1_3]; decide) (by rw [h1_3]; decide) (by decide) ?_
    refine J_aload_n dX9_count_67 0 rfl ?_
    refine J_callVi (okX9_there G l _ _) mkX9_there _ _ rfl w_808 w_809 w_810 ⟨by decide, by decide⟩ rfl (Nat.le_of_ble_eq_true rfl) dX9_count_68 (fun v7 M6 => ?_)
    exact J_iret dX9_count_71
  refine J_ite (fun h1_4 => ?_) (fun h1_4 => ?_)
  · refine J_tabI (off := 71) (tgt := 72) dX9_count_1 (by rw [h1_4]; decide) (by rw [h1_4]; decide) (by rw [h1_4]; decide) (by decide) ?_
    refine J_aload_n dX9_count_72 0 rfl ?_
    refine J_getR fd_9_2 w_471 rfl dX9_count_73 (fun r8 => ?_)
    refine J_iconst (v := 0) dX9_count_76 (by decide) ?_
    refine J_iald dX9_count_77 ?_
    exact J_iret dX9_count_78
  refine J_ite (fun h1_5 => ?_) (fun h1_5 => ?_)
  · refine J_tabI (off := 78) (tgt := 79) dX9_count_1 (by rw [h1_5]; decide) (by rw [h1_5]; decide) (by rw [h1_5]; decide) (by decide) ?_
    refine J_aload_n dX9_count_79 0 rfl ?_
    refine J_getR fd_9_3 w_472 rfl dX9_count_80 (fun r10 => ?_)
    refine J_iconst (v := 0) dX9_count_83 (by decide) ?_
    refine J_iald dX9_count_84 ?_
    exact J_iret dX9_count_85
  refine J_ite (fun h1_6 => ?_) (fun h1_6 => ?_)
  · refine J_tabI (off := 85) (tgt := 86) dX9_count_1 (by rw [h1_6]; decide) (by rw [h1_6]; decide) (by rw [h1_6]; decide) (by decide) ?_
    refine J_aload_n dX9_count_86 0 rfl ?_
    refine J_getI fd_9_37 w_663 rfl dX9_count_87 ?_
    exact J_iret dX9_count_90
  refine J_ite (fun h1_7 => ?_) (fun h1_7 => ?_)
  · refine J_tabI (off := 90) (tgt := 91) dX9_count_1 (by rw [h1_7]; decide) (by rw [h1_7]; decide) (by rw [h1_7]; decide) (by decide) ?_
    refine J_aload_n dX9_count_91 0 rfl ?_
    refine J_callVi (okX9_altered G l _ _) mkX9_altered _ _ rfl w_811 w_812 w_813 ⟨by decide, by decide⟩ rfl (Nat.le_of_ble_eq_true rfl) dX9_count_92 (fun v14 M13 => ?_)
    exact J_iret dX9_count_95
  refine J_tabO (tgt := 96) dX9_count_1 (by have h1_0 := lv_neT h1_0 (show (0 : Int32).toInt = 0 by decide); have h1_1 := lv_neT h1_1 (show (1 : Int32).toInt = 1 by decide); have h1_2 := lv_neT h1_2 (show (2 : Int32).toInt = 2 by decide); have h1_3 := lv_neT h1_3 (show (3 : Int32).toInt = 3 by decide); have h1_4 := lv_neT h1_4 (show (4 : Int32).toInt = 4 by decide); have h1_5 := lv_neT h1_5 (show (5 : Int32).toInt = 5 by decide); have h1_6 := lv_neT h1_6 (show (6 : Int32).toInt = 6 by decide); have h1_7 := lv_neT h1_7 (show (7 : Int32).toInt = 7 by decide); omega) (by decide) ?_
  refine J_iconst (v := -1) dX9_count_96 (by decide) ?_
  exact J_iret dX9_count_97
theorem okX9_count (G : Gx) (l : Launch) (l0 : Nat) (l1 : Int32) (M : Mem) : Con G l yX9_count cX9_count 2 (some .int) 1 22 (fun v : Int32 => some (.int v)) [.ref (adr G l0), .int l1] M (fX9_count l0 l1 M) := con_of (own := RX9) (nm := "count") (by decide +kernel) rfl rfl (Nat.le_of_ble_eq_true rfl) (jX9_count G l l0 l1 M)
theorem mkX9_count : MOk yX9_count cX9_count 2 (some .int) 1 := ⟨w_814, tb1 (List.mem_of_getElem? (i := 10) rfl) rfl, by decide +kernel, by decide +kernel, by decide +kernel⟩
