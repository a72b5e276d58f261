-- X9_tree
def fX9_tree_123  : Nat → Nat → Int32 → Mem → Option (Unit × Mem)
  | 0, _, _, _ => none
  | n + 1, l0, l3, M => (if l3 ≤ 0 then some ((), M) else (cV M 9 l0 (fX9_joins l0 (l3 + (-1 : Int32)) M) fun _u2 M1 => fX9_tree_123  n l0 (l3 + (-1 : Int32)) M1))
set_option maxHeartbeats 4000000 in
set_option maxRecDepth 100000 in
theorem jX9_tree_123 (G : Gx) (l : Launch)   : ∀ (n : Nat) (l0 : Nat) (l3 : Int32) (M : Mem), J G l cX9_tree 6 RX9 none "tree" 4 99 (QM G (fun _ : Unit => none)) 123 [(0, .ref (adr G l0)), (3, .int l3)] [] M (fX9_tree_123  n l0 l3 M) := by
  intro n
  induction n with
  | zero => intro l0 l3 M; exact J_none
  | succ n ih =>
    intro l0 l3 M
    rw [fX9_tree_123]
    refine J_iload_n dX9_tree_123 1 rfl ?_
    refine J_if_le (tgt := 138) dX9_tree_124 (by decide) ?_ ?_
    · exact J_vret dX9_tree_138
    · refine J_iincK (z := -1) (lv' := [(3, .int _), (0, .ref _)]) dX9_tree_127 1 rfl (by decide) (by decide) rfl ?_
      refine J_aload_n dX9_tree_130 1 rfl ?_
      refine J_iload_n dX9_tree_131 0 rfl ?_
      refine J_callVv (okX9_joins G l _ _ _) mkX9_joins _ _ rfl w_718 w_719 w_720 ⟨by decide, by decide⟩ rfl (Nat.le_of_ble_eq_true rfl) dX9_tree_132 (fun _u2 M1 => ?_)
      refine J_goto (tgt := 123) dX9_tree_135 (by decide) ?_
      refine J_sub [1, 0] rfl ?_
      exact ih _ _ _
def fX9_tree_91  : Nat → Nat → Int32 → Int32 → Mem → Option (Unit × Mem)
  | 0, _, _, _, _ => none
  | n + 1, l0, l3, l4, M => (if (32 : Int32) ≤ l4 then fX9_tree_123  FU l0 l3 M else (gR M 9 45 l0 fun r1 => (gR M 9 46 l0 fun r2 => (rI M .int r2 (((32 : Int32) * l3) + l4) fun v3 => (wI M .int r1 l4 v3 fun M4 => fX9_tree_91  n l0 l3 (l4 + (1 : Int32)) M4)))))
set_option maxHeartbeats 4000000 in
set_option maxRecDepth 100000 in
theorem jX9_tree_91 (G : Gx) (l : Launch)   : ∀ (n : Nat) (l0 : Nat) (l3 : Int32) (l4 : Int32) (M : Mem), J G l cX9_tree 6 RX9 none "tree" 4 99 (QM G (fun _ : Unit => none)) 91 [(0, .ref (adr G l0)), (3, .int l3), (4, .int l4)] [] M (fX9_tree_91  n l0 l3 l4 M) := by
  intro n
  induction n with
  | zero => intro l0 l3 l4 M; exact J_none
  | succ n ih =>
    intro l0 l3 l4 M
    rw [fX9_tree_91]
    refine J_iload dX9_tree_91 2 rfl ?_
    refine J_bipush (v := 32) dX9_tree_93 (by decide) ?_
    refine J_icmp_ge (tgt := 123) dX9_tree_95 (by decide) ?_ ?_
    · refine J_sub [0, 1] rfl ?_
      exact jX9_tree_123 G l   FU _ _ _
    · refine J_aload_n dX9_tree_98 0 rfl ?_
      refine J_getR fd_9_45 w_567 rfl dX9_tree_99 (fun r1 => ?_)
      refine J_iload dX9_tree_102 2 rfl ?_
      refine J_aload_n dX9_tree_104 0 rfl ?_
      refine J_getR fd_9_46 w_568 rfl dX9_tree_105 (fun r2 => ?_)
      refine J_bipush (v := 32) dX9_tree_108 (by decide) ?_
      refine J_iload_n dX9_tree_110 1 rfl ?_
      refine J_imul dX9_tree_111 ?_
      refine J_iload dX9_tree_112 2 rfl ?_
      refine J_iadd dX9_tree_114 ?_
      refine J_iald dX9_tree_115 ?_
      refine J_iast dX9_tree_116 ?_
      refine J_iincK (z := 1) (lv' := [(4, .int _), (0, .ref _), (3, .int _)]) dX9_tree_117 2 rfl (by decide) (by decide) rfl ?_
      refine J_goto (tgt := 91) dX9_tree_120 (by decide) ?_
      refine J_sub [1, 2, 0] rfl ?_
      exact ih _ _ _ _
def fX9_tree_54 (k5 : Nat → Int32 → Int32 → Int32 → Mem → Option (Unit × Mem)) (l0 : Nat) (l2 : Int32) (l3 : Int32) (l4 : Int32) (l5 : Int32) (M : Mem) : Option (Unit × Mem) := (cV M 9 l0 (fX9_keepWait l0 l3 M) fun _u2 M1 => (gR M1 9 47 l0 fun r3 => (wI M1 .int r3 l3 l5 fun M4 => k5 l0 l2 (l3 + (1 : Int32)) (l4 + (1 : Int32)) M4)))
set_option maxHeartbeats 4000000 in
set_option maxRecDepth 100000 in
theorem jX9_tree_54 (G : Gx) (l : Launch) (k5 : Nat → Int32 → Int32 → Int32 → Mem → Option (Unit × Mem)) (h5 : ∀ (l0 : Nat) (l2 : Int32) (l3 : Int32) (l4 : Int32) (M : Mem), J G l cX9_tree 6 RX9 none "tree" 4 99 (QM G (fun _ : Unit => none)) 5 [(0, .ref (adr G l0)), (2, .int l2), (3, .int l3), (4, .int l4)] [] M (k5 l0 l2 l3 l4 M)) (l0 : Nat) (l2 : Int32) (l3 : Int32) (l4 : Int32) (l5 : Int32) (M : Mem) : J G l cX9_tree 6 RX9 none "tree" 4 99 (QM G (fun _ : Unit => none)) 54 [(0, .ref (adr G l0)), (2, .int l2), (3, .int l3), (4, .int l4), (5, .int l5)] [] M (fX9_tree_54 k5 l0 l2 l3 l4 l5 M) := by
  unfold fX9_tree_54
  refine J_aload_n dX9_tree_54 0 rfl ?_
  refine J_iload_n dX9_tree_55 2 rfl ?_
  refine J_callVv (okX9_keepWait G l _ _ _) mkX9_keepWait _ _ rfl w_721 w_722 w_723 ⟨by decide, by decide⟩ rfl (Nat.le_of_ble_eq_true rfl) dX9_tree_56 (fun _u2 M1 => ?_)
  refine J_aload_n dX9_tree_59 0 rfl ?_
  refine J_getR fd_9_47 w_569 rfl dX9_tree_60 (fun r3 => ?_)
  refine J_iload_n dX9_tree_63 2 rfl ?_
  refine J_iload dX9_tree_64 4 rfl ?_
  refine J_iast dX9_tree_66 ?_
  refine J_iincK (z := 1) (lv' := [(3, .int _), (0, .ref _), (2, .int _), (4, .int _), (5, .int _)]) dX9_tree_67 2 rfl (by decide) (by decide) rfl ?_
  refine J_iincK (z := 1) (lv' := [(4, .int _), (3, .int _), (0, .ref _), (2, .int _), (5, .int _)]) dX9_tree_70 3 rfl (by decide) (by decide) rfl ?_
  refine J_goto (tgt := 5) dX9_tree_73 (by decide) ?_
  refine J_sub [2, 3, 1, 0] rfl ?_
  exact h5 _ _ _ _ _
def fX9_tree_20 (k5 : Nat → Int32 → Int32 → Int32 → Mem → Option (Unit × Mem)) : Nat → Nat → Int32 → Int32 → Int32 → Int32 → Mem → Option (Unit × Mem)
  | 0, _, _, _, _, _, _ => none
  | n + 1, l0, l2, l3, l4, l5, M => (if l3 ≤ 0 then fX9_tree_54 k5 l0 l2 l3 l4 l5 M else (gR M 9 47 l0 fun r1 => (rI M .int r1 (l3 - (1 : Int32)) fun v2 => (if v2 = l5 then (cV M 9 l0 (fX9_joins l0 (l3 + (-1 : Int32)) M) fun _u4 M3 => fX9_tree_20 k5 n l0 l2 (l3 + (-1 : Int32)) l4 ((2 : Int32) * l5) M3) else fX9_tree_54 k5 l0 l2 l3 l4 l5 M))))
set_option maxHeartbeats 4000000 in
set_option maxRecDepth 100000 in
theorem jX9_tree_20 (G : Gx) (l : Launch) (k5 : Nat → Int32 → Int32 → Int32 → Mem → Option (Unit × Mem)) (h5 : ∀ (l0 : Nat) (l2 : Int32) (l3 : Int32) (l4 : Int32) (M : Mem), J G l cX9_tree 6 RX9 none "tree" 4 99 (QM G (fun _ : Unit => none)) 5 [(0, .ref (adr G l0)), (2, .int l2), (3, .int l3), (4, .int l4)] [] M (k5 l0 l2 l3 l4 M)) : ∀ (n : Nat) (l0 : Nat) (l2 : Int32) (l3 : Int32) (l4 : Int32) (l5 : Int32) (M : Mem), J G l cX9_tree 6 RX9 none "tree" 4 99 (QM G (fun _ : Unit => none)) 20 [(0, .ref (adr G l0)), (2, .int l2), (3, .int l3), (4, .int l4), (5, .int l5)] [] M (fX9_tree_20 k5 n l0 l2 l3 l4 l5 M) := by
  intro n
  induction n with
  | zero => intro l0 l2 l3 l4 l5 M; exact J_none
  | succ n ih =>
    intro l0 l2 l3 l4 l5 M
    rw [fX9_tree_20]
    refine J_iload_n dX9_tree_20 2 rfl ?_
    refine J_if_le (tgt := 54) dX9_tree_21 (by decide) ?_ ?_
    · refine J_sub [0, 1, 2, 3, 4] rfl ?_
      exact jX9_tree_54 G l _ h5 _ _ _ _ _ _
    · refine J_aload_n dX9_tree_24 0 rfl ?_
      refine J_getR fd_9_47 w_569 rfl dX9_tree_25 (fun r1 => ?_)
      refine J_iload_n dX9_tree_28 2 rfl ?_
      refine J_iconst (v := 1) dX9_tree_29 (by decide) ?_
      refine J_isub dX9_tree_30 ?_
      refine J_iald dX9_tree_31 ?_
      refine J_iload dX9_tree_32 4 rfl ?_
      refine J_icmp_ne (tgt := 54) dX9_tree_34 (by decide) ?_ ?_
      · refine J_sub [0, 1, 2, 3, 4] rfl ?_
        exact jX9_tree_54 G l _ h5 _ _ _ _ _ _
      · refine J_iincK (z := -1) (lv' := [(3, .int _), (0, .ref _), (2, .int _), (4, .int _), (5, .int _)]) dX9_tree_37 2 rfl (by decide) (by decide) rfl ?_
        refine J_aload_n dX9_tree_40 1 rfl ?_
        refine J_iload_n dX9_tree_41 0 rfl ?_
        refine J_callVv (okX9_joins G l _ _ _) mkX9_joins _ _ rfl w_718 w_719 w_720 ⟨by decide, by decide⟩ rfl (Nat.le_of_ble_eq_true rfl) dX9_tree_42 (fun _u4 M3 => ?_)
        refine J_iconst (v := 2) dX9_tree_45 (by decide) ?_
        refine J_iload dX9_tree_46 4 rfl ?_
        refine J_imul dX9_tree_48 ?_
        refine J_istore (lv' := [(5, .int _), (3, .int _), (0, .ref _), (2, .int _), (4, .int _)]) dX9_tree_49 (by decide) rfl ?_
        refine J_goto (tgt := 20) dX9_tree_51 (by decide) ?_
        refine J_sub [2, 3, 1, 4, 0] rfl ?_
        exact ih _ _ _ _ _ _
def fX9_tree_5  : Nat → Nat → Int32 → Int32 → Int32 → Mem → Option (Unit × Mem)
  | 0, _, _, _, _, _ => none
  | n + 1, l0, l2, l3, l4, M => (if l2 ≤ l4 then (if l3 = 0 then (cV M 9 l0 (fX9_sum l0 M) fun _u2 M1 => some ((), M1)) else fX9_tree_91  FU l0 (l3 + (-1 : Int32)) (0 : Int32) M) else (cV M 9 l0 (fX9_leaf l0 l4 M) fun _u4 M3 => fX9_tree_20 (fX9_tree_5  n) FU l0 l2 l3 l4 (1 : Int32) M3))
set_option maxHeartbeats 4000000 in
set_option maxRecDepth 100000 in
theorem jX9_tree_5 (G : Gx) (l : Launch)   : ∀ (n : Nat) (l0 : Nat) (l2 : Int32) (l3 : Int32) (l4 : Int32) (M : Mem), J G l cX9_tree 6 RX9 none "tree" 4 99 (QM G (fun _ : Unit => none)) 5 [(0, .ref (adr G l0)), (2, .int l2), (3, .int l3), (4, .int l4)] [] M (fX9_tree_5  n l0 l2 l3 l4 M) := by
  intro n
  induction n with
  | zero => intro l0 l2 l3 l4 M; exact J_none
  | succ n ih =>
    intro l0 l2 l3 l4 M
    rw [fX9_tree_5]
    refine J_iload dX9_tree_5 3 rfl ?_
    refine J_iload_n dX9_tree_7 1 rfl ?_
    refine J_icmp_ge (tgt := 76) dX9_tree_8 (by decide) ?_ ?_
    · refine J_iload_n dX9_tree_76 2 rfl ?_
      refine J_if_ne (tgt := 85) dX9_tree_77 (by decide) ?_ ?_
      · refine J_iincK (z := -1) (lv' := [(3, .int _), (0, .ref _), (2, .int _), (4, .int _)]) dX9_tree_85 2 rfl (by decide) (by decide) rfl ?_
        refine J_iconst (v := 0) dX9_tree_88 (by decide) ?_
        refine J_istore (lv' := [(4, .int _), (3, .int _), (0, .ref _), (2, .int _)]) dX9_tree_89 (by decide) rfl ?_
        refine J_sub [2, 1, 0] rfl ?_
        exact jX9_tree_91 G l   FU _ _ _ _
      · refine J_aload_n dX9_tree_80 0 rfl ?_
        refine J_callVv (okX9_sum G l _ _) mkX9_sum _ _ rfl w_711 w_712 w_713 ⟨by decide, by decide⟩ rfl (Nat.le_of_ble_eq_true rfl) dX9_tree_81 (fun _u2 M1 => ?_)
        exact J_vret dX9_tree_84
    · refine J_aload_n dX9_tree_11 0 rfl ?_
      refine J_iload dX9_tree_12 3 rfl ?_
      refine J_callVv (okX9_leaf G l _ _ _) mkX9_leaf _ _ rfl w_724 w_725 w_726 ⟨by decide, by decide⟩ rfl (Nat.le_of_ble_eq_true rfl) dX9_tree_14 (fun _u4 M3 => ?_)
      refine J_iconst (v := 1) dX9_tree_17 (by decide) ?_
      refine J_istore (lv' := [(5, .int _), (0, .ref _), (2, .int _), (3, .int _), (4, .int _)]) dX9_tree_18 (by decide) rfl ?_
      refine J_sub [1, 2, 3, 4, 0] rfl ?_
      exact jX9_tree_20 G l _ ih FU _ _ _ _ _ _
def fX9_tree (l0 : Nat) (l1 : Int32) (l2 : Int32) (M : Mem) : Option (Unit × Mem) := fX9_tree_5  FU l0 l2 (0 : Int32) l1 M
set_option maxHeartbeats 4000000 in
set_option maxRecDepth 100000 in
theorem jX9_tree (G : Gx) (l : Launch) (l0 : Nat) (l1 : Int32) (l2 : Int32) (M : Mem) : J G l cX9_tree 6 RX9 none "tree" 4 99 (QM G (fun _ : Unit => none)) 0 [(0, .ref (adr G l0)), (1, .int l1), (2, .int l2)] [] M (fX9_tree l0 l1 l2 M) := by
  unfold fX9_tree
  refine J_iconst (v := 0) dX9_tree_0 (by decide) ?_
  refine J_istore_n (lv' := [(3, .int _), (0, .ref _), (1, .int _), (2, .int _)]) dX9_tree_1 (by decide) rfl ?_
  refine J_iload_n dX9_tree_2 2 rfl ?_
  refine J_istore (lv' := [(4, .int _), (3, .int _), (0, .ref _), (1, .int _), (2, .int _)]) dX9_tree_3 (by decide) rfl ?_
  refine J_sub [2, 4, 1, 0] rfl ?_
  exact jX9_tree_5 G l   FU _ _ _ _ _
theorem okX9_tree (G : Gx) (l : Launch) (l0 : Nat) (l1 : Int32) (l2 : Int32) (M : Mem) : Con G l yX9_tree cX9_tree 6 none 4 99 (fun _ : Unit => none) [.ref (adr G l0), .int l1, .int l2] M (fX9_tree l0 l1 l2 M) := con_of (own := RX9) (nm := "tree") (by decide +kernel) rfl rfl (Nat.le_of_ble_eq_true rfl) (jX9_tree G l l0 l1 l2 M)
theorem mkX9_tree : MOk yX9_tree cX9_tree 6 none 2 := ⟨w_727, tb1 (List.mem_of_getElem? (i := 10) rfl) rfl, by decide +kernel, by decide +kernel, by decide +kernel⟩
-- X9_hash
def fX9_hash_49   (M : Mem) : Option (Int32 × Mem) := some ((-1 : Int32), M)
set_option maxHeartbeats 4000000 in
set_option maxRecDepth 100000 in
theorem jX9_hash_49 (G : Gx) (l : Launch)    (M : Mem) : J G l cX9_hash 4 RX9 (some .int) "hash" 5 124 (QM G (fun v : Int32 => some (.int v))) 49 [] [] M (fX9_hash_49   M) := by
  unfold fX9_hash_49
  refine J_iconst (v := -1) dX9_hash_49 (by decide) ?_
  exact J_iret dX9_hash_50
def fX9_hash_82  (l0 : Nat) (l3 : Int32) (M : Mem) : Option (Int32 × Mem) := (gR M 9 45 l0 fun r1 => (rI M .int r1 l3 fun v2 => some (v2, M)))
set_option maxHeartbeats 4000000 in
set_option maxRecDepth 100000 in
theorem jX9_hash_82 (G : Gx) (l : Launch)   (l0 : Nat) (l3 : Int32) (M : Mem) : J G l cX9_hash 4 RX9 (some .int) "hash" 5 124 (QM G (fun v : Int32 => some (.int v))) 82 [(0, .ref (adr G l0)), (3, .int l3)] [] M (fX9_hash_82  l0 l3 M) := by
  unfold fX9_hash_82
  refine J_aload_n dX9_hash_82 0 rfl ?_
  refine J_getR fd_9_45 w_567 rfl dX9_hash_83 (fun r1 => ?_)
  refine J_iload_n dX9_hash_86 1 rfl ?_
  refine J_iald dX9_hash_87 ?_
  exact J_iret dX9_hash_88
def fX9_hash_33  (l0 : Nat) (l1 : Int32) (l2 : Int32) (l3 : Int32) (s0 : Int32) (s1 : Int32) (s2 : Int32) (M : Mem) : Option (Int32 × Mem) := (bd (fX9_in s2 s1 s0 M) fun v2 M1 => (if v2 = 0 then fX9_hash_49   M1 else (bd (fX9_in l3 (0 : Int32) (31 : Int32) M1) fun v4 M3 => (if v4 = 0 then fX9_hash_49   M3 else (if l1 = 0 then (cV M3 9 l0 (fX9_chain l0 l2 M3) fun _u10 M9 => fX9_hash_82  l0 l3 M9) else (if l1 = (1 : Int32) then (cV M3 9 l0 (fX9_tree l0 (0 : Int32) l2 M3) fun _u8 M7 => fX9_hash_82  l0 l3 M7) else (cV M3 9 l0 (fX9_leaf l0 l2 M3) fun _u6 M5 => fX9_hash_82  l0 l3 M5)))))))
set_option maxHeartbeats 4000000 in
set_option maxRecDepth 100000 in
theorem jX9_hash_33 (G : Gx) (l : Launch)   (l0 : Nat) (l1 : Int32) (l2 : Int32) (l3 : Int32) (s0 : Int32) (s1 : Int32) (s2 : Int32) (M : Mem) : J G l cX9_hash 4 RX9 (some .int) "hash" 5 124 (QM G (fun v : Int32 => some (.int v))) 33 [(0, .ref (adr G l0)), (1, .int l1), (2, .int l2), (3, .int l3)] [.int s0, .int s1, .int s2] M (fX9_hash_33  l0 l1 l2 l3 s0 s1 s2 M) := by
  unfold fX9_hash_33
  refine J_callSi (okX9_in G l _ _ _ _) mkX9_in w_665 w_664 ⟨by decide, by decide⟩ rfl (Nat.le_of_ble_eq_true rfl) dX9_hash_33 (fun v2 M1 => ?_)
  refine J_if_eq (tgt := 49) dX9_hash_36 (by decide) ?_ ?_
  · refine J_sub [] rfl ?_
    exact jX9_hash_49 G l    _
  · refine J_iload_n dX9_hash_39 3 rfl ?_
    refine J_iconst (v := 0) dX9_hash_40 (by decide) ?_
    refine J_bipush (v := 31) dX9_hash_41 (by decide) ?_
    refine J_callSi (okX9_in G l _ _ _ _) mkX9_in w_665 w_664 ⟨by decide, by decide⟩ rfl (Nat.le_of_ble_eq_true rfl) dX9_hash_43 (fun v4 M3 => ?_)
    refine J_if_ne (tgt := 51) dX9_hash_46 (by decide) ?_ ?_
    · refine J_iload_n dX9_hash_51 1 rfl ?_
      refine J_if_ne (tgt := 63) dX9_hash_52 (by decide) ?_ ?_
      · refine J_iload_n dX9_hash_63 1 rfl ?_
        refine J_iconst (v := 1) dX9_hash_64 (by decide) ?_
        refine J_icmp_ne (tgt := 77) dX9_hash_65 (by decide) ?_ ?_
        · refine J_aload_n dX9_hash_77 0 rfl ?_
          refine J_iload_n dX9_hash_78 2 rfl ?_
          refine J_callVv (okX9_leaf G l _ _ _) mkX9_leaf _ _ rfl w_724 w_725 w_726 ⟨by decide, by decide⟩ rfl (Nat.le_of_ble_eq_true rfl) dX9_hash_79 (fun _u6 M5 => ?_)
          refine J_sub [0, 3] rfl ?_
          exact jX9_hash_82 G l   _ _ _
        · refine J_aload_n dX9_hash_68 0 rfl ?_
          refine J_iconst (v := 0) dX9_hash_69 (by decide) ?_
          refine J_iload_n dX9_hash_70 2 rfl ?_
          refine J_callVv (okX9_tree G l _ _ _ _) mkX9_tree _ _ rfl w_728 w_729 w_730 ⟨by decide, by decide⟩ rfl (Nat.le_of_ble_eq_true rfl) dX9_hash_71 (fun _u8 M7 => ?_)
          refine J_goto (tgt := 82) dX9_hash_74 (by decide) ?_
          refine J_sub [0, 3] rfl ?_
          exact jX9_hash_82 G l   _ _ _
      · refine J_aload_n dX9_hash_55 0 rfl ?_
        refine J_iload_n dX9_hash_56 2 rfl ?_
        refine J_callVv (okX9_chain G l _ _ _) mkX9_chain _ _ rfl w_731 w_732 w_733 ⟨by decide, by decide⟩ rfl (Nat.le_of_ble_eq_true rfl) dX9_hash_57 (fun _u10 M9 => ?_)
        refine J_goto (tgt := 82) dX9_hash_60 (by decide) ?_
        refine J_sub [0, 3] rfl ?_
        exact jX9_hash_82 G l   _ _ _
    · refine J_sub [] rfl ?_
      exact jX9_hash_49 G l    _
def fX9_hash (l0 : Nat) (l1 : Int32) (l2 : Int32) (l3 : Int32) (M : Mem) : Option (Int32 × Mem) := (bd (fX9_in l1 (0 : Int32) (2 : Int32) M) fun v2 M1 => (if v2 = 0 then fX9_hash_49   M1 else (if l1 = (2 : Int32) then (gR M1 9 1 l0 fun r5 => (rI M1 .int r5 (0 : Int32) fun v6 => fX9_hash_33  l0 l1 l2 l3 (v6 - (1 : Int32)) (0 : Int32) l2 M1)) else (gR M1 9 1 l0 fun r3 => (rI M1 .int r3 (0 : Int32) fun v4 => fX9_hash_33  l0 l1 l2 l3 v4 (0 : Int32) l2 M1)))))
set_option maxHeartbeats 4000000 in
set_option maxRecDepth 100000 in
theorem jX9_hash (G : Gx) (l : Launch) (l0 : Nat) (l1 : Int32) (l2 : Int32) (l3 : Int32) (M : Mem) : J G l cX9_hash 4 RX9 (some .int) "hash" 5 124 (QM G (fun v : Int32 => some (.int v))) 0 [(0, .ref (adr G l0)), (1, .int l1), (2, .int l2), (3, .int l3)] [] M (fX9_hash l0 l1 l2 l3 M) := by
  unfold fX9_hash
  refine J_iload_n dX9_hash_0 1 rfl ?_
  refine J_iconst (v := 0) dX9_hash_1 (by decide) ?_
  refine J_iconst (v := 2) dX9_hash_2 (by decide) ?_
  refine J_callSi (okX9_in G l _ _ _ _) mkX9_in w_665 w_664 ⟨by decide, by decide⟩ rfl (Nat.le_of_ble_eq_true rfl) dX9_hash_3 (fun v2 M1 => ?_)
  refine J_if_eq (tgt := 49) dX9_hash_6 (by decide) ?_ ?_
  · refine J_sub [] rfl ?_
    exact jX9_hash_49 G l    _
  · refine J_iload_n dX9_hash_9 2 rfl ?_
    refine J_iconst (v := 0) dX9_hash_10 (by decide) ?_
    refine J_iload_n dX9_hash_11 1 rfl ?_
    refine J_iconst (v := 2) dX9_hash_12 (by decide) ?_
    refine J_icmp_ne (tgt := 27) dX9_hash_13 (by decide) ?_ ?_
    · refine J_aload_n dX9_hash_27 0 rfl ?_
      refine J_getR fd_9_1 w_470 rfl dX9_hash_28 (fun r3 => ?_)
      refine J_iconst (v := 0) dX9_hash_31 (by decide) ?_
      refine J_iald dX9_hash_32 ?_
      refine J_sub [0, 1, 2, 3] rfl ?_
      exact jX9_hash_33 G l   _ _ _ _ _ _ _ _
    · refine J_aload_n dX9_hash_16 0 rfl ?_
      refine J_getR fd_9_1 w_470 rfl dX9_hash_17 (fun r5 => ?_)
      refine J_iconst (v := 0) dX9_hash_20 (by decide) ?_
      refine J_iald dX9_hash_21 ?_
      refine J_iconst (v := 1) dX9_hash_22 (by decide) ?_
      refine J_isub dX9_hash_23 ?_
      refine J_goto (tgt := 33) dX9_hash_24 (by decide) ?_
      refine J_sub [0, 1, 2, 3] rfl ?_
      exact jX9_hash_33 G l   _ _ _ _ _ _ _ _
theorem okX9_hash (G : Gx) (l : Launch) (l0 : Nat) (l1 : Int32) (l2 : Int32) (l3 : Int32) (M : Mem) : Con G l yX9_hash cX9_hash 4 (some .int) 5 124 (fun v : Int32 => some (.int v)) [.ref (adr G l0), .int l1, .int l2, .int l3] M (fX9_hash l0 l1 l2 l3 M) := con_of (own := RX9) (nm := "hash") (by decide +kernel) rfl rfl (Nat.le_of_ble_eq_true rfl) (jX9_hash G l l0 l1 l2 l3 M)
theorem mkX9_hash : MOk yX9_hash cX9_hash 4 (some .int) 3 := ⟨w_734, tb1 (List.mem_of_getElem? (i := 10) rfl) rfl, by decide +kernel, by decide +kernel, by decide +kernel⟩
-- X9_keep
def fX9_keep_85  : Nat → Nat → Int32 → Int32 → Mem → Option (Int32 × Mem)
  | 0, _, _, _, _ => none
  | n + 1, l0, l1, l2, M => (if (32 : Int32) ≤ l2 then (gR M 9 1 l0 fun r1 => (rI M .int r1 (0 : Int32) fun v2 => some (v2, M))) else (gR M 9 51 l0 fun r3 => (gR M 9 45 l0 fun r4 => (rI M .int r4 l2 fun v5 => (wI M .int r3 (((32 : Int32) * l1) + l2) v5 fun M6 => fX9_keep_85  n l0 l1 (l2 + (1 : Int32)) M6)))))
set_option maxHeartbeats 4000000 in
set_option maxRecDepth 100000 in
theorem jX9_keep_85 (G : Gx) (l : Launch)   : ∀ (n : Nat) (l0 : Nat) (l1 : Int32) (l2 : Int32) (M : Mem), J G l cX9_keep 3 RX9 (some .int) "keep" 5 124 (QM G (fun v : Int32 => some (.int v))) 85 [(0, .ref (adr G l0)), (1, .int l1), (2, .int l2)] [] M (fX9_keep_85  n l0 l1 l2 M) := by
  intro n
  induction n with
  | zero => intro l0 l1 l2 M; exact J_none
  | succ n ih =>
    intro l0 l1 l2 M
    rw [fX9_keep_85]
    refine J_iload_n dX9_keep_85 2 rfl ?_
    refine J_bipush (v := 32) dX9_keep_86 (by decide) ?_
    refine J_icmp_ge (tgt := 114) dX9_keep_88 (by decide) ?_ ?_
    · refine J_aload_n dX9_keep_114 0 rfl ?_
      refine J_getR fd_9_1 w_470 rfl dX9_keep_115 (fun r1 => ?_)
      refine J_iconst (v := 0) dX9_keep_118 (by decide) ?_
      refine J_iald dX9_keep_119 ?_
      exact J_iret dX9_keep_120
    · refine J_aload_n dX9_keep_91 0 rfl ?_
      refine J_getR fd_9_51 w_573 rfl dX9_keep_92 (fun r3 => ?_)
      refine J_bipush (v := 32) dX9_keep_95 (by decide) ?_
      refine J_iload_n dX9_keep_97 1 rfl ?_
      refine J_imul dX9_keep_98 ?_
      refine J_iload_n dX9_keep_99 2 rfl ?_
      refine J_iadd dX9_keep_100 ?_
      refine J_aload_n dX9_keep_101 0 rfl ?_
      refine J_getR fd_9_45 w_567 rfl dX9_keep_102 (fun r4 => ?_)
      refine J_iload_n dX9_keep_105 2 rfl ?_
      refine J_iald dX9_keep_106 ?_
      refine J_iast dX9_keep_107 ?_
      refine J_iincK (z := 1) (lv' := [(2, .int _), (0, .ref _), (1, .int _)]) dX9_keep_108 2 rfl (by decide) (by decide) rfl ?_
      refine J_goto (tgt := 85) dX9_keep_111 (by decide) ?_
      refine J_sub [1, 2, 0] rfl ?_
      exact ih _ _ _ _
def fX9_keep_43  : Nat → Nat → Int32 → Int32 → Mem → Option (Int32 × Mem)
  | 0, _, _, _, _ => none
  | n + 1, l0, l1, l2, M => (if (32 : Int32) ≤ l2 then (gR M 9 1 l0 fun r1 => (rI M .int r1 (0 : Int32) fun v2 => (cV M 9 l0 (fX9_tree l0 (0 : Int32) v2 M) fun _u4 M3 => fX9_keep_85  FU l0 l1 (0 : Int32) M3))) else (gR M 9 50 l0 fun r5 => (gR M 9 45 l0 fun r6 => (rI M .int r6 l2 fun v7 => (wI M .int r5 (((32 : Int32) * l1) + l2) v7 fun M8 => fX9_keep_43  n l0 l1 (l2 + (1 : Int32)) M8)))))
set_option maxHeartbeats 4000000 in
set_option maxRecDepth 100000 in
theorem jX9_keep_43 (G : Gx) (l : Launch)   : ∀ (n : Nat) (l0 : Nat) (l1 : Int32) (l2 : Int32) (M : Mem), J G l cX9_keep 3 RX9 (some .int) "keep" 5 124 (QM G (fun v : Int32 => some (.int v))) 43 [(0, .ref (adr G l0)), (1, .int l1), (2, .int l2)] [] M (fX9_keep_43  n l0 l1 l2 M) := by
  intro n
  induction n with
  | zero => intro l0 l1 l2 M; exact J_none
  | succ n ih =>
    intro l0 l1 l2 M
    rw [fX9_keep_43]
    refine J_iload_n dX9_keep_43 2 rfl ?_
    refine J_bipush (v := 32) dX9_keep_44 (by decide) ?_
    refine J_icmp_ge (tgt := 72) dX9_keep_46 (by decide) ?_ ?_
    · refine J_aload_n dX9_keep_72 0 rfl ?_
      refine J_iconst (v := 0) dX9_keep_73 (by decide) ?_
      refine J_aload_n dX9_keep_74 0 rfl ?_
      refine J_getR fd_9_1 w_470 rfl dX9_keep_75 (fun r1 => ?_)
      refine J_iconst (v := 0) dX9_keep_78 (by decide) ?_
      refine J_iald dX9_keep_79 ?_
      refine J_callVv (okX9_tree G l _ _ _ _) mkX9_tree _ _ rfl w_728 w_729 w_730 ⟨by decide, by decide⟩ rfl (Nat.le_of_ble_eq_true rfl) dX9_keep_80 (fun _u4 M3 => ?_)
      refine J_iconst (v := 0) dX9_keep_83 (by decide) ?_
      refine J_istore_n (lv' := [(2, .int _), (0, .ref _), (1, .int _)]) dX9_keep_84 (by decide) rfl ?_
      refine J_sub [1, 2, 0] rfl ?_
      exact jX9_keep_85 G l   FU _ _ _ _
    · refine J_aload_n dX9_keep_49 0 rfl ?_
      refine J_getR fd_9_50 w_572 rfl dX9_keep_50 (fun r5 => ?_)
      refine J_bipush (v := 32) dX9_keep_53 (by decide) ?_
      refine J_iload_n dX9_keep_55 1 rfl ?_
      refine J_imul dX9_keep_56 ?_
      refine J_iload_n dX9_keep_57 2 rfl ?_
      refine J_iadd dX9_keep_58 ?_
      refine J_aload_n dX9_keep_59 0 rfl ?_
      refine J_getR fd_9_45 w_567 rfl dX9_keep_60 (fun r6 => ?_)
      refine J_iload_n dX9_keep_63 2 rfl ?_
      refine J_iald dX9_keep_64 ?_
      refine J_iast dX9_keep_65 ?_
      refine J_iincK (z := 1) (lv' := [(2, .int _), (0, .ref _), (1, .int _)]) dX9_keep_66 2 rfl (by decide) (by decide) rfl ?_
      refine J_goto (tgt := 43) dX9_keep_69 (by decide) ?_
      refine J_sub [1, 2, 0] rfl ?_
      exact ih _ _ _ _
def fX9_keep (l0 : Nat) (l1 : Int32) (M : Mem) : Option (Int32 × Mem) := (bd (fX9_in l1 (0 : Int32) (7 : Int32) M) fun v2 M1 => (if v2 = 0 then some ((-1 : Int32), M1) else (gR M1 9 49 l0 fun r3 => (wI M1 .boolean r3 l1 (1 : Int32) fun M4 => (gR M4 9 48 l0 fun r5 => (gR M4 9 1 l0 fun r6 => (rI M4 .int r6 (0 : Int32) fun v7 => (wI M4 .int r5 l1 v7 fun M8 => (gR M8 9 1 l0 fun r9 => (rI M8 .int r9 (0 : Int32) fun v10 => (cV M8 9 l0 (fX9_chain l0 v10 M8) fun _u12 M11 => fX9_keep_43  FU l0 l1 (0 : Int32) M11)))))))))))
set_option maxHeartbeats 4000000 in
set_option maxRecDepth 100000 in
theorem jX9_keep (G : Gx) (l : Launch) (l0 : Nat) (l1 : Int32) (M : Mem) : J G l cX9_keep 3 RX9 (some .int) "keep" 5 124 (QM G (fun v : Int32 => some (.int v))) 0 [(0, .ref (adr G l0)), (1, .int l1)] [] M (fX9_keep l0 l1 M) := by
  unfold fX9_keep
  refine J_iload_n dX9_keep_0 1 rfl ?_
  refine J_iconst (v := 0) dX9_keep_1 (by decide) ?_
  refine J_bipush (v := 7) dX9_keep_2 (by decide) ?_
  refine J_callSi (okX9_in G l _ _ _ _) mkX9_in w_665 w_664 ⟨by decide, by decide⟩ rfl (Nat.le_of_ble_eq_true rfl) dX9_keep_4 (fun v2 M1 => ?_)
  refine J_if_ne (tgt := 12) dX9_keep_7 (by decide) ?_ ?_
  · refine J_aload_n dX9_keep_12 0 rfl ?_
    refine J_getR fd_9_49 w_571 rfl dX9_keep_13 (fun r3 => ?_)
    refine J_iload_n dX9_keep_16 1 rfl ?_
    refine J_iconst (v := 1) dX9_keep_17 (by decide) ?_
    refine J_zast dX9_keep_18 ?_
    refine J_aload_n dX9_keep_19 0 rfl ?_
    refine J_getR fd_9_48 w_570 rfl dX9_keep_20 (fun r5 => ?_)
    refine J_iload_n dX9_keep_23 1 rfl ?_
    refine J_aload_n dX9_keep_24 0 rfl ?_
    refine J_getR fd_9_1 w_470 rfl dX9_keep_25 (fun r6 => ?_)
    refine J_iconst (v := 0) dX9_keep_28 (by decide) ?_
    refine J_iald dX9_keep_29 ?_
    refine J_iast dX9_keep_30 ?_
    refine J_aload_n dX9_keep_31 0 rfl ?_
    refine J_aload_n dX9_keep_32 0 rfl ?_
    refine J_getR fd_9_1 w_470 rfl dX9_keep_33 (fun r9 => ?_)
    refine J_iconst (v := 0) dX9_keep_36 (by decide) ?_
    refine J_iald dX9_keep_37 ?_
    refine J_callVv (okX9_chain G l _ _ _) mkX9_chain _ _ rfl w_731 w_732 w_733 ⟨by decide, by decide⟩ rfl (Nat.le_of_ble_eq_true rfl) dX9_keep_38 (fun _u12 M11 => ?_)
    refine J_iconst (v := 0) dX9_keep_41 (by decide) ?_
    refine J_istore_n (lv' := [(2, .int _), (0, .ref _), (1, .int _)]) dX9_keep_42 (by decide) rfl ?_
    refine J_sub [1, 2, 0] rfl ?_
    exact jX9_keep_43 G l   FU _ _ _ _
  · refine J_iconst (v := -1) dX9_keep_10 (by decide) ?_
    exact J_iret dX9_keep_11
theorem okX9_keep (G : Gx) (l : Launch) (l0 : Nat) (l1 : Int32) (M : Mem) : Con G l yX9_keep cX9_keep 3 (some .int) 5 124 (fun v : Int32 => some (.int v)) [.ref (adr G l0), .int l1] M (fX9_keep l0 l1 M) := con_of (own := RX9) (nm := "keep") (by decide +kernel) rfl rfl (Nat.le_of_ble_eq_true rfl) (jX9_keep G l l0 l1 M)
theorem mkX9_keep : MOk yX9_keep cX9_keep 3 (some .int) 1 := ⟨w_735, tb1 (List.mem_of_getElem? (i := 10) rfl) rfl, by decide +kernel, by decide +kernel, by decide +kernel⟩
-- X9_isAs
def fX9_isAs_40 (k5 : Nat → Nat → Int32 → Int32 → Int32 → Mem → Option (Int32 × Mem)) (l0 : Nat) (l1 : Nat) (l2 : Int32) (l4 : Int32) (s0 : Int32) (M : Mem) : Option (Int32 × Mem) := k5 l0 l1 l2 s0 (l4 + (1 : Int32)) M
set_option maxHeartbeats 4000000 in
set_option maxRecDepth 100000 in
theorem jX9_isAs_40 (G : Gx) (l : Launch) (k5 : Nat → Nat → Int32 → Int32 → Int32 → Mem → Option (Int32 × Mem)) (h5 : ∀ (l0 : Nat) (l1 : Nat) (l2 : Int32) (l3 : Int32) (l4 : Int32) (M : Mem), J G l cX9_isAs 5 RX9 (some .boolean) "isAs" 0 0 (QM G (fun v : Int32 => some (.int v))) 5 [(0, .ref (adr G l0)), (1, .ref (adr G l1)), (2, .int l2), (3, .int l3), (4, .int l4)] [] M (k5 l0 l1 l2 l3 l4 M)) (l0 : Nat) (l1 : Nat) (l2 : Int32) (l4 : Int32) (s0 : Int32) (M : Mem) : J G l cX9_isAs 5 RX9 (some .boolean) "isAs" 0 0 (QM G (fun v : Int32 => some (.int v))) 40 [(0, .ref (adr G l0)), (1, .ref (adr G l1)), (2, .int l2), (4, .int l4)] [.int s0] M (fX9_isAs_40 k5 l0 l1 l2 l4 s0 M) := by
  unfold fX9_isAs_40
  refine J_istore_n (lv' := [(3, .int _), (0, .ref _), (1, .ref _), (2, .int _), (4, .int _)]) dX9_isAs_40 (by decide) rfl ?_
  refine J_iincK (z := 1) (lv' := [(4, .int _), (3, .int _), (0, .ref _), (1, .ref _), (2, .int _)]) dX9_isAs_41 4 rfl (by decide) (by decide) rfl ?_
  refine J_goto (tgt := 5) dX9_isAs_44 (by decide) ?_
  refine J_sub [2, 3, 4, 1, 0] rfl ?_
  exact h5 _ _ _ _ _ _
def fX9_isAs_39 (k5 : Nat → Nat → Int32 → Int32 → Int32 → Mem → Option (Int32 × Mem)) (l0 : Nat) (l1 : Nat) (l2 : Int32) (l4 : Int32) (M : Mem) : Option (Int32 × Mem) := fX9_isAs_40 k5 l0 l1 l2 l4 (0 : Int32) M
set_option maxHeartbeats 4000000 in
set_option maxRecDepth 100000 in
theorem jX9_isAs_39 (G : Gx) (l : Launch) (k5 : Nat → Nat → Int32 → Int32 → Int32 → Mem → Option (Int32 × Mem)) (h5 : ∀ (l0 : Nat) (l1 : Nat) (l2 : Int32) (l3 : Int32) (l4 : Int32) (M : Mem), J G l cX9_isAs 5 RX9 (some .boolean) "isAs" 0 0 (QM G (fun v : Int32 => some (.int v))) 5 [(0, .ref (adr G l0)), (1, .ref (adr G l1)), (2, .int l2), (3, .int l3), (4, .int l4)] [] M (k5 l0 l1 l2 l3 l4 M)) (l0 : Nat) (l1 : Nat) (l2 : Int32) (l4 : Int32) (M : Mem) : J G l cX9_isAs 5 RX9 (some .boolean) "isAs" 0 0 (QM G (fun v : Int32 => some (.int v))) 39 [(0, .ref (adr G l0)), (1, .ref (adr G l1)), (2, .int l2), (4, .int l4)] [] M (fX9_isAs_39 k5 l0 l1 l2 l4 M) := by
  unfold fX9_isAs_39
  refine J_iconst (v := 0) dX9_isAs_39 (by decide) ?_
  refine J_sub [0, 1, 2, 3] rfl ?_
  exact jX9_isAs_40 G l _ h5 _ _ _ _ _ _
def fX9_isAs_5  : Nat → Nat → Nat → Int32 → Int32 → Int32 → Mem → Option (Int32 × Mem)
  | 0, _, _, _, _, _, _ => none
  | n + 1, l0, l1, l2, l3, l4, M => (if (32 : Int32) ≤ l4 then retZ l3 (some (l3, M)) else (if l3 = 0 then fX9_isAs_39 (fX9_isAs_5  n) l0 l1 l2 l4 M else (rI M .int l1 (((32 : Int32) * l2) + l4) fun v1 => (gR M 9 45 l0 fun r2 => (rI M .int r2 l4 fun v3 => (if v1 = v3 then fX9_isAs_40 (fX9_isAs_5  n) l0 l1 l2 l4 (1 : Int32) M else fX9_isAs_39 (fX9_isAs_5  n) l0 l1 l2 l4 M))))))
set_option maxHeartbeats 4000000 in
set_option maxRecDepth 100000 in
theorem jX9_isAs_5 (G : Gx) (l : Launch)   : ∀ (n : Nat) (l0 : Nat) (l1 : Nat) (l2 : Int32) (l3 : Int32) (l4 : Int32) (M : Mem), J G l cX9_isAs 5 RX9 (some .boolean) "isAs" 0 0 (QM G (fun v : Int32 => some (.int v))) 5 [(0, .ref (adr G l0)), (1, .ref (adr G l1)), (2, .int l2), (3, .int l3), (4, .int l4)] [] M (fX9_isAs_5  n l0 l1 l2 l3 l4 M) := by
  intro n
  induction n with
  | zero => intro l0 l1 l2 l3 l4 M; exact J_none
  | succ n ih =>
    intro l0 l1 l2 l3 l4 M
    rw [fX9_isAs_5]
    refine J_iload dX9_isAs_5 4 rfl ?_
    refine J_bipush (v := 32) dX9_isAs_7 (by decide) ?_
    refine J_icmp_ge (tgt := 47) dX9_isAs_9 (by decide) ?_ ?_
    · refine J_iload_n dX9_isAs_47 3 rfl ?_
      exact J_zret dX9_isAs_48
    · refine J_iload_n dX9_isAs_12 3 rfl ?_
      refine J_if_eq (tgt := 39) dX9_isAs_13 (by decide) ?_ ?_
      · refine J_sub [0, 1, 2, 4] rfl ?_
        exact jX9_isAs_39 G l _ ih _ _ _ _ _
      · refine J_aload_n dX9_isAs_16 1 rfl ?_
        refine J_bipush (v := 32) dX9_isAs_17 (by decide) ?_
        refine J_iload_n dX9_isAs_19 2 rfl ?_
        refine J_imul dX9_isAs_20 ?_
        refine J_iload dX9_isAs_21 4 rfl ?_
        refine J_iadd dX9_isAs_23 ?_
        refine J_iald dX9_isAs_24 ?_
        refine J_aload_n dX9_isAs_25 0 rfl ?_
        refine J_getR fd_9_45 w_567 rfl dX9_isAs_26 (fun r2 => ?_)
        refine J_iload dX9_isAs_29 4 rfl ?_
        refine J_iald dX9_isAs_31 ?_
        refine J_icmp_ne (tgt := 39) dX9_isAs_32 (by decide) ?_ ?_
        · refine J_sub [0, 1, 2, 4] rfl ?_
          exact jX9_isAs_39 G l _ ih _ _ _ _ _
        · refine J_iconst (v := 1) dX9_isAs_35 (by decide) ?_
          refine J_goto (tgt := 40) dX9_isAs_36 (by decide) ?_
          refine J_sub [0, 1, 2, 4] rfl ?_
          exact jX9_isAs_40 G l _ ih _ _ _ _ _ _
def fX9_isAs (l0 : Nat) (l1 : Nat) (l2 : Int32) (M : Mem) : Option (Int32 × Mem) := fX9_isAs_5  FU l0 l1 l2 (1 : Int32) (0 : Int32) M
set_option maxHeartbeats 4000000 in
set_option maxRecDepth 100000 in
theorem jX9_isAs (G : Gx) (l : Launch) (l0 : Nat) (l1 : Nat) (l2 : Int32) (M : Mem) : J G l cX9_isAs 5 RX9 (some .boolean) "isAs" 0 0 (QM G (fun v : Int32 => some (.int v))) 0 [(0, .ref (adr G l0)), (1, .ref (adr G l1)), (2, .int l2)] [] M (fX9_isAs l0 l1 l2 M) := by
  unfold fX9_isAs
  refine J_iconst (v := 1) dX9_isAs_0 (by decide) ?_
  refine J_istore_n (lv' := [(3, .int _), (0, .ref _), (1, .ref _), (2, .int _)]) dX9_isAs_1 (by decide) rfl ?_
  refine J_iconst (v := 0) dX9_isAs_2 (by decide) ?_
  refine J_istore (lv' := [(4, .int _), (3, .int _), (0, .ref _), (1, .ref _), (2, .int _)]) dX9_isAs_3 (by decide) rfl ?_
  refine J_sub [2, 3, 4, 1, 0] rfl ?_
  exact jX9_isAs_5 G l   FU _ _ _ _ _ _
theorem okX9_isAs (G : Gx) (l : Launch) (l0 : Nat) (l1 : Nat) (l2 : Int32) (M : Mem) : Con G l yX9_isAs cX9_isAs 5 (some .boolean) 0 0 (fun v : Int32 => some (.int v)) [.ref (adr G l0), .ref (adr G l1), .int l2] M (fX9_isAs l0 l1 l2 M) := con_of (own := RX9) (nm := "isAs") (by decide +kernel) rfl rfl (Nat.le_of_ble_eq_true rfl) (jX9_isAs G l l0 l1 l2 M)
theorem mkX9_isAs : MOk yX9_isAs cX9_isAs 5 (some .boolean) 2 := ⟨w_736, tb1 (List.mem_of_getElem? (i := 10) rfl) rfl, by decide +kernel, by decide +kernel, by decide +kernel⟩
-- X9_verify
def fX9_verify_73  (s0 : Int32) (M : Mem) : Option (Int32 × Mem) := some (s0, M)
set_option maxHeartbeats 4000000 in
set_option maxRecDepth 100000 in
theorem jX9_verify_73 (G : Gx) (l : Launch)   (s0 : Int32) (M : Mem) : J G l cX9_verify 2 RX9 (some .int) "verify" 5 124 (QM G (fun v : Int32 => some (.int v))) 73 [] [.int s0] M (fX9_verify_73  s0 M) := by
  unfold fX9_verify_73
  exact J_iret dX9_verify_73
def fX9_verify_19   (M : Mem) : Option (Int32 × Mem) := some ((-1 : Int32), M)
set_option maxHeartbeats 4000000 in
set_option maxRecDepth 100000 in
theorem jX9_verify_19 (G : Gx) (l : Launch)    (M : Mem) : J G l cX9_verify 2 RX9 (some .int) "verify" 5 124 (QM G (fun v : Int32 => some (.int v))) 19 [] [] M (fX9_verify_19   M) := by
  unfold fX9_verify_19
  refine J_iconst (v := -1) dX9_verify_19 (by decide) ?_
  exact J_iret dX9_verify_20
def fX9_verify (l0 : Nat) (l1 : Int32) (M : Mem) : Option (Int32 × Mem) := (bd (fX9_in l1 (0 : Int32) (7 : Int32) M) fun v2 M1 => (if v2 = 0 then fX9_verify_19   M1 else (gR M1 9 49 l0 fun r3 => (rI M1 .boolean r3 l1 fun v4 => (if v4 = 0 then fX9_verify_19   M1 else (gR M1 9 48 l0 fun r5 => (rI M1 .int r5 l1 fun v6 => (cV M1 9 l0 (fX9_chain l0 v6 M1) fun _u8 M7 => (gR M7 9 50 l0 fun r9 => (cV M7 9 l0 (fX9_isAs l0 r9 l1 M7) fun v11 M10 => (if v11 = 0 then some ((1 : Int32), M10) else (gR M10 9 48 l0 fun r12 => (rI M10 .int r12 l1 fun v13 => (cV M10 9 l0 (fX9_tree l0 (0 : Int32) v13 M10) fun _u15 M14 => (gR M14 9 51 l0 fun r16 => (cV M14 9 l0 (fX9_isAs l0 r16 l1 M14) fun v18 M17 => (if v18 = 0 then fX9_verify_73  (2 : Int32) M17 else fX9_verify_73  (0 : Int32) M17)))))))))))))))))
set_option maxHeartbeats 4000000 in
set_option maxRecDepth 100000 in
theorem jX9_verify (G : Gx) (l : Launch) (l0 : Nat) (l1 : Int32) (M : Mem) : J G l cX9_verify 2 RX9 (some .int) "verify" 5 124 (QM G (fun v : Int32 => some (.int v))) 0 [(0, .ref (adr G l0)), (1, .int l1)] [] M (fX9_verify l0 l1 M) := by
  unfold fX9_verify
  refine J_iload_n dX9_verify_0 1 rfl ?_
  refine J_iconst (v := 0) dX9_verify_1 (by decide) ?_
  refine J_bipush (v := 7) dX9_verify_2 (by decide) ?_
  refine J_callSi (okX9_in G l _ _ _ _) mkX9_in w_665 w_664 ⟨by decide, by decide⟩ rfl (Nat.le_of_ble_eq_true rfl) dX9_verify_4 (fun v2 M1 => ?_)
  refine J_if_eq (tgt := 19) dX9_verify_7 (by decide) ?_ ?_
  · refine J_sub [] rfl ?_
    exact jX9_verify_19 G l    _
  · refine J_aload_n dX9_verify_10 0 rfl ?_
    refine J_getR fd_9_49 w_571 rfl dX9_verify_11 (fun r3 => ?_)
    refine J_iload_n dX9_verify_14 1 rfl ?_
    refine J_zald dX9_verify_15 ?_
    refine J_if_ne (tgt := 21) dX9_verify_16 (by decide) ?_ ?_
    · refine J_aload_n dX9_verify_21 0 rfl ?_
      refine J_aload_n dX9_verify_22 0 rfl ?_
      refine J_getR fd_9_48 w_570 rfl dX9_verify_23 (fun r5 => ?_)
      refine J_iload_n dX9_verify_26 1 rfl ?_
      refine J_iald dX9_verify_27 ?_
      refine J_callVv (okX9_chain G l _ _ _) mkX9_chain _ _ rfl w_731 w_732 w_733 ⟨by decide, by decide⟩ rfl (Nat.le_of_ble_eq_true rfl) dX9_verify_28 (fun _u8 M7 => ?_)
      refine J_aload_n dX9_verify_31 0 rfl ?_
      refine J_aload_n dX9_verify_32 0 rfl ?_
      refine J_getR fd_9_50 w_572 rfl dX9_verify_33 (fun r9 => ?_)
      refine J_iload_n dX9_verify_36 1 rfl ?_
      refine J_callVi (okX9_isAs G l _ _ _ _) mkX9_isAs _ _ rfl w_737 w_738 w_739 ⟨by decide, by decide⟩ rfl (Nat.le_of_ble_eq_true rfl) dX9_verify_37 (fun v11 M10 => ?_)
      refine J_if_ne (tgt := 45) dX9_verify_40 (by decide) ?_ ?_
      · refine J_aload_n dX9_verify_45 0 rfl ?_
        refine J_iconst (v := 0) dX9_verify_46 (by decide) ?_
        refine J_aload_n dX9_verify_47 0 rfl ?_
        refine J_getR fd_9_48 w_570 rfl dX9_verify_48 (fun r12 => ?_)
        refine J_iload_n dX9_verify_51 1 rfl ?_
        refine J_iald dX9_verify_52 ?_
        refine J_callVv (okX9_tree G l _ _ _ _) mkX9_tree _ _ rfl w_728 w_729 w_730 ⟨by decide, by decide⟩ rfl (Nat.le_of_ble_eq_true rfl) dX9_verify_53 (fun _u15 M14 => ?_)
        refine J_aload_n dX9_verify_56 0 rfl ?_
        refine J_aload_n dX9_verify_57 0 rfl ?_
        refine J_getR fd_9_51 w_573 rfl dX9_verify_58 (fun r16 => ?_)
        refine J_iload_n dX9_verify_61 1 rfl ?_
        refine J_callVi (okX9_isAs G l _ _ _ _) mkX9_isAs _ _ rfl w_737 w_738 w_739 ⟨by decide, by decide⟩ rfl (Nat.le_of_ble_eq_true rfl) dX9_verify_62 (fun v18 M17 => ?_)
        refine J_if_eq (tgt := 72) dX9_verify_65 (by decide) ?_ ?_
        · refine J_iconst (v := 2) dX9_verify_72 (by decide) ?_
          refine J_sub [] rfl ?_
          exact jX9_verify_73 G l   _ _
        · refine J_iconst (v := 0) dX9_verify_68 (by decide) ?_
          refine J_goto (tgt := 73) dX9_verify_69 (by decide) ?_
          refine J_sub [] rfl ?_
          exact jX9_verify_73 G l   _ _
      · refine J_iconst (v := 1) dX9_verify_43 (by decide) ?_
        exact J_iret dX9_verify_44
    · refine J_sub [] rfl ?_
      exact jX9_verify_19 G l    _
theorem okX9_verify (G : Gx) (l : Launch) (l0 : Nat) (l1 : Int32) (M : Mem) : Con G l yX9_verify cX9_verify 2 (some .int) 5 124 (fun v : Int32 => some (.int v)) [.ref (adr G l0), .int l1] M (fX9_verify l0 l1 M) := con_of (own := RX9) (nm := "verify") (by decide +kernel) rfl rfl (Nat.le_of_ble_eq_true rfl) (jX9_verify G l l0 l1 M)
theorem mkX9_verify : MOk yX9_verify cX9_verify 2 (some .int) 1 := ⟨w_740, tb1 (List.mem_of_getElem? (i := 10) rfl) rfl, by decide +kernel, by decide +kernel, by decide +kernel⟩
-- X9_half
def fX9_half_2  : Nat → Int32 → Int32 → Mem → Option (Int32 × Mem)
  | 0, _, _, _ => none
  | n + 1, l0, l1, M => (if l0 ≤ ((2 : Int32) * l1) then some (l1, M) else fX9_half_2  n l0 ((2 : Int32) * l1) M)
set_option maxHeartbeats 4000000 in
set_option maxRecDepth 100000 in
theorem jX9_half_2 (G : Gx) (l : Launch)   : ∀ (n : Nat) (l0 : Int32) (l1 : Int32) (M : Mem), J G l cX9_half 2 RX9 (some .int) "half" 0 0 (QM G (fun v : Int32 => some (.int v))) 2 [(0, .int l0), (1, .int l1)] [] M (fX9_half_2  n l0 l1 M) := by
  intro n
  induction n with
  | zero => intro l0 l1 M; exact J_none
  | succ n ih =>
    intro l0 l1 M
    rw [fX9_half_2]
    refine J_iconst (v := 2) dX9_half_2 (by decide) ?_
    refine J_iload_n dX9_half_3 1 rfl ?_
    refine J_imul dX9_half_4 ?_
    refine J_iload_n dX9_half_5 0 rfl ?_
    refine J_icmp_ge (tgt := 16) dX9_half_6 (by decide) ?_ ?_
    · refine J_iload_n dX9_half_16 1 rfl ?_
      exact J_iret dX9_half_17
    · refine J_iconst (v := 2) dX9_half_9 (by decide) ?_
      refine J_iload_n dX9_half_10 1 rfl ?_
      refine J_imul dX9_half_11 ?_
      refine J_istore_n (lv' := [(1, .int _), (0, .int _)]) dX9_half_12 (by decide) rfl ?_
      refine J_goto (tgt := 2) dX9_half_13 (by decide) ?_
      refine J_sub [1, 0] rfl ?_
      exact ih _ _ _
def fX9_half (l0 : Int32) (M : Mem) : Option (Int32 × Mem) := fX9_half_2  FU l0 (1 : Int32) M
set_option maxHeartbeats 4000000 in
set_option maxRecDepth 100000 in
theorem jX9_half (G : Gx) (l : Launch) (l0 : Int32) (M : Mem) : J G l cX9_half 2 RX9 (some .int) "half" 0 0 (QM G (fun v : Int32 => some (.int v))) 0 [(0, .int l0)] [] M (fX9_half l0 M) := by
  unfold fX9_half
  refine J_iconst (v := 1) dX9_half_0 (by decide) ?_
  refine J_istore_n (lv' := [(1, .int _), (0, .int _)]) dX9_half_1 (by decide) rfl ?_
  refine J_sub [1, 0] rfl ?_
  exact jX9_half_2 G l   FU _ _ _
theorem okX9_half (G : Gx) (l : Launch) (l0 : Int32) (M : Mem) : Con G l yX9_half cX9_half 2 (some .int) 0 0 (fun v : Int32 => some (.int v)) [.int l0] M (fX9_half l0 M) := con_of (own := RX9) (nm := "half") (by decide +kernel) rfl rfl (Nat.le_of_ble_eq_true rfl) (jX9_half G l l0 M)
theorem mkX9_half : MOk yX9_half cX9_half 2 (some .int) 1 := ⟨w_741, tb1 (List.mem_of_getElem? (i := 10) rfl) rfl, by decide +kernel, by decide +kernel, by decide +kernel⟩
-- X9_down
def fX9_down_202  (l0 : Nat) (l4 : Int32) (l5 : Int32) (M : Mem) : Option (Unit × Mem) := (pI M 9 61 l0 l4 fun M1 => (pI M1 9 62 l0 l5 fun M2 => some ((), M2)))
set_option maxHeartbeats 4000000 in
set_option maxRecDepth 100000 in
theorem jX9_down_202 (G : Gx) (l : Launch)   (l0 : Nat) (l4 : Int32) (l5 : Int32) (M : Mem) : J G l cX9_down 9 RX9 none "down" 1 21 (QM G (fun _ : Unit => none)) 202 [(0, .ref (adr G l0)), (4, .int l4), (5, .int l5)] [] M (fX9_down_202  l0 l4 l5 M) := by
  unfold fX9_down_202
  refine J_aload_n dX9_down_202 0 rfl ?_
  refine J_iload dX9_down_203 1 rfl ?_
  refine J_putI fd_9_61 w_742 dX9_down_205 ?_
  refine J_aload_n dX9_down_208 0 rfl ?_
  refine J_iload dX9_down_209 2 rfl ?_
  refine J_putI fd_9_62 w_743 dX9_down_211 ?_
  exact J_vret dX9_down_214
def fX9_down_189 (k19 : Nat → Int32 → Int32 → Int32 → Int32 → Mem → Option (Unit × Mem)) (l0 : Nat) (l3 : Int32) (l4 : Int32) (l5 : Int32) (l6 : Int32) (M : Mem) : Option (Unit × Mem) := (gI M 9 60 l0 fun v1 => (pI M 9 60 l0 (v1 + (1 : Int32)) fun M2 => k19 l0 l3 l4 l5 l6 M2))
set_option maxHeartbeats 4000000 in
set_option maxRecDepth 100000 in
theorem jX9_down_189 (G : Gx) (l : Launch) (k19 : Nat → Int32 → Int32 → Int32 → Int32 → Mem → Option (Unit × Mem)) (h19 : ∀ (l0 : Nat) (l3 : Int32) (l4 : Int32) (l5 : Int32) (l6 : Int32) (M : Mem), J G l cX9_down 9 RX9 none "down" 1 21 (QM G (fun _ : Unit => none)) 19 [(0, .ref (adr G l0)), (3, .int l3), (4, .int l4), (5, .int l5), (6, .int l6)] [] M (k19 l0 l3 l4 l5 l6 M)) (l0 : Nat) (l3 : Int32) (l4 : Int32) (l5 : Int32) (l6 : Int32) (M : Mem) : J G l cX9_down 9 RX9 none "down" 1 21 (QM G (fun _ : Unit => none)) 189 [(0, .ref (adr G l0)), (3, .int l3), (4, .int l4), (5, .int l5), (6, .int l6)] [] M (fX9_down_189 k19 l0 l3 l4 l5 l6 M) := by
  unfold fX9_down_189
  refine J_aload_n dX9_down_189 0 rfl ?_
  refine J_dup dX9_down_190 rfl ?_
  refine J_getI fd_9_60 w_744 rfl dX9_down_191 ?_
  refine J_iconst (v := 1) dX9_down_194 (by decide) ?_
  refine J_iadd dX9_down_195 ?_
  refine J_putI fd_9_60 w_744 dX9_down_196 ?_
  refine J_goto (tgt := 19) dX9_down_199 (by decide) ?_
  refine J_sub [0, 1, 2, 3, 4] rfl ?_
  exact h19 _ _ _ _ _ _
def fX9_down_154 (k19 : Nat → Int32 → Int32 → Int32 → Int32 → Mem → Option (Unit × Mem)) (l0 : Nat) (l3 : Int32) (l4 : Int32) (l5 : Int32) (l6 : Int32) (l7 : Int32) (l8 : Int32) (s0 : Int32) (s1 : Int32) (s2 : Nat) (M : Mem) : Option (Unit × Mem) := (wI M .int s2 s1 s0 fun M1 => (if l8 = 0 then (pZ M1 9 63 l0 (0 : Int32) fun M2 => fX9_down_189 k19 l0 l3 (l4 + l7) l5 (l6 - l7) M2) else fX9_down_189 k19 l0 l3 l4 (l4 + l7) l6 M1))
set_option maxHeartbeats 4000000 in
set_option maxRecDepth 100000 in
theorem jX9_down_154 (G : Gx) (l : Launch) (k19 : Nat → Int32 → Int32 → Int32 → Int32 → Mem → Option (Unit × Mem)) (h19 : ∀ (l0 : Nat) (l3 : Int32) (l4 : Int32) (l5 : Int32) (l6 : Int32) (M : Mem), J G l cX9_down 9 RX9 none "down" 1 21 (QM G (fun _ : Unit => none)) 19 [(0, .ref (adr G l0)), (3, .int l3), (4, .int l4), (5, .int l5), (6, .int l6)] [] M (k19 l0 l3 l4 l5 l6 M)) (l0 : Nat) (l3 : Int32) (l4 : Int32) (l5 : Int32) (l6 : Int32) (l7 : Int32) (l8 : Int32) (s0 : Int32) (s1 : Int32) (s2 : Nat) (M : Mem) : J G l cX9_down 9 RX9 none "down" 1 21 (QM G (fun _ : Unit => none)) 154 [(0, .ref (adr G l0)), (3, .int l3), (4, .int l4), (5, .int l5), (6, .int l6), (7, .int l7), (8, .int l8)] [.int s0, .int s1, .ref (adr G s2)] M (fX9_down_154 k19 l0 l3 l4 l5 l6 l7 l8 s0 s1 s2 M) := by
  unfold fX9_down_154
  refine J_iast dX9_down_154 ?_
  refine J_iload dX9_down_155 6 rfl ?_
  refine J_if_eq (tgt := 170) dX9_down_157 (by decide) ?_ ?_
  · refine J_iload dX9_down_170 2 rfl ?_
    refine J_iload dX9_down_172 5 rfl ?_
    refine J_iadd dX9_down_174 ?_
    refine J_istore (lv' := [(4, .int _), (0, .ref _), (3, .int _), (5, .int _), (6, .int _), (7, .int _), (8, .int _)]) dX9_down_175 (by decide) rfl ?_
    refine J_iload dX9_down_177 4 rfl ?_
    refine J_iload dX9_down_179 5 rfl ?_
    refine J_isub dX9_down_181 ?_
    refine J_istore (lv' := [(6, .int _), (4, .int _), (0, .ref _), (3, .int _), (5, .int _), (7, .int _), (8, .int _)]) dX9_down_182 (by decide) rfl ?_
    refine J_aload_n dX9_down_184 2 rfl ?_
    refine J_iconst (v := 0) dX9_down_185 (by decide) ?_
    refine J_putZ fd_9_63 w_745 dX9_down_186 ?_
    refine J_sub [2, 3, 1, 4, 0] rfl ?_
    exact jX9_down_189 G l _ h19 _ _ _ _ _ _
  · refine J_iload dX9_down_160 2 rfl ?_
    refine J_iload dX9_down_162 5 rfl ?_
    refine J_iadd dX9_down_164 ?_
    refine J_istore (lv' := [(5, .int _), (0, .ref _), (3, .int _), (4, .int _), (6, .int _), (7, .int _), (8, .int _)]) dX9_down_165 (by decide) rfl ?_
    refine J_goto (tgt := 189) dX9_down_167 (by decide) ?_
    refine J_sub [1, 2, 3, 0, 4] rfl ?_
    exact jX9_down_189 G l _ h19 _ _ _ _ _ _
def fX9_down_130 (k19 : Nat → Int32 → Int32 → Int32 → Int32 → Mem → Option (Unit × Mem)) (l0 : Nat) (l3 : Int32) (l4 : Int32) (l5 : Int32) (l6 : Int32) (l7 : Int32) (l8 : Int32) (s0 : Int32) (s1 : Int32) (s2 : Nat) (M : Mem) : Option (Unit × Mem) := (wI M .int s2 s1 s0 fun M1 => (gR M1 9 59 l0 fun r2 => (gI M1 9 60 l0 fun v3 => (if l8 = 0 then fX9_down_154 k19 l0 l3 l4 l5 l6 l7 l8 (l4 + l7) v3 r2 M1 else fX9_down_154 k19 l0 l3 l4 l5 l6 l7 l8 l5 v3 r2 M1))))
set_option maxHeartbeats 4000000 in
set_option maxRecDepth 100000 in
theorem jX9_down_130 (G : Gx) (l : Launch) (k19 : Nat → Int32 → Int32 → Int32 → Int32 → Mem → Option (Unit × Mem)) (h19 : ∀ (l0 : Nat) (l3 : Int32) (l4 : Int32) (l5 : Int32) (l6 : Int32) (M : Mem), J G l cX9_down 9 RX9 none "down" 1 21 (QM G (fun _ : Unit => none)) 19 [(0, .ref (adr G l0)), (3, .int l3), (4, .int l4), (5, .int l5), (6, .int l6)] [] M (k19 l0 l3 l4 l5 l6 M)) (l0 : Nat) (l3 : Int32) (l4 : Int32) (l5 : Int32) (l6 : Int32) (l7 : Int32) (l8 : Int32) (s0 : Int32) (s1 : Int32) (s2 : Nat) (M : Mem) : J G l cX9_down 9 RX9 none "down" 1 21 (QM G (fun _ : Unit => none)) 130 [(0, .ref (adr G l0)), (3, .int l3), (4, .int l4), (5, .int l5), (6, .int l6), (7, .int l7), (8, .int l8)] [.int s0, .int s1, .ref (adr G s2)] M (fX9_down_130 k19 l0 l3 l4 l5 l6 l7 l8 s0 s1 s2 M) := by
  unfold fX9_down_130
  refine J_iast dX9_down_130 ?_
  refine J_aload_n dX9_down_131 0 rfl ?_
  refine J_getR fd_9_59 w_577 rfl dX9_down_132 (fun r2 => ?_)
  refine J_aload_n dX9_down_135 0 rfl ?_
  refine J_getI fd_9_60 w_744 rfl dX9_down_136 ?_
  refine J_iload dX9_down_139 6 rfl ?_
  refine J_if_eq (tgt := 149) dX9_down_141 (by decide) ?_ ?_
  · refine J_iload dX9_down_149 2 rfl ?_
    refine J_iload dX9_down_151 5 rfl ?_
    refine J_iadd dX9_down_153 ?_
    refine J_sub [0, 1, 2, 3, 4, 5, 6] rfl ?_
    exact jX9_down_154 G l _ h19 _ _ _ _ _ _ _ _ _ _ _
  · refine J_iload dX9_down_144 3 rfl ?_
    refine J_goto (tgt := 154) dX9_down_146 (by decide) ?_
    refine J_sub [0, 1, 2, 3, 4, 5, 6] rfl ?_
    exact jX9_down_154 G l _ h19 _ _ _ _ _ _ _ _ _ _ _
def fX9_down_106 (k19 : Nat → Int32 → Int32 → Int32 → Int32 → Mem → Option (Unit × Mem)) (l0 : Nat) (l3 : Int32) (l4 : Int32) (l5 : Int32) (l6 : Int32) (l7 : Int32) (l8 : Int32) (s0 : Int32) (s1 : Int32) (s2 : Nat) (M : Mem) : Option (Unit × Mem) := (wI M .boolean s2 s1 s0 fun M1 => (gR M1 9 58 l0 fun r2 => (gI M1 9 60 l0 fun v3 => (if l8 = 0 then fX9_down_130 k19 l0 l3 l4 l5 l6 l7 l8 l4 v3 r2 M1 else fX9_down_130 k19 l0 l3 l4 l5 l6 l7 l8 (l4 + l7) v3 r2 M1))))
set_option maxHeartbeats 4000000 in
set_option maxRecDepth 100000 in
theorem jX9_down_106 (G : Gx) (l : Launch) (k19 : Nat → Int32 → Int32 → Int32 → Int32 → Mem → Option (Unit × Mem)) (h19 : ∀ (l0 : Nat) (l3 : Int32) (l4 : Int32) (l5 : Int32) (l6 : Int32) (M : Mem), J G l cX9_down 9 RX9 none "down" 1 21 (QM G (fun _ : Unit => none)) 19 [(0, .ref (adr G l0)), (3, .int l3), (4, .int l4), (5, .int l5), (6, .int l6)] [] M (k19 l0 l3 l4 l5 l6 M)) (l0 : Nat) (l3 : Int32) (l4 : Int32) (l5 : Int32) (l6 : Int32) (l7 : Int32) (l8 : Int32) (s0 : Int32) (s1 : Int32) (s2 : Nat) (M : Mem) : J G l cX9_down 9 RX9 none "down" 1 21 (QM G (fun _ : Unit => none)) 106 [(0, .ref (adr G l0)), (3, .int l3), (4, .int l4), (5, .int l5), (6, .int l6), (7, .int l7), (8, .int l8)] [.int s0, .int s1, .ref (adr G s2)] M (fX9_down_106 k19 l0 l3 l4 l5 l6 l7 l8 s0 s1 s2 M) := by
  unfold fX9_down_106
  refine J_zast dX9_down_106 ?_
  refine J_aload_n dX9_down_107 0 rfl ?_
  refine J_getR fd_9_58 w_576 rfl dX9_down_108 (fun r2 => ?_)
  refine J_aload_n dX9_down_111 0 rfl ?_
  refine J_getI fd_9_60 w_744 rfl dX9_down_112 ?_
  refine J_iload dX9_down_115 6 rfl ?_
  refine J_if_eq (tgt := 128) dX9_down_117 (by decide) ?_ ?_
  · refine J_iload dX9_down_128 2 rfl ?_
    refine J_sub [0, 1, 2, 3, 4, 5, 6] rfl ?_
    exact jX9_down_130 G l _ h19 _ _ _ _ _ _ _ _ _ _ _
  · refine J_iload dX9_down_120 2 rfl ?_
    refine J_iload dX9_down_122 5 rfl ?_
    refine J_iadd dX9_down_124 ?_
    refine J_goto (tgt := 130) dX9_down_125 (by decide) ?_
    refine J_sub [0, 1, 2, 3, 4, 5, 6] rfl ?_
    exact jX9_down_130 G l _ h19 _ _ _ _ _ _ _ _ _ _ _
def fX9_down_86 (k19 : Nat → Int32 → Int32 → Int32 → Int32 → Mem → Option (Unit × Mem)) (l0 : Nat) (l3 : Int32) (l4 : Int32) (l5 : Int32) (l6 : Int32) (l7 : Int32) (s0 : Int32) (M : Mem) : Option (Unit × Mem) := (gR M 9 57 l0 fun r1 => (gI M 9 60 l0 fun v2 => (if s0 = 0 then fX9_down_106 k19 l0 l3 l4 l5 l6 l7 s0 (1 : Int32) v2 r1 M else fX9_down_106 k19 l0 l3 l4 l5 l6 l7 s0 (0 : Int32) v2 r1 M)))
set_option maxHeartbeats 4000000 in
set_option maxRecDepth 100000 in
theorem jX9_down_86 (G : Gx) (l : Launch) (k19 : Nat → Int32 → Int32 → Int32 → Int32 → Mem → Option (Unit × Mem)) (h19 : ∀ (l0 : Nat) (l3 : Int32) (l4 : Int32) (l5 : Int32) (l6 : Int32) (M : Mem), J G l cX9_down 9 RX9 none "down" 1 21 (QM G (fun _ : Unit => none)) 19 [(0, .ref (adr G l0)), (3, .int l3), (4, .int l4), (5, .int l5), (6, .int l6)] [] M (k19 l0 l3 l4 l5 l6 M)) (l0 : Nat) (l3 : Int32) (l4 : Int32) (l5 : Int32) (l6 : Int32) (l7 : Int32) (s0 : Int32) (M : Mem) : J G l cX9_down 9 RX9 none "down" 1 21 (QM G (fun _ : Unit => none)) 86 [(0, .ref (adr G l0)), (3, .int l3), (4, .int l4), (5, .int l5), (6, .int l6), (7, .int l7)] [.int s0] M (fX9_down_86 k19 l0 l3 l4 l5 l6 l7 s0 M) := by
  unfold fX9_down_86
  refine J_istore (lv' := [(8, .int _), (0, .ref _), (3, .int _), (4, .int _), (5, .int _), (6, .int _), (7, .int _)]) dX9_down_86 (by decide) rfl ?_
  refine J_aload_n dX9_down_88 1 rfl ?_
  refine J_getR fd_9_57 w_575 rfl dX9_down_89 (fun r1 => ?_)
  refine J_aload_n dX9_down_92 1 rfl ?_
  refine J_getI fd_9_60 w_744 rfl dX9_down_93 ?_
  refine J_iload dX9_down_96 0 rfl ?_
  refine J_if_ne (tgt := 105) dX9_down_98 (by decide) ?_ ?_
  · refine J_iconst (v := 0) dX9_down_105 (by decide) ?_
    refine J_sub [1, 2, 3, 4, 5, 6, 0] rfl ?_
    exact jX9_down_106 G l _ h19 _ _ _ _ _ _ _ _ _ _ _
  · refine J_iconst (v := 1) dX9_down_101 (by decide) ?_
    refine J_goto (tgt := 106) dX9_down_102 (by decide) ?_
    refine J_sub [1, 2, 3, 4, 5, 6, 0] rfl ?_
    exact jX9_down_106 G l _ h19 _ _ _ _ _ _ _ _ _ _ _
def fX9_down_45 (k19 : Nat → Int32 → Int32 → Int32 → Int32 → Mem → Option (Unit × Mem)) (l0 : Nat) (l3 : Int32) (l4 : Int32) (l5 : Int32) (l6 : Int32) (M : Mem) : Option (Unit × Mem) := (bd (fX9_half (l5 - l4) M) fun v2 M1 => (if l3 = 0 then (if v2 < l6 then fX9_down_86 k19 l0 l3 l4 l5 l6 v2 (0 : Int32) M1 else fX9_down_86 k19 l0 l3 l4 l5 l6 v2 (1 : Int32) M1) else (if v2 ≤ l6 then fX9_down_86 k19 l0 l3 l4 l5 l6 v2 (0 : Int32) M1 else fX9_down_86 k19 l0 l3 l4 l5 l6 v2 (1 : Int32) M1)))
set_option maxHeartbeats 4000000 in
set_option maxRecDepth 100000 in
theorem jX9_down_45 (G : Gx) (l : Launch) (k19 : Nat → Int32 → Int32 → Int32 → Int32 → Mem → Option (Unit × Mem)) (h19 : ∀ (l0 : Nat) (l3 : Int32) (l4 : Int32) (l5 : Int32) (l6 : Int32) (M : Mem), J G l cX9_down 9 RX9 none "down" 1 21 (QM G (fun _ : Unit => none)) 19 [(0, .ref (adr G l0)), (3, .int l3), (4, .int l4), (5, .int l5), (6, .int l6)] [] M (k19 l0 l3 l4 l5 l6 M)) (l0 : Nat) (l3 : Int32) (l4 : Int32) (l5 : Int32) (l6 : Int32) (M : Mem) : J G l cX9_down 9 RX9 none "down" 1 21 (QM G (fun _ : Unit => none)) 45 [(0, .ref (adr G l0)), (3, .int l3), (4, .int l4), (5, .int l5), (6, .int l6)] [] M (fX9_down_45 k19 l0 l3 l4 l5 l6 M) := by
  unfold fX9_down_45
  refine J_iload dX9_down_45 3 rfl ?_
  refine J_iload dX9_down_47 2 rfl ?_
  refine J_isub dX9_down_49 ?_
  refine J_callSi (okX9_half G l _ _) mkX9_half w_747 w_746 ⟨by decide, by decide⟩ rfl (Nat.le_of_ble_eq_true rfl) dX9_down_50 (fun v2 M1 => ?_)
  refine J_istore (lv' := [(7, .int _), (0, .ref _), (3, .int _), (4, .int _), (5, .int _), (6, .int _)]) dX9_down_53 (by decide) rfl ?_
  refine J_iload_n dX9_down_55 2 rfl ?_
  refine J_if_eq (tgt := 74) dX9_down_56 (by decide) ?_ ?_
  · refine J_iload dX9_down_74 5 rfl ?_
    refine J_iload dX9_down_76 0 rfl ?_
    refine J_icmp_gt (tgt := 85) dX9_down_78 (by decide) ?_ ?_
    · refine J_iconst (v := 0) dX9_down_85 (by decide) ?_
      refine J_sub [1, 2, 3, 4, 5, 0] rfl ?_
      exact jX9_down_86 G l _ h19 _ _ _ _ _ _ _ _
    · refine J_iconst (v := 1) dX9_down_81 (by decide) ?_
      refine J_goto (tgt := 86) dX9_down_82 (by decide) ?_
      refine J_sub [1, 2, 3, 4, 5, 0] rfl ?_
      exact jX9_down_86 G l _ h19 _ _ _ _ _ _ _ _
  · refine J_iload dX9_down_59 5 rfl ?_
    refine J_iload dX9_down_61 0 rfl ?_
    refine J_icmp_ge (tgt := 70) dX9_down_63 (by decide) ?_ ?_
    · refine J_iconst (v := 0) dX9_down_70 (by decide) ?_
      refine J_goto (tgt := 86) dX9_down_71 (by decide) ?_
      refine J_sub [1, 2, 3, 4, 5, 0] rfl ?_
      exact jX9_down_86 G l _ h19 _ _ _ _ _ _ _ _
    · refine J_iconst (v := 1) dX9_down_66 (by decide) ?_
      refine J_goto (tgt := 86) dX9_down_67 (by decide) ?_
      refine J_sub [1, 2, 3, 4, 5, 0] rfl ?_
      exact jX9_down_86 G l _ h19 _ _ _ _ _ _ _ _
def fX9_down_19  : Nat → Nat → Int32 → Int32 → Int32 → Int32 → Mem → Option (Unit × Mem)
  | 0, _, _, _, _, _, _ => none
  | n + 1, l0, l3, l4, l5, l6, M => (if l3 = 0 then (if l6 = (l5 - l4) then fX9_down_202  l0 l4 l5 M else fX9_down_45 (fX9_down_19  n) l0 l3 l4 l5 l6 M) else (if (l5 - l4) ≤ (1 : Int32) then fX9_down_202  l0 l4 l5 M else fX9_down_45 (fX9_down_19  n) l0 l3 l4 l5 l6 M))
set_option maxHeartbeats 4000000 in
set_option maxRecDepth 100000 in
theorem jX9_down_19 (G : Gx) (l : Launch)   : ∀ (n : Nat) (l0 : Nat) (l3 : Int32) (l4 : Int32) (l5 : Int32) (l6 : Int32) (M : Mem), J G l cX9_down 9 RX9 none "down" 1 21 (QM G (fun _ : Unit => none)) 19 [(0, .ref (adr G l0)), (3, .int l3), (4, .int l4), (5, .int l5), (6, .int l6)] [] M (fX9_down_19  n l0 l3 l4 l5 l6 M) := by
  intro n
  induction n with
  | zero => intro l0 l3 l4 l5 l6 M; exact J_none
  | succ n ih =>
    intro l0 l3 l4 l5 l6 M
    rw [fX9_down_19]
    refine J_iload_n dX9_down_19 1 rfl ?_
    refine J_if_eq (tgt := 35) dX9_down_20 (by decide) ?_ ?_
    · refine J_iload dX9_down_35 4 rfl ?_
      refine J_iload dX9_down_37 3 rfl ?_
      refine J_iload dX9_down_39 2 rfl ?_
      refine J_isub dX9_down_41 ?_
      refine J_icmp_eq (tgt := 202) dX9_down_42 (by decide) ?_ ?_
      · refine J_sub [0, 2, 3] rfl ?_
        exact jX9_down_202 G l   _ _ _ _
      · refine J_sub [0, 1, 2, 3, 4] rfl ?_
        exact jX9_down_45 G l _ ih _ _ _ _ _ _
    · refine J_iload dX9_down_23 3 rfl ?_
      refine J_iload dX9_down_25 2 rfl ?_
      refine J_isub dX9_down_27 ?_
      refine J_iconst (v := 1) dX9_down_28 (by decide) ?_
      refine J_icmp_le (tgt := 202) dX9_down_29 (by decide) ?_ ?_
      · refine J_sub [0, 2, 3] rfl ?_
        exact jX9_down_202 G l   _ _ _ _
      · refine J_goto (tgt := 45) dX9_down_32 (by decide) ?_
        refine J_sub [0, 1, 2, 3, 4] rfl ?_
        exact jX9_down_45 G l _ ih _ _ _ _ _ _
def fX9_down (l0 : Nat) (l1 : Int32) (l2 : Int32) (l3 : Int32) (M : Mem) : Option (Unit × Mem) := (pZ M 9 63 l0 (1 : Int32) fun M1 => (pI M1 9 60 l0 (0 : Int32) fun M2 => fX9_down_19  FU l0 l3 (0 : Int32) l2 l1 M2))
set_option maxHeartbeats 4000000 in
set_option maxRecDepth 100000 in
theorem jX9_down (G : Gx) (l : Launch) (l0 : Nat) (l1 : Int32) (l2 : Int32) (l3 : Int32) (M : Mem) : J G l cX9_down 9 RX9 none "down" 1 21 (QM G (fun _ : Unit => none)) 0 [(0, .ref (adr G l0)), (1, .int l1), (2, .int l2), (3, .int l3)] [] M (fX9_down l0 l1 l2 l3 M) := by
  unfold fX9_down
  refine J_iconst (v := 0) dX9_down_0 (by decide) ?_
  refine J_istore (lv' := [(4, .int _), (0, .ref _), (1, .int _), (2, .int _), (3, .int _)]) dX9_down_1 (by decide) rfl ?_
  refine J_iload_n dX9_down_3 3 rfl ?_
  refine J_istore (lv' := [(5, .int _), (4, .int _), (0, .ref _), (1, .int _), (2, .int _), (3, .int _)]) dX9_down_4 (by decide) rfl ?_
  refine J_iload_n dX9_down_6 3 rfl ?_
  refine J_istore (lv' := [(6, .int _), (5, .int _), (4, .int _), (0, .ref _), (1, .int _), (2, .int _), (3, .int _)]) dX9_down_7 (by decide) rfl ?_
  refine J_aload_n dX9_down_9 3 rfl ?_
  refine J_iconst (v := 1) dX9_down_10 (by decide) ?_
  refine J_putZ fd_9_63 w_745 dX9_down_11 ?_
  refine J_aload_n dX9_down_14 3 rfl ?_
  refine J_iconst (v := 0) dX9_down_15 (by decide) ?_
  refine J_putI fd_9_60 w_744 dX9_down_16 ?_
  refine J_sub [3, 6, 2, 1, 0] rfl ?_
  exact jX9_down_19 G l   FU _ _ _ _ _ _
theorem okX9_down (G : Gx) (l : Launch) (l0 : Nat) (l1 : Int32) (l2 : Int32) (l3 : Int32) (M : Mem) : Con G l yX9_down cX9_down 9 none 1 21 (fun _ : Unit => none) [.ref (adr G l0), .int l1, .int l2, .int l3] M (fX9_down l0 l1 l2 l3 M) := con_of (own := RX9) (nm := "down") (by decide +kernel) rfl rfl (Nat.le_of_ble_eq_true rfl) (jX9_down G l l0 l1 l2 l3 M)
theorem mkX9_down : MOk yX9_down cX9_down 9 none 3 := ⟨w_748, tb1 (List.mem_of_getElem? (i := 10) rfl) rfl, by decide +kernel, by decide +kernel, by decide +kernel⟩
-- X9_step
def fX9_step_2  : Nat → Nat → Int32 → Mem → Option (Unit × Mem)
  | 0, _, _, _ => none
  | n + 1, l0, l1, M => (if (32 : Int32) ≤ l1 then (gI M 9 55 l0 fun v1 => (pI M 9 55 l0 (v1 + (1 : Int32)) fun M2 => some ((), M2))) else (gR M 9 56 l0 fun r3 => (gI M 9 55 l0 fun v4 => (gR M 9 45 l0 fun r5 => (rI M .int r5 l1 fun v6 => (wI M .int r3 (((32 : Int32) * v4) + l1) v6 fun M7 => fX9_step_2  n l0 (l1 + (1 : Int32)) M7))))))
set_option maxHeartbeats 4000000 in
set_option maxRecDepth 100000 in
theorem jX9_step_2 (G : Gx) (l : Launch)   : ∀ (n : Nat) (l0 : Nat) (l1 : Int32) (M : Mem), J G l cX9_step 2 RX9 none "step" 0 0 (QM G (fun _ : Unit => none)) 2 [(0, .ref (adr G l0)), (1, .int l1)] [] M (fX9_step_2  n l0 l1 M) := by
  intro n
  induction n with
  | zero => intro l0 l1 M; exact J_none
  | succ n ih =>
    intro l0 l1 M
    rw [fX9_step_2]
    refine J_iload_n dX9_step_2 1 rfl ?_
    refine J_bipush (v := 32) dX9_step_3 (by decide) ?_
    refine J_icmp_ge (tgt := 34) dX9_step_5 (by decide) ?_ ?_
    · refine J_aload_n dX9_step_34 0 rfl ?_
      refine J_dup dX9_step_35 rfl ?_
      refine J_getI fd_9_55 w_749 rfl dX9_step_36 ?_
      refine J_iconst (v := 1) dX9_step_39 (by decide) ?_
      refine J_iadd dX9_step_40 ?_
      refine J_putI fd_9_55 w_749 dX9_step_41 ?_
      exact J_vret dX9_step_44
    · refine J_aload_n dX9_step_8 0 rfl ?_
      refine J_getR fd_9_56 w_574 rfl dX9_step_9 (fun r3 => ?_)
      refine J_bipush (v := 32) dX9_step_12 (by decide) ?_
      refine J_aload_n dX9_step_14 0 rfl ?_
      refine J_getI fd_9_55 w_749 rfl dX9_step_15 ?_
      refine J_imul dX9_step_18 ?_
      refine J_iload_n dX9_step_19 1 rfl ?_
      refine J_iadd dX9_step_20 ?_
      refine J_aload_n dX9_step_21 0 rfl ?_
      refine J_getR fd_9_45 w_567 rfl dX9_step_22 (fun r5 => ?_)
      refine J_iload_n dX9_step_25 1 rfl ?_
      refine J_iald dX9_step_26 ?_
      refine J_iast dX9_step_27 ?_
      refine J_iincK (z := 1) (lv' := [(1, .int _), (0, .ref _)]) dX9_step_28 1 rfl (by decide) (by decide) rfl ?_
      refine J_goto (tgt := 2) dX9_step_31 (by decide) ?_
      refine J_sub [1, 0] rfl ?_
      exact ih _ _ _
def fX9_step (l0 : Nat) (M : Mem) : Option (Unit × Mem) := fX9_step_2  FU l0 (0 : Int32) M
set_option maxHeartbeats 4000000 in
set_option maxRecDepth 100000 in
theorem jX9_step (G : Gx) (l : Launch) (l0 : Nat) (M : Mem) : J G l cX9_step 2 RX9 none "step" 0 0 (QM G (fun _ : Unit => none)) 0 [(0, .ref (adr G l0))] [] M (fX9_step l0 M) := by
  unfold fX9_step
  refine J_iconst (v := 0) dX9_step_0 (by decide) ?_
  refine J_istore_n (lv' := [(1, .int _), (0, .ref _)]) dX9_step_1 (by decide) rfl ?_
  refine J_sub [1, 0] rfl ?_
  exact jX9_step_2 G l   FU _ _ _
theorem okX9_step (G : Gx) (l : Launch) (l0 : Nat) (M : Mem) : Con G l yX9_step cX9_step 2 none 0 0 (fun _ : Unit => none) [.ref (adr G l0)] M (fX9_step l0 M) := con_of (own := RX9) (nm := "step") (by decide +kernel) rfl rfl (Nat.le_of_ble_eq_true rfl) (jX9_step G l l0 M)
theorem mkX9_step : MOk yX9_step cX9_step 2 none 0 := ⟨w_750, tb1 (List.mem_of_getElem? (i := 10) rfl) rfl, by decide +kernel, by decide +kernel, by decide +kernel⟩
-- X9_sides
def fX9_sides_7  : Nat → Nat → Int32 → Mem → Option (Unit × Mem)
  | 0, _, _, _ => none
  | n + 1, l0, l1, M => (if l1 < 0 then some ((), M) else (gR M 9 58 l0 fun r1 => (rI M .int r1 l1 fun v2 => (gR M 9 59 l0 fun r3 => (rI M .int r3 l1 fun v4 => (cV M 9 l0 (fX9_tree l0 v2 v4 M) fun _u6 M5 => (cV M5 9 l0 (fX9_step l0 M5) fun _u8 M7 => fX9_sides_7  n l0 (l1 + (-1 : Int32)) M7)))))))
set_option maxHeartbeats 4000000 in
set_option maxRecDepth 100000 in
theorem jX9_sides_7 (G : Gx) (l : Launch)   : ∀ (n : Nat) (l0 : Nat) (l1 : Int32) (M : Mem), J G l cX9_sides 2 RX9 none "sides" 5 124 (QM G (fun _ : Unit => none)) 7 [(0, .ref (adr G l0)), (1, .int l1)] [] M (fX9_sides_7  n l0 l1 M) := by
  intro n
  induction n with
  | zero => intro l0 l1 M; exact J_none
  | succ n ih =>
    intro l0 l1 M
    rw [fX9_sides_7]
    refine J_iload_n dX9_sides_7 1 rfl ?_
    refine J_if_lt (tgt := 37) dX9_sides_8 (by decide) ?_ ?_
    · exact J_vret dX9_sides_37
    · refine J_aload_n dX9_sides_11 0 rfl ?_
      refine J_aload_n dX9_sides_12 0 rfl ?_
      refine J_getR fd_9_58 w_576 rfl dX9_sides_13 (fun r1 => ?_)
      refine J_iload_n dX9_sides_16 1 rfl ?_
      refine J_iald dX9_sides_17 ?_
      refine J_aload_n dX9_sides_18 0 rfl ?_
      refine J_getR fd_9_59 w_577 rfl dX9_sides_19 (fun r3 => ?_)
      refine J_iload_n dX9_sides_22 1 rfl ?_
      refine J_iald dX9_sides_23 ?_
      refine J_callVv (okX9_tree G l _ _ _ _) mkX9_tree _ _ rfl w_728 w_729 w_730 ⟨by decide, by decide⟩ rfl (Nat.le_of_ble_eq_true rfl) dX9_sides_24 (fun _u6 M5 => ?_)
      refine J_aload_n dX9_sides_27 0 rfl ?_
      refine J_callVv (okX9_step G l _ _) mkX9_step _ _ rfl w_751 w_752 w_753 ⟨by decide, by decide⟩ rfl (Nat.le_of_ble_eq_true rfl) dX9_sides_28 (fun _u8 M7 => ?_)
      refine J_iincK (z := -1) (lv' := [(1, .int _), (0, .ref _)]) dX9_sides_31 1 rfl (by decide) (by decide) rfl ?_
      refine J_goto (tgt := 7) dX9_sides_34 (by decide) ?_
      refine J_sub [1, 0] rfl ?_
      exact ih _ _ _
def fX9_sides (l0 : Nat) (M : Mem) : Option (Unit × Mem) := (gI M 9 60 l0 fun v1 => fX9_sides_7  FU l0 (v1 - (1 : Int32)) M)
set_option maxHeartbeats 4000000 in
set_option maxRecDepth 100000 in
theorem jX9_sides (G : Gx) (l : Launch) (l0 : Nat) (M : Mem) : J G l cX9_sides 2 RX9 none "sides" 5 124 (QM G (fun _ : Unit => none)) 0 [(0, .ref (adr G l0))] [] M (fX9_sides l0 M) := by
  unfold fX9_sides
  refine J_aload_n dX9_sides_0 0 rfl ?_
  refine J_getI fd_9_60 w_744 rfl dX9_sides_1 ?_
  refine J_iconst (v := 1) dX9_sides_4 (by decide) ?_
  refine J_isub dX9_sides_5 ?_
  refine J_istore_n (lv' := [(1, .int _), (0, .ref _)]) dX9_sides_6 (by decide) rfl ?_
  refine J_sub [1, 0] rfl ?_
  exact jX9_sides_7 G l   FU _ _ _
theorem okX9_sides (G : Gx) (l : Launch) (l0 : Nat) (M : Mem) : Con G l yX9_sides cX9_sides 2 none 5 124 (fun _ : Unit => none) [.ref (adr G l0)] M (fX9_sides l0 M) := con_of (own := RX9) (nm := "sides") (by decide +kernel) rfl rfl (Nat.le_of_ble_eq_true rfl) (jX9_sides G l l0 M)
theorem mkX9_sides : MOk yX9_sides cX9_sides 2 none 0 := ⟨w_754, tb1 (List.mem_of_getElem? (i := 10) rfl) rfl, by decide +kernel, by decide +kernel, by decide +kernel⟩
-- X9_path
def fX9_path_25   (M : Mem) : Option (Int32 × Mem) := some ((-1 : Int32), M)
set_option maxHeartbeats 4000000 in
set_option maxRecDepth 100000 in
theorem jX9_path_25 (G : Gx) (l : Launch)    (M : Mem) : J G l cX9_path 3 RX9 (some .int) "path" 6 145 (QM G (fun v : Int32 => some (.int v))) 25 [] [] M (fX9_path_25   M) := by
  unfold fX9_path_25
  refine J_iconst (v := -1) dX9_path_25 (by decide) ?_
  exact J_iret dX9_path_26
def fX9_path (l0 : Nat) (l1 : Int32) (l2 : Int32) (M : Mem) : Option (Int32 × Mem) := (gR M 9 1 l0 fun r1 => (rI M .int r1 (0 : Int32) fun v2 => (bd (fX9_in l2 (1 : Int32) v2 M) fun v4 M3 => (if v4 = 0 then fX9_path_25   M3 else (bd (fX9_in l1 (0 : Int32) (l2 - (1 : Int32)) M3) fun v6 M5 => (if v6 = 0 then fX9_path_25   M5 else (pI M5 9 52 l0 (1 : Int32) fun M7 => (pI M7 9 53 l0 l1 fun M8 => (pI M8 9 54 l0 l2 fun M9 => (pI M9 9 55 l0 (0 : Int32) fun M10 => (cV M10 9 l0 (fX9_down l0 l1 l2 (1 : Int32) M10) fun _u12 M11 => (cV M11 9 l0 (fX9_sides l0 M11) fun _u14 M13 => (gI M13 9 55 l0 fun v15 => some (v15, M13))))))))))))))
set_option maxHeartbeats 4000000 in
set_option maxRecDepth 100000 in
theorem jX9_path (G : Gx) (l : Launch) (l0 : Nat) (l1 : Int32) (l2 : Int32) (M : Mem) : J G l cX9_path 3 RX9 (some .int) "path" 6 145 (QM G (fun v : Int32 => some (.int v))) 0 [(0, .ref (adr G l0)), (1, .int l1), (2, .int l2)] [] M (fX9_path l0 l1 l2 M) := by
  unfold fX9_path
  refine J_iload_n dX9_path_0 2 rfl ?_
  refine J_iconst (v := 1) dX9_path_1 (by decide) ?_
  refine J_aload_n dX9_path_2 0 rfl ?_
  refine J_getR fd_9_1 w_470 rfl dX9_path_3 (fun r1 => ?_)
  refine J_iconst (v := 0) dX9_path_6 (by decide) ?_
  refine J_iald dX9_path_7 ?_
  refine J_callSi (okX9_in G l _ _ _ _) mkX9_in w_665 w_664 ⟨by decide, by decide⟩ rfl (Nat.le_of_ble_eq_true rfl) dX9_path_8 (fun v4 M3 => ?_)
  refine J_if_eq (tgt := 25) dX9_path_11 (by decide) ?_ ?_
  · refine J_sub [] rfl ?_
    exact jX9_path_25 G l    _
  · refine J_iload_n dX9_path_14 1 rfl ?_
    refine J_iconst (v := 0) dX9_path_15 (by decide) ?_
    refine J_iload_n dX9_path_16 2 rfl ?_
    refine J_iconst (v := 1) dX9_path_17 (by decide) ?_
    refine J_isub dX9_path_18 ?_
    refine J_callSi (okX9_in G l _ _ _ _) mkX9_in w_665 w_664 ⟨by decide, by decide⟩ rfl (Nat.le_of_ble_eq_true rfl) dX9_path_19 (fun v6 M5 => ?_)
    refine J_if_ne (tgt := 27) dX9_path_22 (by decide) ?_ ?_
    · refine J_aload_n dX9_path_27 0 rfl ?_
      refine J_iconst (v := 1) dX9_path_28 (by decide) ?_
      refine J_putI fd_9_52 w_755 dX9_path_29 ?_
      refine J_aload_n dX9_path_32 0 rfl ?_
      refine J_iload_n dX9_path_33 1 rfl ?_
      refine J_putI fd_9_53 w_756 dX9_path_34 ?_
      refine J_aload_n dX9_path_37 0 rfl ?_
      refine J_iload_n dX9_path_38 2 rfl ?_
      refine J_putI fd_9_54 w_757 dX9_path_39 ?_
      refine J_aload_n dX9_path_42 0 rfl ?_
      refine J_iconst (v := 0) dX9_path_43 (by decide) ?_
      refine J_putI fd_9_55 w_749 dX9_path_44 ?_
      refine J_aload_n dX9_path_47 0 rfl ?_
      refine J_iload_n dX9_path_48 1 rfl ?_
      refine J_iload_n dX9_path_49 2 rfl ?_
      refine J_iconst (v := 1) dX9_path_50 (by decide) ?_
      refine J_callVv (okX9_down G l _ _ _ _ _) mkX9_down _ _ rfl w_758 w_759 w_760 ⟨by decide, by decide⟩ rfl (Nat.le_of_ble_eq_true rfl) dX9_path_51 (fun _u12 M11 => ?_)
      refine J_aload_n dX9_path_54 0 rfl ?_
      refine J_callVv (okX9_sides G l _ _) mkX9_sides _ _ rfl w_761 w_762 w_763 ⟨by decide, by decide⟩ rfl (Nat.le_of_ble_eq_true rfl) dX9_path_55 (fun _u14 M13 => ?_)
      refine J_aload_n dX9_path_58 0 rfl ?_
      refine J_getI fd_9_55 w_749 rfl dX9_path_59 ?_
      exact J_iret dX9_path_62
    · refine J_sub [] rfl ?_
      exact jX9_path_25 G l    _
theorem okX9_path (G : Gx) (l : Launch) (l0 : Nat) (l1 : Int32) (l2 : Int32) (M : Mem) : Con G l yX9_path cX9_path 3 (some .int) 6 145 (fun v : Int32 => some (.int v)) [.ref (adr G l0), .int l1, .int l2] M (fX9_path l0 l1 l2 M) := con_of (own := RX9) (nm := "path") (by decide +kernel) rfl rfl (Nat.le_of_ble_eq_true rfl) (jX9_path G l l0 l1 l2 M)
theorem mkX9_path : MOk yX9_path cX9_path 3 (some .int) 2 := ⟨w_764, tb1 (List.mem_of_getElem? (i := 10) rfl) rfl, by decide +kernel, by decide +kernel, by decide +kernel⟩
