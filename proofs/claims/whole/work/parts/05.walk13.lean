-- X9_proof
def fX9_proof_77  (l0 : Nat) (M : Mem) : Option (Int32 × Mem) := (cV M 9 l0 (fX9_sides l0 M) fun _u2 M1 => (gI M1 9 55 l0 fun v3 => some (v3, M1)))
set_option maxHeartbeats 4000000 in
set_option maxRecDepth 100000 in
theorem jX9_proof_77 (G : Gx) (l : Launch)   (l0 : Nat) (M : Mem) : J G l cX9_proof 3 RX9 (some .int) "proof" 6 145 (QM G (fun v : Int32 => some (.int v))) 77 [(0, .ref (adr G l0))] [] M (fX9_proof_77  l0 M) := by
  unfold fX9_proof_77
  refine J_aload_n dX9_proof_77 0 rfl ?_
  refine J_callVv (okX9_sides G l _ _) mkX9_sides _ _ rfl w_761 w_762 w_763 ⟨by decide, by decide⟩ rfl (Nat.le_of_ble_eq_true rfl) dX9_proof_78 (fun _u2 M1 => ?_)
  refine J_aload_n dX9_proof_81 0 rfl ?_
  refine J_getI fd_9_55 w_749 rfl dX9_proof_82 ?_
  exact J_iret dX9_proof_85
def fX9_proof_25   (M : Mem) : Option (Int32 × Mem) := some ((-1 : Int32), M)
set_option maxHeartbeats 4000000 in
set_option maxRecDepth 100000 in
theorem jX9_proof_25 (G : Gx) (l : Launch)    (M : Mem) : J G l cX9_proof 3 RX9 (some .int) "proof" 6 145 (QM G (fun v : Int32 => some (.int v))) 25 [] [] M (fX9_proof_25   M) := by
  unfold fX9_proof_25
  refine J_iconst (v := -1) dX9_proof_25 (by decide) ?_
  exact J_iret dX9_proof_26
def fX9_proof (l0 : Nat) (l1 : Int32) (l2 : Int32) (M : Mem) : Option (Int32 × Mem) := (gR M 9 1 l0 fun r1 => (rI M .int r1 (0 : Int32) fun v2 => (bd (fX9_in l2 (2 : Int32) v2 M) fun v4 M3 => (if v4 = 0 then fX9_proof_25   M3 else (bd (fX9_in l1 (1 : Int32) (l2 - (1 : Int32)) M3) fun v6 M5 => (if v6 = 0 then fX9_proof_25   M5 else (pI M5 9 52 l0 (2 : Int32) fun M7 => (pI M7 9 53 l0 l1 fun M8 => (pI M8 9 54 l0 l2 fun M9 => (pI M9 9 55 l0 (0 : Int32) fun M10 => (cV M10 9 l0 (fX9_down l0 l1 l2 (0 : Int32) M10) fun _u12 M11 => (gI M11 9 63 l0 fun v13 => (if v13 = 0 then (gI M11 9 61 l0 fun v14 => (gI M11 9 62 l0 fun v15 => (cV M11 9 l0 (fX9_tree l0 v14 v15 M11) fun _u17 M16 => (cV M16 9 l0 (fX9_step l0 M16) fun _u19 M18 => fX9_proof_77  l0 M18)))) else fX9_proof_77  l0 M11)))))))))))))
set_option maxHeartbeats 4000000 in
set_option maxRecDepth 100000 in
theorem jX9_proof (G : Gx) (l : Launch) (l0 : Nat) (l1 : Int32) (l2 : Int32) (M : Mem) : J G l cX9_proof 3 RX9 (some .int) "proof" 6 145 (QM G (fun v : Int32 => some (.int v))) 0 [(0, .ref (adr G l0)), (1, .int l1), (2, .int l2)] [] M (fX9_proof l0 l1 l2 M) := by
  unfold fX9_proof
  refine J_iload_n dX9_proof_0 2 rfl ?_
  refine J_iconst (v := 2) dX9_proof_1 (by decide) ?_
  refine J_aload_n dX9_proof_2 0 rfl ?_
  refine J_getR fd_9_1 w_470 rfl dX9_proof_3 (fun r1 => ?_)
  refine J_iconst (v := 0) dX9_proof_6 (by decide) ?_
  refine J_iald dX9_proof_7 ?_
  refine J_callSi (okX9_in G l _ _ _ _) mkX9_in w_665 w_664 ⟨by decide, by decide⟩ rfl (Nat.le_of_ble_eq_true rfl) dX9_proof_8 (fun v4 M3 => ?_)
  refine J_if_eq (tgt := 25) dX9_proof_11 (by decide) ?_ ?_
  · refine J_sub [] rfl ?_
    exact jX9_proof_25 G l    _
  · refine J_iload_n dX9_proof_14 1 rfl ?_
    refine J_iconst (v := 1) dX9_proof_15 (by decide) ?_
    refine J_iload_n dX9_proof_16 2 rfl ?_
    refine J_iconst (v := 1) dX9_proof_17 (by decide) ?_
    refine J_isub dX9_proof_18 ?_
    refine J_callSi (okX9_in G l _ _ _ _) mkX9_in w_665 w_664 ⟨by decide, by decide⟩ rfl (Nat.le_of_ble_eq_true rfl) dX9_proof_19 (fun v6 M5 => ?_)
    refine J_if_ne (tgt := 27) dX9_proof_22 (by decide) ?_ ?_
    · refine J_aload_n dX9_proof_27 0 rfl ?_
      refine J_iconst (v := 2) dX9_proof_28 (by decide) ?_
      refine J_putI fd_9_52 w_755 dX9_proof_29 ?_
      refine J_aload_n dX9_proof_32 0 rfl ?_
      refine J_iload_n dX9_proof_33 1 rfl ?_
      refine J_putI fd_9_53 w_756 dX9_proof_34 ?_
      refine J_aload_n dX9_proof_37 0 rfl ?_
      refine J_iload_n dX9_proof_38 2 rfl ?_
      refine J_putI fd_9_54 w_757 dX9_proof_39 ?_
      refine J_aload_n dX9_proof_42 0 rfl ?_
      refine J_iconst (v := 0) dX9_proof_43 (by decide) ?_
      refine J_putI fd_9_55 w_749 dX9_proof_44 ?_
      refine J_aload_n dX9_proof_47 0 rfl ?_
      refine J_iload_n dX9_proof_48 1 rfl ?_
      refine J_iload_n dX9_proof_49 2 rfl ?_
      refine J_iconst (v := 0) dX9_proof_50 (by decide) ?_
      refine J_callVv (okX9_down G l _ _ _ _ _) mkX9_down _ _ rfl w_758 w_759 w_760 ⟨by decide, by decide⟩ rfl (Nat.le_of_ble_eq_true rfl) dX9_proof_51 (fun _u12 M11 => ?_)
      refine J_aload_n dX9_proof_54 0 rfl ?_
      refine J_getI fd_9_63 w_745 rfl dX9_proof_55 ?_
      refine J_if_ne (tgt := 77) dX9_proof_58 (by decide) ?_ ?_
      · refine J_sub [0] rfl ?_
        exact jX9_proof_77 G l   _ _
      · refine J_aload_n dX9_proof_61 0 rfl ?_
        refine J_aload_n dX9_proof_62 0 rfl ?_
        refine J_getI fd_9_61 w_742 rfl dX9_proof_63 ?_
        refine J_aload_n dX9_proof_66 0 rfl ?_
        refine J_getI fd_9_62 w_743 rfl dX9_proof_67 ?_
        refine J_callVv (okX9_tree G l _ _ _ _) mkX9_tree _ _ rfl w_728 w_729 w_730 ⟨by decide, by decide⟩ rfl (Nat.le_of_ble_eq_true rfl) dX9_proof_70 (fun _u17 M16 => ?_)
        refine J_aload_n dX9_proof_73 0 rfl ?_
        refine J_callVv (okX9_step G l _ _) mkX9_step _ _ rfl w_751 w_752 w_753 ⟨by decide, by decide⟩ rfl (Nat.le_of_ble_eq_true rfl) dX9_proof_74 (fun _u19 M18 => ?_)
        refine J_sub [0] rfl ?_
        exact jX9_proof_77 G l   _ _
    · refine J_sub [] rfl ?_
      exact jX9_proof_25 G l    _
theorem okX9_proof (G : Gx) (l : Launch) (l0 : Nat) (l1 : Int32) (l2 : Int32) (M : Mem) : Con G l yX9_proof cX9_proof 3 (some .int) 6 145 (fun v : Int32 => some (.int v)) [.ref (adr G l0), .int l1, .int l2] M (fX9_proof l0 l1 l2 M) := con_of (own := RX9) (nm := "proof") (by decide +kernel) rfl rfl (Nat.le_of_ble_eq_true rfl) (jX9_proof G l l0 l1 l2 M)
theorem mkX9_proof : MOk yX9_proof cX9_proof 3 (some .int) 2 := ⟨w_765, tb1 (List.mem_of_getElem? (i := 10) rfl) rfl, by decide +kernel, by decide +kernel, by decide +kernel⟩
-- X9_step_
def fX9_step__46  (s0 : Int32) (M : Mem) : Option (Int32 × Mem) := some (s0, M)
set_option maxHeartbeats 4000000 in
set_option maxRecDepth 100000 in
theorem jX9_step__46 (G : Gx) (l : Launch)   (s0 : Int32) (M : Mem) : J G l cX9_step_ 3 RX9 (some .int) "step" 1 22 (QM G (fun v : Int32 => some (.int v))) 46 [] [.int s0] M (fX9_step__46  s0 M) := by
  unfold fX9_step__46
  exact J_iret dX9_step__46
def fX9_step__45   (M : Mem) : Option (Int32 × Mem) := fX9_step__46  (-1 : Int32) M
set_option maxHeartbeats 4000000 in
set_option maxRecDepth 100000 in
theorem jX9_step__45 (G : Gx) (l : Launch)    (M : Mem) : J G l cX9_step_ 3 RX9 (some .int) "step" 1 22 (QM G (fun v : Int32 => some (.int v))) 45 [] [] M (fX9_step__45   M) := by
  unfold fX9_step__45
  refine J_iconst (v := -1) dX9_step__45 (by decide) ?_
  refine J_sub [] rfl ?_
  exact jX9_step__46 G l   _ _
def fX9_step_ (l0 : Nat) (l1 : Int32) (l2 : Int32) (M : Mem) : Option (Int32 × Mem) := (gI M 9 52 l0 fun v1 => (if v1 ≤ 0 then fX9_step__45   M else (gI M 9 55 l0 fun v2 => (bd (fX9_in l1 (0 : Int32) (v2 - (1 : Int32)) M) fun v4 M3 => (if v4 = 0 then fX9_step__45   M3 else (bd (fX9_in l2 (0 : Int32) (31 : Int32) M3) fun v6 M5 => (if v6 = 0 then fX9_step__45   M5 else (gR M5 9 56 l0 fun r7 => (rI M5 .int r7 (((32 : Int32) * l1) + l2) fun v8 => fX9_step__46  v8 M5)))))))))
set_option maxHeartbeats 4000000 in
set_option maxRecDepth 100000 in
theorem jX9_step_ (G : Gx) (l : Launch) (l0 : Nat) (l1 : Int32) (l2 : Int32) (M : Mem) : J G l cX9_step_ 3 RX9 (some .int) "step" 1 22 (QM G (fun v : Int32 => some (.int v))) 0 [(0, .ref (adr G l0)), (1, .int l1), (2, .int l2)] [] M (fX9_step_ l0 l1 l2 M) := by
  unfold fX9_step_
  refine J_aload_n dX9_step__0 0 rfl ?_
  refine J_getI fd_9_52 w_755 rfl dX9_step__1 ?_
  refine J_if_le (tgt := 45) dX9_step__4 (by decide) ?_ ?_
  · refine J_sub [] rfl ?_
    exact jX9_step__45 G l    _
  · refine J_iload_n dX9_step__7 1 rfl ?_
    refine J_iconst (v := 0) dX9_step__8 (by decide) ?_
    refine J_aload_n dX9_step__9 0 rfl ?_
    refine J_getI fd_9_55 w_749 rfl dX9_step__10 ?_
    refine J_iconst (v := 1) dX9_step__13 (by decide) ?_
    refine J_isub dX9_step__14 ?_
    refine J_callSi (okX9_in G l _ _ _ _) mkX9_in w_665 w_664 ⟨by decide, by decide⟩ rfl (Nat.le_of_ble_eq_true rfl) dX9_step__15 (fun v4 M3 => ?_)
    refine J_if_eq (tgt := 45) dX9_step__18 (by decide) ?_ ?_
    · refine J_sub [] rfl ?_
      exact jX9_step__45 G l    _
    · refine J_iload_n dX9_step__21 2 rfl ?_
      refine J_iconst (v := 0) dX9_step__22 (by decide) ?_
      refine J_bipush (v := 31) dX9_step__23 (by decide) ?_
      refine J_callSi (okX9_in G l _ _ _ _) mkX9_in w_665 w_664 ⟨by decide, by decide⟩ rfl (Nat.le_of_ble_eq_true rfl) dX9_step__25 (fun v6 M5 => ?_)
      refine J_if_eq (tgt := 45) dX9_step__28 (by decide) ?_ ?_
      · refine J_sub [] rfl ?_
        exact jX9_step__45 G l    _
      · refine J_aload_n dX9_step__31 0 rfl ?_
        refine J_getR fd_9_56 w_574 rfl dX9_step__32 (fun r7 => ?_)
        refine J_bipush (v := 32) dX9_step__35 (by decide) ?_
        refine J_iload_n dX9_step__37 1 rfl ?_
        refine J_imul dX9_step__38 ?_
        refine J_iload_n dX9_step__39 2 rfl ?_
        refine J_iadd dX9_step__40 ?_
        refine J_iald dX9_step__41 ?_
        refine J_goto (tgt := 46) dX9_step__42 (by decide) ?_
        refine J_sub [] rfl ?_
        exact jX9_step__46 G l   _ _
theorem okX9_step_ (G : Gx) (l : Launch) (l0 : Nat) (l1 : Int32) (l2 : Int32) (M : Mem) : Con G l yX9_step_ cX9_step_ 3 (some .int) 1 22 (fun v : Int32 => some (.int v)) [.ref (adr G l0), .int l1, .int l2] M (fX9_step_ l0 l1 l2 M) := con_of (own := RX9) (nm := "step") (by decide +kernel) rfl rfl (Nat.le_of_ble_eq_true rfl) (jX9_step_ G l l0 l1 l2 M)
theorem mkX9_step_ : MOk yX9_step_ cX9_step_ 3 (some .int) 2 := ⟨w_766, tb1 (List.mem_of_getElem? (i := 10) rfl) rfl, by decide +kernel, by decide +kernel, by decide +kernel⟩
-- X9_beside
def fX9_beside_98  : Nat → Nat → Nat → Int32 → Mem → Option (Unit × Mem)
  | 0, _, _, _, _ => none
  | n + 1, l0, l1, l4, M => (if (32 : Int32) ≤ l4 then some ((), M) else (gR M 9 45 l0 fun r1 => (rI M .int r1 l4 fun v2 => (wI M .int l1 l4 v2 fun M3 => fX9_beside_98  n l0 l1 (l4 + (1 : Int32)) M3))))
set_option maxHeartbeats 4000000 in
set_option maxRecDepth 100000 in
theorem jX9_beside_98 (G : Gx) (l : Launch)   : ∀ (n : Nat) (l0 : Nat) (l1 : Nat) (l4 : Int32) (M : Mem), J G l cX9_beside 5 RX9 none "beside" 3 77 (QM G (fun _ : Unit => none)) 98 [(0, .ref (adr G l0)), (1, .ref (adr G l1)), (4, .int l4)] [] M (fX9_beside_98  n l0 l1 l4 M) := by
  intro n
  induction n with
  | zero => intro l0 l1 l4 M; exact J_none
  | succ n ih =>
    intro l0 l1 l4 M
    rw [fX9_beside_98]
    refine J_iload dX9_beside_98 2 rfl ?_
    refine J_bipush (v := 32) dX9_beside_100 (by decide) ?_
    refine J_icmp_ge (tgt := 122) dX9_beside_102 (by decide) ?_ ?_
    · exact J_vret dX9_beside_122
    · refine J_aload_n dX9_beside_105 1 rfl ?_
      refine J_iload dX9_beside_106 2 rfl ?_
      refine J_aload_n dX9_beside_108 0 rfl ?_
      refine J_getR fd_9_45 w_567 rfl dX9_beside_109 (fun r1 => ?_)
      refine J_iload dX9_beside_112 2 rfl ?_
      refine J_iald dX9_beside_114 ?_
      refine J_iast dX9_beside_115 ?_
      refine J_iincK (z := 1) (lv' := [(4, .int _), (0, .ref _), (1, .ref _)]) dX9_beside_116 2 rfl (by decide) (by decide) rfl ?_
      refine J_goto (tgt := 98) dX9_beside_119 (by decide) ?_
      refine J_sub [1, 2, 0] rfl ?_
      exact ih _ _ _ _
def fX9_beside_82 (k51 : Nat → Nat → Int32 → Int32 → Int32 → Mem → Option (Unit × Mem)) (l0 : Nat) (l1 : Nat) (l2 : Int32) (l3 : Int32) (l4 : Int32) (s0 : Int32) (s1 : Nat) (M : Mem) : Option (Unit × Mem) := (cV M 9 s1 (fX9_says s1 s0 M) fun _u2 M1 => k51 l0 l1 l2 l3 (l4 + (1 : Int32)) M1)
set_option maxHeartbeats 4000000 in
set_option maxRecDepth 100000 in
theorem jX9_beside_82 (G : Gx) (l : Launch) (k51 : Nat → Nat → Int32 → Int32 → Int32 → Mem → Option (Unit × Mem)) (h51 : ∀ (l0 : Nat) (l1 : Nat) (l2 : Int32) (l3 : Int32) (l4 : Int32) (M : Mem), J G l cX9_beside 5 RX9 none "beside" 3 77 (QM G (fun _ : Unit => none)) 51 [(0, .ref (adr G l0)), (1, .ref (adr G l1)), (2, .int l2), (3, .int l3), (4, .int l4)] [] M (k51 l0 l1 l2 l3 l4 M)) (l0 : Nat) (l1 : Nat) (l2 : Int32) (l3 : Int32) (l4 : Int32) (s0 : Int32) (s1 : Nat) (M : Mem) : J G l cX9_beside 5 RX9 none "beside" 3 77 (QM G (fun _ : Unit => none)) 82 [(0, .ref (adr G l0)), (1, .ref (adr G l1)), (2, .int l2), (3, .int l3), (4, .int l4)] [.int s0, .ref (adr G s1)] M (fX9_beside_82 k51 l0 l1 l2 l3 l4 s0 s1 M) := by
  unfold fX9_beside_82
  refine J_callVv (okX9_says G l _ _ _) mkX9_says _ _ rfl w_703 w_704 w_705 ⟨by decide, by decide⟩ rfl (Nat.le_of_ble_eq_true rfl) dX9_beside_82 (fun _u2 M1 => ?_)
  refine J_iincK (z := 1) (lv' := [(4, .int _), (0, .ref _), (1, .ref _), (2, .int _), (3, .int _)]) dX9_beside_85 4 rfl (by decide) (by decide) rfl ?_
  refine J_goto (tgt := 51) dX9_beside_88 (by decide) ?_
  refine J_sub [1, 2, 3, 4, 0] rfl ?_
  exact h51 _ _ _ _ _ _
def fX9_beside_51  : Nat → Nat → Nat → Int32 → Int32 → Int32 → Mem → Option (Unit × Mem)
  | 0, _, _, _, _, _, _ => none
  | n + 1, l0, l1, l2, l3, l4, M => (if (32 : Int32) ≤ l4 then (cV M 9 l0 (fX9_sum l0 M) fun _u2 M1 => fX9_beside_98  FU l0 l1 (0 : Int32) M1) else (if l3 = 0 then (gR M 9 56 l0 fun r3 => (rI M .int r3 (((32 : Int32) * l2) + l4) fun v4 => fX9_beside_82 (fX9_beside_51  n) l0 l1 l2 l3 l4 v4 l0 M)) else (rI M .int l1 l4 fun v5 => fX9_beside_82 (fX9_beside_51  n) l0 l1 l2 l3 l4 v5 l0 M)))
set_option maxHeartbeats 4000000 in
set_option maxRecDepth 100000 in
theorem jX9_beside_51 (G : Gx) (l : Launch)   : ∀ (n : Nat) (l0 : Nat) (l1 : Nat) (l2 : Int32) (l3 : Int32) (l4 : Int32) (M : Mem), J G l cX9_beside 5 RX9 none "beside" 3 77 (QM G (fun _ : Unit => none)) 51 [(0, .ref (adr G l0)), (1, .ref (adr G l1)), (2, .int l2), (3, .int l3), (4, .int l4)] [] M (fX9_beside_51  n l0 l1 l2 l3 l4 M) := by
  intro n
  induction n with
  | zero => intro l0 l1 l2 l3 l4 M; exact J_none
  | succ n ih =>
    intro l0 l1 l2 l3 l4 M
    rw [fX9_beside_51]
    refine J_iload dX9_beside_51 4 rfl ?_
    refine J_bipush (v := 32) dX9_beside_53 (by decide) ?_
    refine J_icmp_ge (tgt := 91) dX9_beside_55 (by decide) ?_ ?_
    · refine J_aload_n dX9_beside_91 0 rfl ?_
      refine J_callVv (okX9_sum G l _ _) mkX9_sum _ _ rfl w_711 w_712 w_713 ⟨by decide, by decide⟩ rfl (Nat.le_of_ble_eq_true rfl) dX9_beside_92 (fun _u2 M1 => ?_)
      refine J_iconst (v := 0) dX9_beside_95 (by decide) ?_
      refine J_istore (lv' := [(4, .int _), (0, .ref _), (1, .ref _), (2, .int _), (3, .int _)]) dX9_beside_96 (by decide) rfl ?_
      refine J_sub [1, 2, 0] rfl ?_
      exact jX9_beside_98 G l   FU _ _ _ _
    · refine J_aload_n dX9_beside_58 0 rfl ?_
      refine J_iload_n dX9_beside_59 3 rfl ?_
      refine J_if_eq (tgt := 70) dX9_beside_60 (by decide) ?_ ?_
      · refine J_aload_n dX9_beside_70 0 rfl ?_
        refine J_getR fd_9_56 w_574 rfl dX9_beside_71 (fun r3 => ?_)
        refine J_bipush (v := 32) dX9_beside_74 (by decide) ?_
        refine J_iload_n dX9_beside_76 2 rfl ?_
        refine J_imul dX9_beside_77 ?_
        refine J_iload dX9_beside_78 4 rfl ?_
        refine J_iadd dX9_beside_80 ?_
        refine J_iald dX9_beside_81 ?_
        refine J_sub [0, 1, 2, 3, 4] rfl ?_
        exact jX9_beside_82 G l _ ih _ _ _ _ _ _ _ _
      · refine J_aload_n dX9_beside_63 1 rfl ?_
        refine J_iload dX9_beside_64 4 rfl ?_
        refine J_iald dX9_beside_66 ?_
        refine J_goto (tgt := 82) dX9_beside_67 (by decide) ?_
        refine J_sub [0, 1, 2, 3, 4] rfl ?_
        exact jX9_beside_82 G l _ ih _ _ _ _ _ _ _ _
def fX9_beside_39 (k8 : Nat → Nat → Int32 → Int32 → Int32 → Mem → Option (Unit × Mem)) (l0 : Nat) (l1 : Nat) (l2 : Int32) (l3 : Int32) (l4 : Int32) (s0 : Int32) (s1 : Nat) (M : Mem) : Option (Unit × Mem) := (cV M 9 s1 (fX9_says s1 s0 M) fun _u2 M1 => k8 l0 l1 l2 l3 (l4 + (1 : Int32)) M1)
set_option maxHeartbeats 4000000 in
set_option maxRecDepth 100000 in
theorem jX9_beside_39 (G : Gx) (l : Launch) (k8 : Nat → Nat → Int32 → Int32 → Int32 → Mem → Option (Unit × Mem)) (h8 : ∀ (l0 : Nat) (l1 : Nat) (l2 : Int32) (l3 : Int32) (l4 : Int32) (M : Mem), J G l cX9_beside 5 RX9 none "beside" 3 77 (QM G (fun _ : Unit => none)) 8 [(0, .ref (adr G l0)), (1, .ref (adr G l1)), (2, .int l2), (3, .int l3), (4, .int l4)] [] M (k8 l0 l1 l2 l3 l4 M)) (l0 : Nat) (l1 : Nat) (l2 : Int32) (l3 : Int32) (l4 : Int32) (s0 : Int32) (s1 : Nat) (M : Mem) : J G l cX9_beside 5 RX9 none "beside" 3 77 (QM G (fun _ : Unit => none)) 39 [(0, .ref (adr G l0)), (1, .ref (adr G l1)), (2, .int l2), (3, .int l3), (4, .int l4)] [.int s0, .ref (adr G s1)] M (fX9_beside_39 k8 l0 l1 l2 l3 l4 s0 s1 M) := by
  unfold fX9_beside_39
  refine J_callVv (okX9_says G l _ _ _) mkX9_says _ _ rfl w_703 w_704 w_705 ⟨by decide, by decide⟩ rfl (Nat.le_of_ble_eq_true rfl) dX9_beside_39 (fun _u2 M1 => ?_)
  refine J_iincK (z := 1) (lv' := [(4, .int _), (0, .ref _), (1, .ref _), (2, .int _), (3, .int _)]) dX9_beside_42 4 rfl (by decide) (by decide) rfl ?_
  refine J_goto (tgt := 8) dX9_beside_45 (by decide) ?_
  refine J_sub [1, 2, 3, 4, 0] rfl ?_
  exact h8 _ _ _ _ _ _
def fX9_beside_8  : Nat → Nat → Nat → Int32 → Int32 → Int32 → Mem → Option (Unit × Mem)
  | 0, _, _, _, _, _, _ => none
  | n + 1, l0, l1, l2, l3, l4, M => (if (32 : Int32) ≤ l4 then fX9_beside_51  FU l0 l1 l2 l3 (0 : Int32) M else (if l3 = 0 then (rI M .int l1 l4 fun v1 => fX9_beside_39 (fX9_beside_8  n) l0 l1 l2 l3 l4 v1 l0 M) else (gR M 9 56 l0 fun r2 => (rI M .int r2 (((32 : Int32) * l2) + l4) fun v3 => fX9_beside_39 (fX9_beside_8  n) l0 l1 l2 l3 l4 v3 l0 M))))
set_option maxHeartbeats 4000000 in
set_option maxRecDepth 100000 in
theorem jX9_beside_8 (G : Gx) (l : Launch)   : ∀ (n : Nat) (l0 : Nat) (l1 : Nat) (l2 : Int32) (l3 : Int32) (l4 : Int32) (M : Mem), J G l cX9_beside 5 RX9 none "beside" 3 77 (QM G (fun _ : Unit => none)) 8 [(0, .ref (adr G l0)), (1, .ref (adr G l1)), (2, .int l2), (3, .int l3), (4, .int l4)] [] M (fX9_beside_8  n l0 l1 l2 l3 l4 M) := by
  intro n
  induction n with
  | zero => intro l0 l1 l2 l3 l4 M; exact J_none
  | succ n ih =>
    intro l0 l1 l2 l3 l4 M
    rw [fX9_beside_8]
    refine J_iload dX9_beside_8 4 rfl ?_
    refine J_bipush (v := 32) dX9_beside_10 (by decide) ?_
    refine J_icmp_ge (tgt := 48) dX9_beside_12 (by decide) ?_ ?_
    · refine J_iconst (v := 0) dX9_beside_48 (by decide) ?_
      refine J_istore (lv' := [(4, .int _), (0, .ref _), (1, .ref _), (2, .int _), (3, .int _)]) dX9_beside_49 (by decide) rfl ?_
      refine J_sub [1, 2, 3, 4, 0] rfl ?_
      exact jX9_beside_51 G l   FU _ _ _ _ _ _
    · refine J_aload_n dX9_beside_15 0 rfl ?_
      refine J_iload_n dX9_beside_16 3 rfl ?_
      refine J_if_eq (tgt := 35) dX9_beside_17 (by decide) ?_ ?_
      · refine J_aload_n dX9_beside_35 1 rfl ?_
        refine J_iload dX9_beside_36 4 rfl ?_
        refine J_iald dX9_beside_38 ?_
        refine J_sub [0, 1, 2, 3, 4] rfl ?_
        exact jX9_beside_39 G l _ ih _ _ _ _ _ _ _ _
      · refine J_aload_n dX9_beside_20 0 rfl ?_
        refine J_getR fd_9_56 w_574 rfl dX9_beside_21 (fun r2 => ?_)
        refine J_bipush (v := 32) dX9_beside_24 (by decide) ?_
        refine J_iload_n dX9_beside_26 2 rfl ?_
        refine J_imul dX9_beside_27 ?_
        refine J_iload dX9_beside_28 4 rfl ?_
        refine J_iadd dX9_beside_30 ?_
        refine J_iald dX9_beside_31 ?_
        refine J_goto (tgt := 39) dX9_beside_32 (by decide) ?_
        refine J_sub [0, 1, 2, 3, 4] rfl ?_
        exact jX9_beside_39 G l _ ih _ _ _ _ _ _ _ _
def fX9_beside (l0 : Nat) (l1 : Nat) (l2 : Int32) (l3 : Int32) (M : Mem) : Option (Unit × Mem) := (cV M 9 l0 (fX9_says l0 (1 : Int32) M) fun _u2 M1 => fX9_beside_8  FU l0 l1 l2 l3 (0 : Int32) M1)
set_option maxHeartbeats 4000000 in
set_option maxRecDepth 100000 in
theorem jX9_beside (G : Gx) (l : Launch) (l0 : Nat) (l1 : Nat) (l2 : Int32) (l3 : Int32) (M : Mem) : J G l cX9_beside 5 RX9 none "beside" 3 77 (QM G (fun _ : Unit => none)) 0 [(0, .ref (adr G l0)), (1, .ref (adr G l1)), (2, .int l2), (3, .int l3)] [] M (fX9_beside l0 l1 l2 l3 M) := by
  unfold fX9_beside
  refine J_aload_n dX9_beside_0 0 rfl ?_
  refine J_iconst (v := 1) dX9_beside_1 (by decide) ?_
  refine J_callVv (okX9_says G l _ _ _) mkX9_says _ _ rfl w_703 w_704 w_705 ⟨by decide, by decide⟩ rfl (Nat.le_of_ble_eq_true rfl) dX9_beside_2 (fun _u2 M1 => ?_)
  refine J_iconst (v := 0) dX9_beside_5 (by decide) ?_
  refine J_istore (lv' := [(4, .int _), (0, .ref _), (1, .ref _), (2, .int _), (3, .int _)]) dX9_beside_6 (by decide) rfl ?_
  refine J_sub [1, 2, 3, 4, 0] rfl ?_
  exact jX9_beside_8 G l   FU _ _ _ _ _ _
theorem okX9_beside (G : Gx) (l : Launch) (l0 : Nat) (l1 : Nat) (l2 : Int32) (l3 : Int32) (M : Mem) : Con G l yX9_beside cX9_beside 5 none 3 77 (fun _ : Unit => none) [.ref (adr G l0), .ref (adr G l1), .int l2, .int l3] M (fX9_beside l0 l1 l2 l3 M) := con_of (own := RX9) (nm := "beside") (by decide +kernel) rfl rfl (Nat.le_of_ble_eq_true rfl) (jX9_beside G l l0 l1 l2 l3 M)
theorem mkX9_beside : MOk yX9_beside cX9_beside 5 none 3 := ⟨w_767, tb1 (List.mem_of_getElem? (i := 10) rfl) rfl, by decide +kernel, by decide +kernel, by decide +kernel⟩
-- X9_isHead
def fX9_isHead_40 (k5 : Nat → Nat → Int32 → Int32 → Int32 → Mem → Option (Int32 × Mem)) (l0 : Nat) (l1 : Nat) (l2 : Int32) (l4 : Int32) (s0 : Int32) (M : Mem) : Option (Int32 × Mem) := k5 l0 l1 l2 s0 (l4 + (1 : Int32)) M
set_option maxHeartbeats 4000000 in
set_option maxRecDepth 100000 in
theorem jX9_isHead_40 (G : Gx) (l : Launch) (k5 : Nat → Nat → Int32 → Int32 → Int32 → Mem → Option (Int32 × Mem)) (h5 : ∀ (l0 : Nat) (l1 : Nat) (l2 : Int32) (l3 : Int32) (l4 : Int32) (M : Mem), J G l cX9_isHead 5 RX9 (some .boolean) "isHead" 0 0 (QM G (fun v : Int32 => some (.int v))) 5 [(0, .ref (adr G l0)), (1, .ref (adr G l1)), (2, .int l2), (3, .int l3), (4, .int l4)] [] M (k5 l0 l1 l2 l3 l4 M)) (l0 : Nat) (l1 : Nat) (l2 : Int32) (l4 : Int32) (s0 : Int32) (M : Mem) : J G l cX9_isHead 5 RX9 (some .boolean) "isHead" 0 0 (QM G (fun v : Int32 => some (.int v))) 40 [(0, .ref (adr G l0)), (1, .ref (adr G l1)), (2, .int l2), (4, .int l4)] [.int s0] M (fX9_isHead_40 k5 l0 l1 l2 l4 s0 M) := by
  unfold fX9_isHead_40
  refine J_istore_n (lv' := [(3, .int _), (0, .ref _), (1, .ref _), (2, .int _), (4, .int _)]) dX9_isHead_40 (by decide) rfl ?_
  refine J_iincK (z := 1) (lv' := [(4, .int _), (3, .int _), (0, .ref _), (1, .ref _), (2, .int _)]) dX9_isHead_41 4 rfl (by decide) (by decide) rfl ?_
  refine J_goto (tgt := 5) dX9_isHead_44 (by decide) ?_
  refine J_sub [2, 3, 4, 1, 0] rfl ?_
  exact h5 _ _ _ _ _ _
def fX9_isHead_39 (k5 : Nat → Nat → Int32 → Int32 → Int32 → Mem → Option (Int32 × Mem)) (l0 : Nat) (l1 : Nat) (l2 : Int32) (l4 : Int32) (M : Mem) : Option (Int32 × Mem) := fX9_isHead_40 k5 l0 l1 l2 l4 (0 : Int32) M
set_option maxHeartbeats 4000000 in
set_option maxRecDepth 100000 in
theorem jX9_isHead_39 (G : Gx) (l : Launch) (k5 : Nat → Nat → Int32 → Int32 → Int32 → Mem → Option (Int32 × Mem)) (h5 : ∀ (l0 : Nat) (l1 : Nat) (l2 : Int32) (l3 : Int32) (l4 : Int32) (M : Mem), J G l cX9_isHead 5 RX9 (some .boolean) "isHead" 0 0 (QM G (fun v : Int32 => some (.int v))) 5 [(0, .ref (adr G l0)), (1, .ref (adr G l1)), (2, .int l2), (3, .int l3), (4, .int l4)] [] M (k5 l0 l1 l2 l3 l4 M)) (l0 : Nat) (l1 : Nat) (l2 : Int32) (l4 : Int32) (M : Mem) : J G l cX9_isHead 5 RX9 (some .boolean) "isHead" 0 0 (QM G (fun v : Int32 => some (.int v))) 39 [(0, .ref (adr G l0)), (1, .ref (adr G l1)), (2, .int l2), (4, .int l4)] [] M (fX9_isHead_39 k5 l0 l1 l2 l4 M) := by
  unfold fX9_isHead_39
  refine J_iconst (v := 0) dX9_isHead_39 (by decide) ?_
  refine J_sub [0, 1, 2, 3] rfl ?_
  exact jX9_isHead_40 G l _ h5 _ _ _ _ _ _
def fX9_isHead_5  : Nat → Nat → Nat → Int32 → Int32 → Int32 → Mem → Option (Int32 × Mem)
  | 0, _, _, _, _, _, _ => none
  | n + 1, l0, l1, l2, l3, l4, M => (if (32 : Int32) ≤ l4 then retZ l3 (some (l3, M)) else (if l3 = 0 then fX9_isHead_39 (fX9_isHead_5  n) l0 l1 l2 l4 M else (rI M .int l1 l4 fun v1 => (gR M 9 51 l0 fun r2 => (rI M .int r2 (((32 : Int32) * l2) + l4) fun v3 => (if v1 = v3 then fX9_isHead_40 (fX9_isHead_5  n) l0 l1 l2 l4 (1 : Int32) M else fX9_isHead_39 (fX9_isHead_5  n) l0 l1 l2 l4 M))))))
set_option maxHeartbeats 4000000 in
set_option maxRecDepth 100000 in
theorem jX9_isHead_5 (G : Gx) (l : Launch)   : ∀ (n : Nat) (l0 : Nat) (l1 : Nat) (l2 : Int32) (l3 : Int32) (l4 : Int32) (M : Mem), J G l cX9_isHead 5 RX9 (some .boolean) "isHead" 0 0 (QM G (fun v : Int32 => some (.int v))) 5 [(0, .ref (adr G l0)), (1, .ref (adr G l1)), (2, .int l2), (3, .int l3), (4, .int l4)] [] M (fX9_isHead_5  n l0 l1 l2 l3 l4 M) := by
  intro n
  induction n with
  | zero => intro l0 l1 l2 l3 l4 M; exact J_none
  | succ n ih =>
    intro l0 l1 l2 l3 l4 M
    rw [fX9_isHead_5]
    refine J_iload dX9_isHead_5 4 rfl ?_
    refine J_bipush (v := 32) dX9_isHead_7 (by decide) ?_
    refine J_icmp_ge (tgt := 47) dX9_isHead_9 (by decide) ?_ ?_
    · refine J_iload_n dX9_isHead_47 3 rfl ?_
      exact J_zret dX9_isHead_48
    · refine J_iload_n dX9_isHead_12 3 rfl ?_
      refine J_if_eq (tgt := 39) dX9_isHead_13 (by decide) ?_ ?_
      · refine J_sub [0, 1, 2, 4] rfl ?_
        exact jX9_isHead_39 G l _ ih _ _ _ _ _
      · refine J_aload_n dX9_isHead_16 1 rfl ?_
        refine J_iload dX9_isHead_17 4 rfl ?_
        refine J_iald dX9_isHead_19 ?_
        refine J_aload_n dX9_isHead_20 0 rfl ?_
        refine J_getR fd_9_51 w_573 rfl dX9_isHead_21 (fun r2 => ?_)
        refine J_bipush (v := 32) dX9_isHead_24 (by decide) ?_
        refine J_iload_n dX9_isHead_26 2 rfl ?_
        refine J_imul dX9_isHead_27 ?_
        refine J_iload dX9_isHead_28 4 rfl ?_
        refine J_iadd dX9_isHead_30 ?_
        refine J_iald dX9_isHead_31 ?_
        refine J_icmp_ne (tgt := 39) dX9_isHead_32 (by decide) ?_ ?_
        · refine J_sub [0, 1, 2, 4] rfl ?_
          exact jX9_isHead_39 G l _ ih _ _ _ _ _
        · refine J_iconst (v := 1) dX9_isHead_35 (by decide) ?_
          refine J_goto (tgt := 40) dX9_isHead_36 (by decide) ?_
          refine J_sub [0, 1, 2, 4] rfl ?_
          exact jX9_isHead_40 G l _ ih _ _ _ _ _ _
def fX9_isHead (l0 : Nat) (l1 : Nat) (l2 : Int32) (M : Mem) : Option (Int32 × Mem) := fX9_isHead_5  FU l0 l1 l2 (1 : Int32) (0 : Int32) M
set_option maxHeartbeats 4000000 in
set_option maxRecDepth 100000 in
theorem jX9_isHead (G : Gx) (l : Launch) (l0 : Nat) (l1 : Nat) (l2 : Int32) (M : Mem) : J G l cX9_isHead 5 RX9 (some .boolean) "isHead" 0 0 (QM G (fun v : Int32 => some (.int v))) 0 [(0, .ref (adr G l0)), (1, .ref (adr G l1)), (2, .int l2)] [] M (fX9_isHead l0 l1 l2 M) := by
  unfold fX9_isHead
  refine J_iconst (v := 1) dX9_isHead_0 (by decide) ?_
  refine J_istore_n (lv' := [(3, .int _), (0, .ref _), (1, .ref _), (2, .int _)]) dX9_isHead_1 (by decide) rfl ?_
  refine J_iconst (v := 0) dX9_isHead_2 (by decide) ?_
  refine J_istore (lv' := [(4, .int _), (3, .int _), (0, .ref _), (1, .ref _), (2, .int _)]) dX9_isHead_3 (by decide) rfl ?_
  refine J_sub [2, 3, 4, 1, 0] rfl ?_
  exact jX9_isHead_5 G l   FU _ _ _ _ _ _
theorem okX9_isHead (G : Gx) (l : Launch) (l0 : Nat) (l1 : Nat) (l2 : Int32) (M : Mem) : Con G l yX9_isHead cX9_isHead 5 (some .boolean) 0 0 (fun v : Int32 => some (.int v)) [.ref (adr G l0), .ref (adr G l1), .int l2] M (fX9_isHead l0 l1 l2 M) := con_of (own := RX9) (nm := "isHead") (by decide +kernel) rfl rfl (Nat.le_of_ble_eq_true rfl) (jX9_isHead G l l0 l1 l2 M)
theorem mkX9_isHead : MOk yX9_isHead cX9_isHead 5 (some .boolean) 2 := ⟨w_768, tb1 (List.mem_of_getElem? (i := 10) rfl) rfl, by decide +kernel, by decide +kernel, by decide +kernel⟩
-- X9_isHeadOf
def fX9_isHeadOf_34  (s0 : Int32) (M : Mem) : Option (Int32 × Mem) := retZ s0 (some (s0, M))
set_option maxHeartbeats 4000000 in
set_option maxRecDepth 100000 in
theorem jX9_isHeadOf_34 (G : Gx) (l : Launch)   (s0 : Int32) (M : Mem) : J G l cX9_isHeadOf 3 RX9 (some .boolean) "isHeadOf" 1 22 (QM G (fun v : Int32 => some (.int v))) 34 [] [.int s0] M (fX9_isHeadOf_34  s0 M) := by
  unfold fX9_isHeadOf_34
  exact J_zret dX9_isHeadOf_34
def fX9_isHeadOf_33   (M : Mem) : Option (Int32 × Mem) := fX9_isHeadOf_34  (0 : Int32) M
set_option maxHeartbeats 4000000 in
set_option maxRecDepth 100000 in
theorem jX9_isHeadOf_33 (G : Gx) (l : Launch)    (M : Mem) : J G l cX9_isHeadOf 3 RX9 (some .boolean) "isHeadOf" 1 22 (QM G (fun v : Int32 => some (.int v))) 33 [] [] M (fX9_isHeadOf_33   M) := by
  unfold fX9_isHeadOf_33
  refine J_iconst (v := 0) dX9_isHeadOf_33 (by decide) ?_
  refine J_sub [] rfl ?_
  exact jX9_isHeadOf_34 G l   _ _
def fX9_isHeadOf (l0 : Nat) (l1 : Int32) (l2 : Int32) (M : Mem) : Option (Int32 × Mem) := (bd (fX9_in l1 (0 : Int32) (7 : Int32) M) fun v2 M1 => (if v2 = 0 then fX9_isHeadOf_33   M1 else (gR M1 9 49 l0 fun r3 => (rI M1 .boolean r3 l1 fun v4 => (if v4 = 0 then fX9_isHeadOf_33   M1 else (gR M1 9 48 l0 fun r5 => (rI M1 .int r5 l1 fun v6 => (if v6 = l2 then fX9_isHeadOf_34  (1 : Int32) M1 else fX9_isHeadOf_33   M1))))))))
set_option maxHeartbeats 4000000 in
set_option maxRecDepth 100000 in
theorem jX9_isHeadOf (G : Gx) (l : Launch) (l0 : Nat) (l1 : Int32) (l2 : Int32) (M : Mem) : J G l cX9_isHeadOf 3 RX9 (some .boolean) "isHeadOf" 1 22 (QM G (fun v : Int32 => some (.int v))) 0 [(0, .ref (adr G l0)), (1, .int l1), (2, .int l2)] [] M (fX9_isHeadOf l0 l1 l2 M) := by
  unfold fX9_isHeadOf
  refine J_iload_n dX9_isHeadOf_0 1 rfl ?_
  refine J_iconst (v := 0) dX9_isHeadOf_1 (by decide) ?_
  refine J_bipush (v := 7) dX9_isHeadOf_2 (by decide) ?_
  refine J_callSi (okX9_in G l _ _ _ _) mkX9_in w_665 w_664 ⟨by decide, by decide⟩ rfl (Nat.le_of_ble_eq_true rfl) dX9_isHeadOf_4 (fun v2 M1 => ?_)
  refine J_if_eq (tgt := 33) dX9_isHeadOf_7 (by decide) ?_ ?_
  · refine J_sub [] rfl ?_
    exact jX9_isHeadOf_33 G l    _
  · refine J_aload_n dX9_isHeadOf_10 0 rfl ?_
    refine J_getR fd_9_49 w_571 rfl dX9_isHeadOf_11 (fun r3 => ?_)
    refine J_iload_n dX9_isHeadOf_14 1 rfl ?_
    refine J_zald dX9_isHeadOf_15 ?_
    refine J_if_eq (tgt := 33) dX9_isHeadOf_16 (by decide) ?_ ?_
    · refine J_sub [] rfl ?_
      exact jX9_isHeadOf_33 G l    _
    · refine J_aload_n dX9_isHeadOf_19 0 rfl ?_
      refine J_getR fd_9_48 w_570 rfl dX9_isHeadOf_20 (fun r5 => ?_)
      refine J_iload_n dX9_isHeadOf_23 1 rfl ?_
      refine J_iald dX9_isHeadOf_24 ?_
      refine J_iload_n dX9_isHeadOf_25 2 rfl ?_
      refine J_icmp_ne (tgt := 33) dX9_isHeadOf_26 (by decide) ?_ ?_
      · refine J_sub [] rfl ?_
        exact jX9_isHeadOf_33 G l    _
      · refine J_iconst (v := 1) dX9_isHeadOf_29 (by decide) ?_
        refine J_goto (tgt := 34) dX9_isHeadOf_30 (by decide) ?_
        refine J_sub [] rfl ?_
        exact jX9_isHeadOf_34 G l   _ _
theorem okX9_isHeadOf (G : Gx) (l : Launch) (l0 : Nat) (l1 : Int32) (l2 : Int32) (M : Mem) : Con G l yX9_isHeadOf cX9_isHeadOf 3 (some .boolean) 1 22 (fun v : Int32 => some (.int v)) [.ref (adr G l0), .int l1, .int l2] M (fX9_isHeadOf l0 l1 l2 M) := con_of (own := RX9) (nm := "isHeadOf") (by decide +kernel) rfl rfl (Nat.le_of_ble_eq_true rfl) (jX9_isHeadOf G l l0 l1 l2 M)
theorem mkX9_isHeadOf : MOk yX9_isHeadOf cX9_isHeadOf 3 (some .boolean) 2 := ⟨w_769, tb1 (List.mem_of_getElem? (i := 10) rfl) rfl, by decide +kernel, by decide +kernel, by decide +kernel⟩
-- X9_leads
def fX9_leads_299  (s0 : Int32) (M : Mem) : Option (Int32 × Mem) := some (s0, M)
set_option maxHeartbeats 4000000 in
set_option maxRecDepth 100000 in
theorem jX9_leads_299 (G : Gx) (l : Launch)   (s0 : Int32) (M : Mem) : J G l cX9_leads 5 RX9 (some .int) "leads" 4 101 (QM G (fun v : Int32 => some (.int v))) 299 [] [.int s0] M (fX9_leads_299  s0 M) := by
  unfold fX9_leads_299
  exact J_iret dX9_leads_299
def fX9_leads_298   (M : Mem) : Option (Int32 × Mem) := fX9_leads_299  (0 : Int32) M
set_option maxHeartbeats 4000000 in
set_option maxRecDepth 100000 in
theorem jX9_leads_298 (G : Gx) (l : Launch)    (M : Mem) : J G l cX9_leads 5 RX9 (some .int) "leads" 4 101 (QM G (fun v : Int32 => some (.int v))) 298 [] [] M (fX9_leads_298   M) := by
  unfold fX9_leads_298
  refine J_iconst (v := 0) dX9_leads_298 (by decide) ?_
  refine J_sub [] rfl ?_
  exact jX9_leads_299 G l   _ _
def fX9_leads_294   (M : Mem) : Option (Int32 × Mem) := fX9_leads_299  (1 : Int32) M
set_option maxHeartbeats 4000000 in
set_option maxRecDepth 100000 in
theorem jX9_leads_294 (G : Gx) (l : Launch)    (M : Mem) : J G l cX9_leads 5 RX9 (some .int) "leads" 4 101 (QM G (fun v : Int32 => some (.int v))) 294 [] [] M (fX9_leads_294   M) := by
  unfold fX9_leads_294
  refine J_iconst (v := 1) dX9_leads_294 (by decide) ?_
  refine J_goto (tgt := 299) dX9_leads_295 (by decide) ?_
  refine J_sub [] rfl ?_
  exact jX9_leads_299 G l   _ _
def fX9_leads_237 (k204 : Nat → Int32 → Int32 → Int32 → Int32 → Mem → Option (Int32 × Mem)) (l0 : Nat) (l1 : Int32) (l2 : Int32) (l3 : Int32) (l4 : Int32) (M : Mem) : Option (Int32 × Mem) := (gR M 9 65 l0 fun r1 => (gR M 9 57 l0 fun r2 => (rI M .boolean r2 l4 fun v3 => (cV M 9 l0 (fX9_beside l0 r1 l3 v3 M) fun _u5 M4 => k204 l0 l1 l2 (l3 + (1 : Int32)) (l4 + (-1 : Int32)) M4))))
set_option maxHeartbeats 4000000 in
set_option maxRecDepth 100000 in
theorem jX9_leads_237 (G : Gx) (l : Launch) (k204 : Nat → Int32 → Int32 → Int32 → Int32 → Mem → Option (Int32 × Mem)) (h204 : ∀ (l0 : Nat) (l1 : Int32) (l2 : Int32) (l3 : Int32) (l4 : Int32) (M : Mem), J G l cX9_leads 5 RX9 (some .int) "leads" 4 101 (QM G (fun v : Int32 => some (.int v))) 204 [(0, .ref (adr G l0)), (1, .int l1), (2, .int l2), (3, .int l3), (4, .int l4)] [] M (k204 l0 l1 l2 l3 l4 M)) (l0 : Nat) (l1 : Int32) (l2 : Int32) (l3 : Int32) (l4 : Int32) (M : Mem) : J G l cX9_leads 5 RX9 (some .int) "leads" 4 101 (QM G (fun v : Int32 => some (.int v))) 237 [(0, .ref (adr G l0)), (1, .int l1), (2, .int l2), (3, .int l3), (4, .int l4)] [] M (fX9_leads_237 k204 l0 l1 l2 l3 l4 M) := by
  unfold fX9_leads_237
  refine J_aload_n dX9_leads_237 0 rfl ?_
  refine J_aload_n dX9_leads_238 0 rfl ?_
  refine J_getR fd_9_65 w_579 rfl dX9_leads_239 (fun r1 => ?_)
  refine J_iload_n dX9_leads_242 3 rfl ?_
  refine J_aload_n dX9_leads_243 0 rfl ?_
  refine J_getR fd_9_57 w_575 rfl dX9_leads_244 (fun r2 => ?_)
  refine J_iload dX9_leads_247 4 rfl ?_
  refine J_zald dX9_leads_249 ?_
  refine J_callVv (okX9_beside G l _ _ _ _ _) mkX9_beside _ _ rfl w_770 w_771 w_772 ⟨by decide, by decide⟩ rfl (Nat.le_of_ble_eq_true rfl) dX9_leads_250 (fun _u5 M4 => ?_)
  refine J_iincK (z := 1) (lv' := [(3, .int _), (0, .ref _), (1, .int _), (2, .int _), (4, .int _)]) dX9_leads_253 3 rfl (by decide) (by decide) rfl ?_
  refine J_iincK (z := -1) (lv' := [(4, .int _), (3, .int _), (0, .ref _), (1, .int _), (2, .int _)]) dX9_leads_256 4 rfl (by decide) (by decide) rfl ?_
  refine J_goto (tgt := 204) dX9_leads_259 (by decide) ?_
  refine J_sub [2, 3, 4, 1, 0] rfl ?_
  exact h204 _ _ _ _ _ _
def fX9_leads_204  : Nat → Nat → Int32 → Int32 → Int32 → Int32 → Mem → Option (Int32 × Mem)
  | 0, _, _, _, _, _, _ => none
  | n + 1, l0, l1, l2, l3, l4, M => (if l4 < 0 then (gR M 9 65 l0 fun r1 => (cV M 9 l0 (fX9_isHead l0 r1 l2 M) fun v3 M2 => (if v3 = 0 then fX9_leads_298   M2 else (gI M2 9 52 l0 fun v4 => (if v4 = (1 : Int32) then fX9_leads_294   M2 else (gR M2 9 64 l0 fun r5 => (cV M2 9 l0 (fX9_isHead l0 r5 l1 M2) fun v7 M6 => (if v7 = 0 then fX9_leads_298   M6 else fX9_leads_294   M6)))))))) else (gI M 9 52 l0 fun v8 => (if v8 = (2 : Int32) then (gR M 9 57 l0 fun r9 => (rI M .boolean r9 l4 fun v10 => (if v10 = 0 then fX9_leads_237 (fX9_leads_204  n) l0 l1 l2 l3 l4 M else (gR M 9 64 l0 fun r11 => (cV M 9 l0 (fX9_beside l0 r11 l3 (1 : Int32) M) fun _u13 M12 => fX9_leads_237 (fX9_leads_204  n) l0 l1 l2 l3 l4 M12))))) else fX9_leads_237 (fX9_leads_204  n) l0 l1 l2 l3 l4 M)))
set_option maxHeartbeats 4000000 in
set_option maxRecDepth 100000 in
theorem jX9_leads_204 (G : Gx) (l : Launch)   : ∀ (n : Nat) (l0 : Nat) (l1 : Int32) (l2 : Int32) (l3 : Int32) (l4 : Int32) (M : Mem), J G l cX9_leads 5 RX9 (some .int) "leads" 4 101 (QM G (fun v : Int32 => some (.int v))) 204 [(0, .ref (adr G l0)), (1, .int l1), (2, .int l2), (3, .int l3), (4, .int l4)] [] M (fX9_leads_204  n l0 l1 l2 l3 l4 M) := by
  intro n
  induction n with
  | zero => intro l0 l1 l2 l3 l4 M; exact J_none
  | succ n ih =>
    intro l0 l1 l2 l3 l4 M
    rw [fX9_leads_204]
    refine J_iload dX9_leads_204 4 rfl ?_
    refine J_if_lt (tgt := 262) dX9_leads_206 (by decide) ?_ ?_
    · refine J_aload_n dX9_leads_262 0 rfl ?_
      refine J_aload_n dX9_leads_263 0 rfl ?_
      refine J_getR fd_9_65 w_579 rfl dX9_leads_264 (fun r1 => ?_)
      refine J_iload_n dX9_leads_267 2 rfl ?_
      refine J_callVi (okX9_isHead G l _ _ _ _) mkX9_isHead _ _ rfl w_773 w_774 w_775 ⟨by decide, by decide⟩ rfl (Nat.le_of_ble_eq_true rfl) dX9_leads_268 (fun v3 M2 => ?_)
      refine J_if_eq (tgt := 298) dX9_leads_271 (by decide) ?_ ?_
      · refine J_sub [] rfl ?_
        exact jX9_leads_298 G l    _
      · refine J_aload_n dX9_leads_274 0 rfl ?_
        refine J_getI fd_9_52 w_755 rfl dX9_leads_275 ?_
        refine J_iconst (v := 1) dX9_leads_278 (by decide) ?_
        refine J_icmp_eq (tgt := 294) dX9_leads_279 (by decide) ?_ ?_
        · refine J_sub [] rfl ?_
          exact jX9_leads_294 G l    _
        · refine J_aload_n dX9_leads_282 0 rfl ?_
          refine J_aload_n dX9_leads_283 0 rfl ?_
          refine J_getR fd_9_64 w_578 rfl dX9_leads_284 (fun r5 => ?_)
          refine J_iload_n dX9_leads_287 1 rfl ?_
          refine J_callVi (okX9_isHead G l _ _ _ _) mkX9_isHead _ _ rfl w_773 w_774 w_775 ⟨by decide, by decide⟩ rfl (Nat.le_of_ble_eq_true rfl) dX9_leads_288 (fun v7 M6 => ?_)
          refine J_if_eq (tgt := 298) dX9_leads_291 (by decide) ?_ ?_
          · refine J_sub [] rfl ?_
            exact jX9_leads_298 G l    _
          · refine J_sub [] rfl ?_
            exact jX9_leads_294 G l    _
    · refine J_aload_n dX9_leads_209 0 rfl ?_
      refine J_getI fd_9_52 w_755 rfl dX9_leads_210 ?_
      refine J_iconst (v := 2) dX9_leads_213 (by decide) ?_
      refine J_icmp_ne (tgt := 237) dX9_leads_214 (by decide) ?_ ?_
      · refine J_sub [0, 1, 2, 3, 4] rfl ?_
        exact jX9_leads_237 G l _ ih _ _ _ _ _ _
      · refine J_aload_n dX9_leads_217 0 rfl ?_
        refine J_getR fd_9_57 w_575 rfl dX9_leads_218 (fun r9 => ?_)
        refine J_iload dX9_leads_221 4 rfl ?_
        refine J_zald dX9_leads_223 ?_
        refine J_if_eq (tgt := 237) dX9_leads_224 (by decide) ?_ ?_
        · refine J_sub [0, 1, 2, 3, 4] rfl ?_
          exact jX9_leads_237 G l _ ih _ _ _ _ _ _
        · refine J_aload_n dX9_leads_227 0 rfl ?_
          refine J_aload_n dX9_leads_228 0 rfl ?_
          refine J_getR fd_9_64 w_578 rfl dX9_leads_229 (fun r11 => ?_)
          refine J_iload_n dX9_leads_232 3 rfl ?_
          refine J_iconst (v := 1) dX9_leads_233 (by decide) ?_
          refine J_callVv (okX9_beside G l _ _ _ _ _) mkX9_beside _ _ rfl w_770 w_771 w_772 ⟨by decide, by decide⟩ rfl (Nat.le_of_ble_eq_true rfl) dX9_leads_234 (fun _u13 M12 => ?_)
          refine J_sub [0, 1, 2, 3, 4] rfl ?_
          exact jX9_leads_237 G l _ ih _ _ _ _ _ _
def fX9_leads_196  (l0 : Nat) (l1 : Int32) (l2 : Int32) (l3 : Int32) (M : Mem) : Option (Int32 × Mem) := (gI M 9 60 l0 fun v1 => fX9_leads_204  FU l0 l1 l2 l3 (v1 - (1 : Int32)) M)
set_option maxHeartbeats 4000000 in
set_option maxRecDepth 100000 in
theorem jX9_leads_196 (G : Gx) (l : Launch)   (l0 : Nat) (l1 : Int32) (l2 : Int32) (l3 : Int32) (M : Mem) : J G l cX9_leads 5 RX9 (some .int) "leads" 4 101 (QM G (fun v : Int32 => some (.int v))) 196 [(0, .ref (adr G l0)), (1, .int l1), (2, .int l2), (3, .int l3)] [] M (fX9_leads_196  l0 l1 l2 l3 M) := by
  unfold fX9_leads_196
  refine J_aload_n dX9_leads_196 0 rfl ?_
  refine J_getI fd_9_60 w_744 rfl dX9_leads_197 ?_
  refine J_iconst (v := 1) dX9_leads_200 (by decide) ?_
  refine J_isub dX9_leads_201 ?_
  refine J_istore (lv' := [(4, .int _), (0, .ref _), (1, .int _), (2, .int _), (3, .int _)]) dX9_leads_202 (by decide) rfl ?_
  refine J_sub [1, 2, 3, 4, 0] rfl ?_
  exact jX9_leads_204 G l   FU _ _ _ _ _ _
def fX9_leads_195  (l0 : Nat) (l1 : Int32) (l2 : Int32) (s0 : Int32) (M : Mem) : Option (Int32 × Mem) := fX9_leads_196  l0 l1 l2 s0 M
set_option maxHeartbeats 4000000 in
set_option maxRecDepth 100000 in
theorem jX9_leads_195 (G : Gx) (l : Launch)   (l0 : Nat) (l1 : Int32) (l2 : Int32) (s0 : Int32) (M : Mem) : J G l cX9_leads 5 RX9 (some .int) "leads" 4 101 (QM G (fun v : Int32 => some (.int v))) 195 [(0, .ref (adr G l0)), (1, .int l1), (2, .int l2)] [.int s0] M (fX9_leads_195  l0 l1 l2 s0 M) := by
  unfold fX9_leads_195
  refine J_istore_n (lv' := [(3, .int _), (0, .ref _), (1, .int _), (2, .int _)]) dX9_leads_195 (by decide) rfl ?_
  refine J_sub [1, 2, 3, 0] rfl ?_
  exact jX9_leads_196 G l   _ _ _ _ _
def fX9_leads_162 (k120 : Nat → Int32 → Int32 → Int32 → Mem → Option (Int32 × Mem)) (l0 : Nat) (l1 : Int32) (l2 : Int32) (l4 : Int32) (s0 : Int32) (s1 : Int32) (s2 : Nat) (M : Mem) : Option (Int32 × Mem) := (wI M .int s2 s1 s0 fun M1 => (gR M1 9 65 l0 fun r2 => (gR M1 9 64 l0 fun r3 => (rI M1 .int r3 l4 fun v4 => (wI M1 .int r2 l4 v4 fun M5 => k120 l0 l1 l2 (l4 + (1 : Int32)) M5)))))
set_option maxHeartbeats 4000000 in
set_option maxRecDepth 100000 in
theorem jX9_leads_162 (G : Gx) (l : Launch) (k120 : Nat → Int32 → Int32 → Int32 → Mem → Option (Int32 × Mem)) (h120 : ∀ (l0 : Nat) (l1 : Int32) (l2 : Int32) (l4 : Int32) (M : Mem), J G l cX9_leads 5 RX9 (some .int) "leads" 4 101 (QM G (fun v : Int32 => some (.int v))) 120 [(0, .ref (adr G l0)), (1, .int l1), (2, .int l2), (4, .int l4)] [] M (k120 l0 l1 l2 l4 M)) (l0 : Nat) (l1 : Int32) (l2 : Int32) (l4 : Int32) (s0 : Int32) (s1 : Int32) (s2 : Nat) (M : Mem) : J G l cX9_leads 5 RX9 (some .int) "leads" 4 101 (QM G (fun v : Int32 => some (.int v))) 162 [(0, .ref (adr G l0)), (1, .int l1), (2, .int l2), (4, .int l4)] [.int s0, .int s1, .ref (adr G s2)] M (fX9_leads_162 k120 l0 l1 l2 l4 s0 s1 s2 M) := by
  unfold fX9_leads_162
  refine J_iast dX9_leads_162 ?_
  refine J_aload_n dX9_leads_163 0 rfl ?_
  refine J_getR fd_9_65 w_579 rfl dX9_leads_164 (fun r2 => ?_)
  refine J_iload dX9_leads_167 3 rfl ?_
  refine J_aload_n dX9_leads_169 0 rfl ?_
  refine J_getR fd_9_64 w_578 rfl dX9_leads_170 (fun r3 => ?_)
  refine J_iload dX9_leads_173 3 rfl ?_
  refine J_iald dX9_leads_175 ?_
  refine J_iast dX9_leads_176 ?_
  refine J_iincK (z := 1) (lv' := [(4, .int _), (0, .ref _), (1, .int _), (2, .int _)]) dX9_leads_177 3 rfl (by decide) (by decide) rfl ?_
  refine J_goto (tgt := 120) dX9_leads_180 (by decide) ?_
  refine J_sub [1, 2, 3, 0] rfl ?_
  exact h120 _ _ _ _ _
def fX9_leads_120  : Nat → Nat → Int32 → Int32 → Int32 → Mem → Option (Int32 × Mem)
  | 0, _, _, _, _, _ => none
  | n + 1, l0, l1, l2, l4, M => (if (32 : Int32) ≤ l4 then (gI M 9 63 l0 fun v1 => (if v1 = 0 then fX9_leads_195  l0 l1 l2 (1 : Int32) M else fX9_leads_195  l0 l1 l2 (0 : Int32) M)) else (gR M 9 64 l0 fun r2 => (gI M 9 63 l0 fun v3 => (if v3 = 0 then (gR M 9 56 l0 fun r4 => (rI M .int r4 l4 fun v5 => fX9_leads_162 (fX9_leads_120  n) l0 l1 l2 l4 v5 l4 r2 M)) else (gR M 9 51 l0 fun r6 => (rI M .int r6 (((32 : Int32) * l1) + l4) fun v7 => fX9_leads_162 (fX9_leads_120  n) l0 l1 l2 l4 v7 l4 r2 M))))))
set_option maxHeartbeats 4000000 in
set_option maxRecDepth 100000 in
theorem jX9_leads_120 (G : Gx) (l : Launch)   : ∀ (n : Nat) (l0 : Nat) (l1 : Int32) (l2 : Int32) (l4 : Int32) (M : Mem), J G l cX9_leads 5 RX9 (some .int) "leads" 4 101 (QM G (fun v : Int32 => some (.int v))) 120 [(0, .ref (adr G l0)), (1, .int l1), (2, .int l2), (4, .int l4)] [] M (fX9_leads_120  n l0 l1 l2 l4 M) := by
  intro n
  induction n with
  | zero => intro l0 l1 l2 l4 M; exact J_none
  | succ n ih =>
    intro l0 l1 l2 l4 M
    rw [fX9_leads_120]
    refine J_iload dX9_leads_120 3 rfl ?_
    refine J_bipush (v := 32) dX9_leads_122 (by decide) ?_
    refine J_icmp_ge (tgt := 183) dX9_leads_124 (by decide) ?_ ?_
    · refine J_aload_n dX9_leads_183 0 rfl ?_
      refine J_getI fd_9_63 w_745 rfl dX9_leads_184 ?_
      refine J_if_eq (tgt := 194) dX9_leads_187 (by decide) ?_ ?_
      · refine J_iconst (v := 1) dX9_leads_194 (by decide) ?_
        refine J_sub [0, 1, 2] rfl ?_
        exact jX9_leads_195 G l   _ _ _ _ _
      · refine J_iconst (v := 0) dX9_leads_190 (by decide) ?_
        refine J_goto (tgt := 195) dX9_leads_191 (by decide) ?_
        refine J_sub [0, 1, 2] rfl ?_
        exact jX9_leads_195 G l   _ _ _ _ _
    · refine J_aload_n dX9_leads_127 0 rfl ?_
      refine J_getR fd_9_64 w_578 rfl dX9_leads_128 (fun r2 => ?_)
      refine J_iload dX9_leads_131 3 rfl ?_
      refine J_aload_n dX9_leads_133 0 rfl ?_
      refine J_getI fd_9_63 w_745 rfl dX9_leads_134 ?_
      refine J_if_eq (tgt := 155) dX9_leads_137 (by decide) ?_ ?_
      · refine J_aload_n dX9_leads_155 0 rfl ?_
        refine J_getR fd_9_56 w_574 rfl dX9_leads_156 (fun r4 => ?_)
        refine J_iload dX9_leads_159 3 rfl ?_
        refine J_iald dX9_leads_161 ?_
        refine J_sub [0, 1, 2, 3] rfl ?_
        exact jX9_leads_162 G l _ ih _ _ _ _ _ _ _ _
      · refine J_aload_n dX9_leads_140 0 rfl ?_
        refine J_getR fd_9_51 w_573 rfl dX9_leads_141 (fun r6 => ?_)
        refine J_bipush (v := 32) dX9_leads_144 (by decide) ?_
        refine J_iload_n dX9_leads_146 1 rfl ?_
        refine J_imul dX9_leads_147 ?_
        refine J_iload dX9_leads_148 3 rfl ?_
        refine J_iadd dX9_leads_150 ?_
        refine J_iald dX9_leads_151 ?_
        refine J_goto (tgt := 162) dX9_leads_152 (by decide) ?_
        refine J_sub [0, 1, 2, 3] rfl ?_
        exact jX9_leads_162 G l _ ih _ _ _ _ _ _ _ _
def fX9_leads_87  : Nat → Nat → Int32 → Int32 → Int32 → Int32 → Mem → Option (Int32 × Mem)
  | 0, _, _, _, _, _, _ => none
  | n + 1, l0, l1, l2, l3, l4, M => (if (32 : Int32) ≤ l4 then fX9_leads_196  l0 l1 l2 l3 M else (gR M 9 65 l0 fun r1 => (gR M 9 45 l0 fun r2 => (rI M .int r2 l4 fun v3 => (wI M .int r1 l4 v3 fun M4 => fX9_leads_87  n l0 l1 l2 l3 (l4 + (1 : Int32)) M4)))))
set_option maxHeartbeats 4000000 in
set_option maxRecDepth 100000 in
theorem jX9_leads_87 (G : Gx) (l : Launch)   : ∀ (n : Nat) (l0 : Nat) (l1 : Int32) (l2 : Int32) (l3 : Int32) (l4 : Int32) (M : Mem), J G l cX9_leads 5 RX9 (some .int) "leads" 4 101 (QM G (fun v : Int32 => some (.int v))) 87 [(0, .ref (adr G l0)), (1, .int l1), (2, .int l2), (3, .int l3), (4, .int l4)] [] M (fX9_leads_87  n l0 l1 l2 l3 l4 M) := by
  intro n
  induction n with
  | zero => intro l0 l1 l2 l3 l4 M; exact J_none
  | succ n ih =>
    intro l0 l1 l2 l3 l4 M
    rw [fX9_leads_87]
    refine J_iload dX9_leads_87 4 rfl ?_
    refine J_bipush (v := 32) dX9_leads_89 (by decide) ?_
    refine J_icmp_ge (tgt := 114) dX9_leads_91 (by decide) ?_ ?_
    · refine J_goto (tgt := 196) dX9_leads_114 (by decide) ?_
      refine J_sub [0, 1, 2, 3] rfl ?_
      exact jX9_leads_196 G l   _ _ _ _ _
    · refine J_aload_n dX9_leads_94 0 rfl ?_
      refine J_getR fd_9_65 w_579 rfl dX9_leads_95 (fun r1 => ?_)
      refine J_iload dX9_leads_98 4 rfl ?_
      refine J_aload_n dX9_leads_100 0 rfl ?_
      refine J_getR fd_9_45 w_567 rfl dX9_leads_101 (fun r2 => ?_)
      refine J_iload dX9_leads_104 4 rfl ?_
      refine J_iald dX9_leads_106 ?_
      refine J_iast dX9_leads_107 ?_
      refine J_iincK (z := 1) (lv' := [(4, .int _), (0, .ref _), (1, .int _), (2, .int _), (3, .int _)]) dX9_leads_108 4 rfl (by decide) (by decide) rfl ?_
      refine J_goto (tgt := 87) dX9_leads_111 (by decide) ?_
      refine J_sub [1, 2, 3, 4, 0] rfl ?_
      exact ih _ _ _ _ _ _
def fX9_leads_63  (l0 : Nat) (l1 : Int32) (l2 : Int32) (s0 : Int32) (s1 : Int32) (s2 : Int32) (s3 : Nat) (M : Mem) : Option (Int32 × Mem) := (cV M 9 s3 (fX9_down s3 s2 s1 s0 M) fun _u2 M1 => (gI M1 9 52 l0 fun v3 => (if v3 = (1 : Int32) then (gI M1 9 53 l0 fun v4 => (cV M1 9 l0 (fX9_leaf l0 v4 M1) fun _u6 M5 => fX9_leads_87  FU l0 l1 l2 (0 : Int32) (0 : Int32) M5)) else fX9_leads_120  FU l0 l1 l2 (0 : Int32) M1)))
set_option maxHeartbeats 4000000 in
set_option maxRecDepth 100000 in
theorem jX9_leads_63 (G : Gx) (l : Launch)   (l0 : Nat) (l1 : Int32) (l2 : Int32) (s0 : Int32) (s1 : Int32) (s2 : Int32) (s3 : Nat) (M : Mem) : J G l cX9_leads 5 RX9 (some .int) "leads" 4 101 (QM G (fun v : Int32 => some (.int v))) 63 [(0, .ref (adr G l0)), (1, .int l1), (2, .int l2)] [.int s0, .int s1, .int s2, .ref (adr G s3)] M (fX9_leads_63  l0 l1 l2 s0 s1 s2 s3 M) := by
  unfold fX9_leads_63
  refine J_callVv (okX9_down G l _ _ _ _ _) mkX9_down _ _ rfl w_758 w_759 w_760 ⟨by decide, by decide⟩ rfl (Nat.le_of_ble_eq_true rfl) dX9_leads_63 (fun _u2 M1 => ?_)
  refine J_iconst (v := 0) dX9_leads_66 (by decide) ?_
  refine J_istore_n (lv' := [(3, .int _), (0, .ref _), (1, .int _), (2, .int _)]) dX9_leads_67 (by decide) rfl ?_
  refine J_aload_n dX9_leads_68 1 rfl ?_
  refine J_getI fd_9_52 w_755 rfl dX9_leads_69 ?_
  refine J_iconst (v := 1) dX9_leads_72 (by decide) ?_
  refine J_icmp_ne (tgt := 117) dX9_leads_73 (by decide) ?_ ?_
  · refine J_iconst (v := 0) dX9_leads_117 (by decide) ?_
    refine J_istore (lv' := [(4, .int _), (3, .int _), (0, .ref _), (1, .int _), (2, .int _)]) dX9_leads_118 (by decide) rfl ?_
    refine J_sub [2, 3, 4, 0] rfl ?_
    exact jX9_leads_120 G l   FU _ _ _ _ _
  · refine J_aload_n dX9_leads_76 1 rfl ?_
    refine J_aload_n dX9_leads_77 1 rfl ?_
    refine J_getI fd_9_53 w_756 rfl dX9_leads_78 ?_
    refine J_callVv (okX9_leaf G l _ _ _) mkX9_leaf _ _ rfl w_724 w_725 w_726 ⟨by decide, by decide⟩ rfl (Nat.le_of_ble_eq_true rfl) dX9_leads_81 (fun _u6 M5 => ?_)
    refine J_iconst (v := 0) dX9_leads_84 (by decide) ?_
    refine J_istore (lv' := [(4, .int _), (3, .int _), (0, .ref _), (1, .int _), (2, .int _)]) dX9_leads_85 (by decide) rfl ?_
    refine J_sub [2, 3, 4, 1, 0] rfl ?_
    exact jX9_leads_87 G l   FU _ _ _ _ _ _
def fX9_leads_41  (l0 : Nat) (l1 : Int32) (l2 : Int32) (M : Mem) : Option (Int32 × Mem) := (gI M 9 53 l0 fun v1 => (gI M 9 54 l0 fun v2 => (gI M 9 52 l0 fun v3 => (if v3 = (1 : Int32) then fX9_leads_63  l0 l1 l2 (1 : Int32) v2 v1 l0 M else fX9_leads_63  l0 l1 l2 (0 : Int32) v2 v1 l0 M))))
set_option maxHeartbeats 4000000 in
set_option maxRecDepth 100000 in
theorem jX9_leads_41 (G : Gx) (l : Launch)   (l0 : Nat) (l1 : Int32) (l2 : Int32) (M : Mem) : J G l cX9_leads 5 RX9 (some .int) "leads" 4 101 (QM G (fun v : Int32 => some (.int v))) 41 [(0, .ref (adr G l0)), (1, .int l1), (2, .int l2)] [] M (fX9_leads_41  l0 l1 l2 M) := by
  unfold fX9_leads_41
  refine J_aload_n dX9_leads_41 0 rfl ?_
  refine J_aload_n dX9_leads_42 0 rfl ?_
  refine J_getI fd_9_53 w_756 rfl dX9_leads_43 ?_
  refine J_aload_n dX9_leads_46 0 rfl ?_
  refine J_getI fd_9_54 w_757 rfl dX9_leads_47 ?_
  refine J_aload_n dX9_leads_50 0 rfl ?_
  refine J_getI fd_9_52 w_755 rfl dX9_leads_51 ?_
  refine J_iconst (v := 1) dX9_leads_54 (by decide) ?_
  refine J_icmp_ne (tgt := 62) dX9_leads_55 (by decide) ?_ ?_
  · refine J_iconst (v := 0) dX9_leads_62 (by decide) ?_
    refine J_sub [0, 1, 2] rfl ?_
    exact jX9_leads_63 G l   _ _ _ _ _ _ _ _
  · refine J_iconst (v := 1) dX9_leads_58 (by decide) ?_
    refine J_goto (tgt := 63) dX9_leads_59 (by decide) ?_
    refine J_sub [0, 1, 2] rfl ?_
    exact jX9_leads_63 G l   _ _ _ _ _ _ _ _
def fX9_leads_39   (M : Mem) : Option (Int32 × Mem) := some ((-1 : Int32), M)
set_option maxHeartbeats 4000000 in
set_option maxRecDepth 100000 in
theorem jX9_leads_39 (G : Gx) (l : Launch)    (M : Mem) : J G l cX9_leads 5 RX9 (some .int) "leads" 4 101 (QM G (fun v : Int32 => some (.int v))) 39 [] [] M (fX9_leads_39   M) := by
  unfold fX9_leads_39
  refine J_iconst (v := -1) dX9_leads_39 (by decide) ?_
  exact J_iret dX9_leads_40
def fX9_leads (l0 : Nat) (l1 : Int32) (l2 : Int32) (M : Mem) : Option (Int32 × Mem) := (gI M 9 52 l0 fun v1 => (if v1 = 0 then fX9_leads_39   M else (gI M 9 54 l0 fun v2 => (cV M 9 l0 (fX9_isHeadOf l0 l2 v2 M) fun v4 M3 => (if v4 = 0 then fX9_leads_39   M3 else (gI M3 9 52 l0 fun v5 => (if v5 = (2 : Int32) then (gI M3 9 53 l0 fun v6 => (cV M3 9 l0 (fX9_isHeadOf l0 l1 v6 M3) fun v8 M7 => (if v8 = 0 then fX9_leads_39   M7 else fX9_leads_41  l0 l1 l2 M7))) else fX9_leads_41  l0 l1 l2 M3)))))))
set_option maxHeartbeats 4000000 in
set_option maxRecDepth 100000 in
theorem jX9_leads (G : Gx) (l : Launch) (l0 : Nat) (l1 : Int32) (l2 : Int32) (M : Mem) : J G l cX9_leads 5 RX9 (some .int) "leads" 4 101 (QM G (fun v : Int32 => some (.int v))) 0 [(0, .ref (adr G l0)), (1, .int l1), (2, .int l2)] [] M (fX9_leads l0 l1 l2 M) := by
  unfold fX9_leads
  refine J_aload_n dX9_leads_0 0 rfl ?_
  refine J_getI fd_9_52 w_755 rfl dX9_leads_1 ?_
  refine J_if_eq (tgt := 39) dX9_leads_4 (by decide) ?_ ?_
  · refine J_sub [] rfl ?_
    exact jX9_leads_39 G l    _
  · refine J_aload_n dX9_leads_7 0 rfl ?_
    refine J_iload_n dX9_leads_8 2 rfl ?_
    refine J_aload_n dX9_leads_9 0 rfl ?_
    refine J_getI fd_9_54 w_757 rfl dX9_leads_10 ?_
    refine J_callVi (okX9_isHeadOf G l _ _ _ _) mkX9_isHeadOf _ _ rfl w_776 w_777 w_778 ⟨by decide, by decide⟩ rfl (Nat.le_of_ble_eq_true rfl) dX9_leads_13 (fun v4 M3 => ?_)
    refine J_if_eq (tgt := 39) dX9_leads_16 (by decide) ?_ ?_
    · refine J_sub [] rfl ?_
      exact jX9_leads_39 G l    _
    · refine J_aload_n dX9_leads_19 0 rfl ?_
      refine J_getI fd_9_52 w_755 rfl dX9_leads_20 ?_
      refine J_iconst (v := 2) dX9_leads_23 (by decide) ?_
      refine J_icmp_ne (tgt := 41) dX9_leads_24 (by decide) ?_ ?_
      · refine J_sub [0, 1, 2] rfl ?_
        exact jX9_leads_41 G l   _ _ _ _
      · refine J_aload_n dX9_leads_27 0 rfl ?_
        refine J_iload_n dX9_leads_28 1 rfl ?_
        refine J_aload_n dX9_leads_29 0 rfl ?_
        refine J_getI fd_9_53 w_756 rfl dX9_leads_30 ?_
        refine J_callVi (okX9_isHeadOf G l _ _ _ _) mkX9_isHeadOf _ _ rfl w_776 w_777 w_778 ⟨by decide, by decide⟩ rfl (Nat.le_of_ble_eq_true rfl) dX9_leads_33 (fun v8 M7 => ?_)
        refine J_if_ne (tgt := 41) dX9_leads_36 (by decide) ?_ ?_
        · refine J_sub [0, 1, 2] rfl ?_
          exact jX9_leads_41 G l   _ _ _ _
        · refine J_sub [] rfl ?_
          exact jX9_leads_39 G l    _
theorem okX9_leads (G : Gx) (l : Launch) (l0 : Nat) (l1 : Int32) (l2 : Int32) (M : Mem) : Con G l yX9_leads cX9_leads 5 (some .int) 4 101 (fun v : Int32 => some (.int v)) [.ref (adr G l0), .int l1, .int l2] M (fX9_leads l0 l1 l2 M) := con_of (own := RX9) (nm := "leads") (by decide +kernel) rfl rfl (Nat.le_of_ble_eq_true rfl) (jX9_leads G l l0 l1 l2 M)
theorem mkX9_leads : MOk yX9_leads cX9_leads 5 (some .int) 2 := ⟨w_779, tb1 (List.mem_of_getElem? (i := 10) rfl) rfl, by decide +kernel, by decide +kernel, by decide +kernel⟩
-- X9_number
def fX9_number_5  : Nat → Nat → Int32 → Int64 → Int32 → Mem → Option (Int64 × Mem)
  | 0, _, _, _, _, _ => none
  | n + 1, l0, l1, l2, l4, M => (if l1 ≤ l4 then some (l2, M) else (gR M 9 18 l0 fun r1 => (gI M 9 66 l0 fun v2 => (rI M .int r1 v2 fun v3 => (gI M 9 66 l0 fun v4 => (pI M 9 66 l0 (v4 + (1 : Int32)) fun M5 => fX9_number_5  n l0 l1 ((yshl l2 (8 : Int32)) ||| v3.toInt64) (l4 + (1 : Int32)) M5))))))
set_option maxHeartbeats 4000000 in
set_option maxRecDepth 100000 in
theorem jX9_number_5 (G : Gx) (l : Launch)   : ∀ (n : Nat) (l0 : Nat) (l1 : Int32) (l2 : Int64) (l4 : Int32) (M : Mem), J G l cX9_number 5 RX9 (some .long) "number" 0 0 (QM G (fun v : Int64 => some (.long v))) 5 [(0, .ref (adr G l0)), (1, .int l1), (2, .long l2), (4, .int l4)] [] M (fX9_number_5  n l0 l1 l2 l4 M) := by
  intro n
  induction n with
  | zero => intro l0 l1 l2 l4 M; exact J_none
  | succ n ih =>
    intro l0 l1 l2 l4 M
    rw [fX9_number_5]
    refine J_iload dX9_number_5 3 rfl ?_
    refine J_iload_n dX9_number_7 1 rfl ?_
    refine J_icmp_ge (tgt := 43) dX9_number_8 (by decide) ?_ ?_
    · refine J_lload_n dX9_number_43 2 rfl ?_
      exact J_lret dX9_number_44
    · refine J_lload_n dX9_number_11 2 rfl ?_
      refine J_bipush (v := 8) dX9_number_12 (by decide) ?_
      refine J_lshlK dX9_number_14 ?_
      refine J_aload_n dX9_number_15 0 rfl ?_
      refine J_getR fd_9_18 w_487 rfl dX9_number_16 (fun r1 => ?_)
      refine J_aload_n dX9_number_19 0 rfl ?_
      refine J_getI fd_9_66 w_780 rfl dX9_number_20 ?_
      refine J_iald dX9_number_23 ?_
      refine J_i2l dX9_number_24 ?_
      refine J_lor dX9_number_25 ?_
      refine J_lstore_n (lv' := [(2, .long _), (0, .ref _), (1, .int _), (4, .int _)]) dX9_number_26 (by decide) rfl ?_
      refine J_aload_n dX9_number_27 1 rfl ?_
      refine J_dup dX9_number_28 rfl ?_
      refine J_getI fd_9_66 w_780 rfl dX9_number_29 ?_
      refine J_iconst (v := 1) dX9_number_32 (by decide) ?_
      refine J_iadd dX9_number_33 ?_
      refine J_putI fd_9_66 w_780 dX9_number_34 ?_
      refine J_iincK (z := 1) (lv' := [(4, .int _), (2, .long _), (0, .ref _), (1, .int _)]) dX9_number_37 3 rfl (by decide) (by decide) rfl ?_
      refine J_goto (tgt := 5) dX9_number_40 (by decide) ?_
      refine J_sub [2, 3, 1, 0] rfl ?_
      exact ih _ _ _ _ _
def fX9_number (l0 : Nat) (l1 : Int32) (M : Mem) : Option (Int64 × Mem) := fX9_number_5  FU l0 l1 (0 : Int64) (0 : Int32) M
set_option maxHeartbeats 4000000 in
set_option maxRecDepth 100000 in
theorem jX9_number (G : Gx) (l : Launch) (l0 : Nat) (l1 : Int32) (M : Mem) : J G l cX9_number 5 RX9 (some .long) "number" 0 0 (QM G (fun v : Int64 => some (.long v))) 0 [(0, .ref (adr G l0)), (1, .int l1)] [] M (fX9_number l0 l1 M) := by
  unfold fX9_number
  refine J_lconst (v := 0) dX9_number_0 (by decide) ?_
  refine J_lstore_n (lv' := [(2, .long _), (0, .ref _), (1, .int _)]) dX9_number_1 (by decide) rfl ?_
  refine J_iconst (v := 0) dX9_number_2 (by decide) ?_
  refine J_istore (lv' := [(4, .int _), (2, .long _), (0, .ref _), (1, .int _)]) dX9_number_3 (by decide) rfl ?_
  refine J_sub [2, 3, 1, 0] rfl ?_
  exact jX9_number_5 G l   FU _ _ _ _ _
theorem okX9_number (G : Gx) (l : Launch) (l0 : Nat) (l1 : Int32) (M : Mem) : Con G l yX9_number cX9_number 5 (some .long) 0 0 (fun v : Int64 => some (.long v)) [.ref (adr G l0), .int l1] M (fX9_number l0 l1 M) := con_of (own := RX9) (nm := "number") (by decide +kernel) rfl rfl (Nat.le_of_ble_eq_true rfl) (jX9_number G l l0 l1 M)
theorem mkX9_number : MOk yX9_number cX9_number 5 (some .long) 1 := ⟨w_781, tb1 (List.mem_of_getElem? (i := 10) rfl) rfl, by decide +kernel, by decide +kernel, by decide +kernel⟩
-- X9_sizeOf
def fX9_sizeOf_83  (s0 : Int32) (M : Mem) : Option (Int32 × Mem) := some (s0, M)
set_option maxHeartbeats 4000000 in
set_option maxRecDepth 100000 in
theorem jX9_sizeOf_83 (G : Gx) (l : Launch)   (s0 : Int32) (M : Mem) : J G l cX9_sizeOf 2 RX9 (some .int) "sizeOf" 0 0 (QM G (fun v : Int32 => some (.int v))) 83 [] [.int s0] M (fX9_sizeOf_83  s0 M) := by
  unfold fX9_sizeOf_83
  exact J_iret dX9_sizeOf_83
def fX9_sizeOf (l0 : Nat) (l1 : Int32) (M : Mem) : Option (Int32 × Mem) := (gR M 9 18 l0 fun r1 => (rI M .int r1 l1 fun v2 => (if v2 = 1 then some ((9 : Int32), M) else if v2 = 2 then (gI M 9 20 l0 fun v3 => (if v3 ≤ (l1 + (9 : Int32)) then fX9_sizeOf_83  (17000 : Int32) M else (gR M 9 18 l0 fun r4 => (rI M .int r4 (l1 + (9 : Int32)) fun v5 => fX9_sizeOf_83  ((10 : Int32) + ((9 : Int32) * v5)) M)))) else if v2 = 3 then some ((18 : Int32), M) else if v2 = 4 then some ((3 : Int32), M) else if v2 = 5 then some ((20 : Int32), M) else if v2 = 6 then some ((11 : Int32), M) else if v2 = 7 then some ((18 : Int32), M) else some ((17000 : Int32), M))))
set_option maxHeartbeats 4000000 in
set_option maxRecDepth 100000 in
theorem jX9_sizeOf (G : Gx) (l : Launch) (l0 : Nat) (l1 : Int32) (M : Mem) : J G l cX9_sizeOf 2 RX9 (some .int) "sizeOf" 0 0 (QM G (fun v : Int32 => some (.int v))) 0 [(0, .ref (adr G l0)), (1, .int l1)] [] M (fX9_sizeOf l0 l1 M) := by
  unfold fX9_sizeOf
  refine J_aload_n dX9_sizeOf_0 0 rfl ?_
  refine J_getR fd_9_18 w_487 rfl dX9_sizeOf_1 (fun r1 => ?_)
  refine J_iload_n dX9_sizeOf_4 1 rfl ?_
  refine J_iald dX9_sizeOf_5 ?_
  refine J_ite (fun h6_0 => ?_) (fun h6_0 => ?_)
  · refine J_tabI (off := 42) (tgt := 48) dX9_sizeOf_6 (by rw [h6_0]; decide) (by rw [h6_0]; decide) (by rw [h6_0]; decide) (by decide) ?_
    refine J_bipush (v := 9) dX9_sizeOf_48 (by decide) ?_
    exact J_iret dX9_sizeOf_50
  refine J_ite (fun h6_1 => ?_) (fun h6_1 => ?_)
  · refine J_tabI (off := 45) (tgt := 51) dX9_sizeOf_6 (by rw [h6_1]; decide) (by rw [h6_1]; decide) (by rw [h6_1]; decide) (by decide) ?_
    refine J_iload_n dX9_sizeOf_51 1 rfl ?_
    refine J_bipush (v := 9) dX9_sizeOf_52 (by decide) ?_
    refine J_iadd dX9_sizeOf_54 ?_
    refine J_aload_n dX9_sizeOf_55 0 rfl ?_
    refine J_getI fd_9_20 w_640 rfl dX9_sizeOf_56 ?_
    refine J_icmp_ge (tgt := 80) dX9_sizeOf_59 (by decide) ?_ ?_
    · refine J_sipush (v := 17000) dX9_sizeOf_80 (by decide) ?_
      refine J_sub [] rfl ?_
      exact jX9_sizeOf_83 G l   _ _
    · refine J_bipush (v := 10) dX9_sizeOf_62 (by decide) ?_
      refine J_bipush (v := 9) dX9_sizeOf_64 (by decide) ?_
      refine J_aload_n dX9_sizeOf_66 0 rfl ?_
      refine J_getR fd_9_18 w_487 rfl dX9_sizeOf_67 (fun r4 => ?_)
      refine J_iload_n dX9_sizeOf_70 1 rfl ?_
      refine J_bipush (v := 9) dX9_sizeOf_71 (by decide) ?_
      refine J_iadd dX9_sizeOf_73 ?_
      refine J_iald dX9_sizeOf_74 ?_
      refine J_imul dX9_sizeOf_75 ?_
      refine J_iadd dX9_sizeOf_76 ?_
      refine J_goto (tgt := 83) dX9_sizeOf_77 (by decide) ?_
      refine J_sub [] rfl ?_
      exact jX9_sizeOf_83 G l   _ _
  refine J_ite (fun h6_2 => ?_) (fun h6_2 => ?_)
  · refine J_tabI (off := 78) (tgt := 84) dX9_sizeOf_6 (by rw [h6_2]; decide) (by rw [h6_2]; decide) (by rw [h6_2]; decide) (by decide) ?_
    refine J_bipush (v := 18) dX9_sizeOf_84 (by decide) ?_
    exact J_iret dX9_sizeOf_86
  refine J_ite (fun h6_3 => ?_) (fun h6_3 => ?_)
  · refine J_tabI (off := 81) (tgt := 87) dX9_sizeOf_6 (by rw [h6_3]; decide) (by rw [h6_3]; decide) (by rw [h6_3]; decide) (by decide) ?_
    refine J_iconst (v := 3) dX9_sizeOf_87 (by decide) ?_
    exact J_iret dX9_sizeOf_88
  refine J_ite (fun h6_4 => ?_) (fun h6_4 => ?_)
  · refine J_tabI (off := 83) (tgt := 89) dX9_sizeOf_6 (by rw [h6_4]; decide) (by rw [h6_4]; decide) (by rw [h6_4]; decide) (by decide) ?_
    refine J_bipush (v := 20) dX9_sizeOf_89 (by decide) ?_
    exact J_iret dX9_sizeOf_91
  refine J_ite (fun h6_5 => ?_) (fun h6_5 => ?_)
  · refine J_tabI (off := 86) (tgt := 92) dX9_sizeOf_6 (by rw [h6_5]; decide) (by rw [h6_5]; decide) (by rw [h6_5]; decide) (by decide) ?_
    refine J_bipush (v := 11) dX9_sizeOf_92 (by decide) ?_
    exact J_iret dX9_sizeOf_94
  refine J_ite (fun h6_6 => ?_) (fun h6_6 => ?_)
  · refine J_tabI (off := 89) (tgt := 95) dX9_sizeOf_6 (by rw [h6_6]; decide) (by rw [h6_6]; decide) (by rw [h6_6]; decide) (by decide) ?_
    refine J_bipush (v := 18) dX9_sizeOf_95 (by decide) ?_
    exact J_iret dX9_sizeOf_97
  refine J_tabO (tgt := 98) dX9_sizeOf_6 (by have h6_0 := lv_neT h6_0 (show (1 : Int32).toInt = 1 by decide); have h6_1 := lv_neT h6_1 (show (2 : Int32).toInt = 2 by decide); have h6_2 := lv_neT h6_2 (show (3 : Int32).toInt = 3 by decide); have h6_3 := lv_neT h6_3 (show (4 : Int32).toInt = 4 by decide); have h6_4 := lv_neT h6_4 (show (5 : Int32).toInt = 5 by decide); have h6_5 := lv_neT h6_5 (show (6 : Int32).toInt = 6 by decide); have h6_6 := lv_neT h6_6 (show (7 : Int32).toInt = 7 by decide); omega) (by decide) ?_
  refine J_sipush (v := 17000) dX9_sizeOf_98 (by decide) ?_
  exact J_iret dX9_sizeOf_101
theorem okX9_sizeOf (G : Gx) (l : Launch) (l0 : Nat) (l1 : Int32) (M : Mem) : Con G l yX9_sizeOf cX9_sizeOf 2 (some .int) 0 0 (fun v : Int32 => some (.int v)) [.ref (adr G l0), .int l1] M (fX9_sizeOf l0 l1 M) := con_of (own := RX9) (nm := "sizeOf") (by decide +kernel) rfl rfl (Nat.le_of_ble_eq_true rfl) (jX9_sizeOf G l l0 l1 M)
theorem mkX9_sizeOf : MOk yX9_sizeOf cX9_sizeOf 2 (some .int) 1 := ⟨w_782, tb1 (List.mem_of_getElem? (i := 10) rfl) rfl, by decide +kernel, by decide +kernel, by decide +kernel⟩
