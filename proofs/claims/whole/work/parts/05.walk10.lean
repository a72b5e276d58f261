-- X9_post
def fX9_post_96  (l3 : Int32) (M : Mem) : Option (Int32 × Mem) := some (l3, M)
set_option maxHeartbeats 4000000 in
set_option maxRecDepth 100000 in
theorem jX9_post_96 (G : Gx) (l : Launch)   (l3 : Int32) (M : Mem) : J G l cX9_post 4 RX9 (some .int) "post" 5 118 (QM G (fun v : Int32 => some (.int v))) 96 [(3, .int l3)] [] M (fX9_post_96  l3 M) := by
  unfold fX9_post_96
  refine J_iload_n dX9_post_96 0 rfl ?_
  exact J_iret dX9_post_97
def fX9_post_31  : Nat → Nat → Int32 → Mem → Option (Int32 × Mem)
  | 0, _, _, _ => none
  | n + 1, l0, l3, M => (gI M 9 37 l0 fun v1 => (if v1 ≤ l3 then (cV M 9 l0 (fX9_calls l0 M) fun v3 M2 => (if v3 < 0 then fX9_post_96  v3 M2 else (pI M2 9 37 l0 (0 : Int32) fun M4 => fX9_post_96  v3 M4))) else (gR M 9 38 l0 fun r5 => (rI M .int r5 l3 fun v6 => (gR M 9 39 l0 fun r7 => (rJ M r7 l3 fun v8 => (cV M 9 l0 (fX9_leg l0 v6 v8 l3 M) fun _u10 M9 => (gR M9 9 38 l0 fun r11 => (rI M9 .int r11 l3 fun v12 => (cV M9 9 l0 (fX9_put l0 v12 M9) fun _u14 M13 => (gR M13 9 39 l0 fun r15 => (rJ M13 r15 l3 fun v16 => (cV M13 9 l0 (fX9_putLong l0 v16 M13) fun _u18 M17 => fX9_post_31  n l0 (l3 + (1 : Int32)) M17)))))))))))))
set_option maxHeartbeats 4000000 in
set_option maxRecDepth 100000 in
theorem jX9_post_31 (G : Gx) (l : Launch)   : ∀ (n : Nat) (l0 : Nat) (l3 : Int32) (M : Mem), J G l cX9_post 4 RX9 (some .int) "post" 5 118 (QM G (fun v : Int32 => some (.int v))) 31 [(0, .ref (adr G l0)), (3, .int l3)] [] M (fX9_post_31  n l0 l3 M) := by
  intro n
  induction n with
  | zero => intro l0 l3 M; exact J_none
  | succ n ih =>
    intro l0 l3 M
    rw [fX9_post_31]
    refine J_iload_n dX9_post_31 1 rfl ?_
    refine J_aload_n dX9_post_32 0 rfl ?_
    refine J_getI fd_9_37 w_663 rfl dX9_post_33 ?_
    refine J_icmp_ge (tgt := 82) dX9_post_36 (by decide) ?_ ?_
    · refine J_aload_n dX9_post_82 0 rfl ?_
      refine J_callVi (okX9_calls G l _ _) mkX9_calls _ _ rfl w_669 w_670 w_671 ⟨by decide, by decide⟩ rfl (Nat.le_of_ble_eq_true rfl) dX9_post_83 (fun v3 M2 => ?_)
      refine J_istore_n (lv' := [(3, .int _), (0, .ref _)]) dX9_post_86 (by decide) rfl ?_
      refine J_iload_n dX9_post_87 0 rfl ?_
      refine J_if_lt (tgt := 96) dX9_post_88 (by decide) ?_ ?_
      · refine J_sub [0] rfl ?_
        exact jX9_post_96 G l   _ _
      · refine J_aload_n dX9_post_91 1 rfl ?_
        refine J_iconst (v := 0) dX9_post_92 (by decide) ?_
        refine J_putI fd_9_37 w_663 dX9_post_93 ?_
        refine J_sub [0] rfl ?_
        exact jX9_post_96 G l   _ _
    · refine J_aload_n dX9_post_39 0 rfl ?_
      refine J_aload_n dX9_post_40 0 rfl ?_
      refine J_getR fd_9_38 w_497 rfl dX9_post_41 (fun r5 => ?_)
      refine J_iload_n dX9_post_44 1 rfl ?_
      refine J_iald dX9_post_45 ?_
      refine J_aload_n dX9_post_46 0 rfl ?_
      refine J_getR fd_9_39 w_498 rfl dX9_post_47 (fun r7 => ?_)
      refine J_iload_n dX9_post_50 1 rfl ?_
      refine J_lald dX9_post_51 ?_
      refine J_iload_n dX9_post_52 1 rfl ?_
      refine J_callVv (okX9_leg G l _ _ _ _ _) mkX9_leg _ _ rfl w_604 w_605 w_606 ⟨by decide, by decide⟩ rfl (Nat.le_of_ble_eq_true rfl) dX9_post_53 (fun _u10 M9 => ?_)
      refine J_aload_n dX9_post_56 0 rfl ?_
      refine J_aload_n dX9_post_57 0 rfl ?_
      refine J_getR fd_9_38 w_497 rfl dX9_post_58 (fun r11 => ?_)
      refine J_iload_n dX9_post_61 1 rfl ?_
      refine J_iald dX9_post_62 ?_
      refine J_callVv (okX9_put G l _ _ _) mkX9_put _ _ rfl w_589 w_590 w_591 ⟨by decide, by decide⟩ rfl (Nat.le_of_ble_eq_true rfl) dX9_post_63 (fun _u14 M13 => ?_)
      refine J_aload_n dX9_post_66 0 rfl ?_
      refine J_aload_n dX9_post_67 0 rfl ?_
      refine J_getR fd_9_39 w_498 rfl dX9_post_68 (fun r15 => ?_)
      refine J_iload_n dX9_post_71 1 rfl ?_
      refine J_lald dX9_post_72 ?_
      refine J_callVv (okX9_putLong G l _ _ _) mkX9_putLong _ _ rfl w_594 w_595 w_596 ⟨by decide, by decide⟩ rfl (Nat.le_of_ble_eq_true rfl) dX9_post_73 (fun _u18 M17 => ?_)
      refine J_iincK (z := 1) (lv' := [(3, .int _), (0, .ref _)]) dX9_post_76 1 rfl (by decide) (by decide) rfl ?_
      refine J_goto (tgt := 31) dX9_post_79 (by decide) ?_
      refine J_sub [1, 0] rfl ?_
      exact ih _ _ _
def fX9_post_13   (M : Mem) : Option (Int32 × Mem) := some ((-1 : Int32), M)
set_option maxHeartbeats 4000000 in
set_option maxRecDepth 100000 in
theorem jX9_post_13 (G : Gx) (l : Launch)    (M : Mem) : J G l cX9_post 4 RX9 (some .int) "post" 5 118 (QM G (fun v : Int32 => some (.int v))) 13 [] [] M (fX9_post_13   M) := by
  unfold fX9_post_13
  refine J_iconst (v := -1) dX9_post_13 (by decide) ?_
  exact J_iret dX9_post_14
def fX9_post (l0 : Nat) (l1 : Int64) (M : Mem) : Option (Int32 × Mem) := (gI M 9 37 l0 fun v1 => (if v1 = 0 then fX9_post_13   M else (if l1 = (0 : Int64) then fX9_post_13   M else (cV M 9 l0 (fX9_begins l0 (2 : Int32) l1 M) fun _u3 M2 => (gI M2 9 37 l0 fun v4 => (cV M2 9 l0 (fX9_put l0 v4 M2) fun _u6 M5 => fX9_post_31  FU l0 (0 : Int32) M5))))))
set_option maxHeartbeats 4000000 in
set_option maxRecDepth 100000 in
theorem jX9_post (G : Gx) (l : Launch) (l0 : Nat) (l1 : Int64) (M : Mem) : J G l cX9_post 4 RX9 (some .int) "post" 5 118 (QM G (fun v : Int32 => some (.int v))) 0 [(0, .ref (adr G l0)), (1, .long l1)] [] M (fX9_post l0 l1 M) := by
  unfold fX9_post
  refine J_aload_n dX9_post_0 0 rfl ?_
  refine J_getI fd_9_37 w_663 rfl dX9_post_1 ?_
  refine J_if_eq (tgt := 13) dX9_post_4 (by decide) ?_ ?_
  · refine J_sub [] rfl ?_
    exact jX9_post_13 G l    _
  · refine J_lload_n dX9_post_7 1 rfl ?_
    refine J_lconst (v := 0) dX9_post_8 (by decide) ?_
    refine J_lcmp_ne (tgt := 15) dX9_post_9 dX9_post_10 (by decide) ?_ ?_
    · refine J_aload_n dX9_post_15 0 rfl ?_
      refine J_iconst (v := 2) dX9_post_16 (by decide) ?_
      refine J_lload_n dX9_post_17 1 rfl ?_
      refine J_callVv (okX9_begins G l _ _ _ _) mkX9_begins _ _ rfl w_636 w_637 w_638 ⟨by decide, by decide⟩ rfl (Nat.le_of_ble_eq_true rfl) dX9_post_18 (fun _u3 M2 => ?_)
      refine J_aload_n dX9_post_21 0 rfl ?_
      refine J_aload_n dX9_post_22 0 rfl ?_
      refine J_getI fd_9_37 w_663 rfl dX9_post_23 ?_
      refine J_callVv (okX9_put G l _ _ _) mkX9_put _ _ rfl w_589 w_590 w_591 ⟨by decide, by decide⟩ rfl (Nat.le_of_ble_eq_true rfl) dX9_post_26 (fun _u6 M5 => ?_)
      refine J_iconst (v := 0) dX9_post_29 (by decide) ?_
      refine J_istore_n (lv' := [(3, .int _), (0, .ref _), (1, .long _)]) dX9_post_30 (by decide) rfl ?_
      refine J_sub [1, 0] rfl ?_
      exact jX9_post_31 G l   FU _ _ _
    · refine J_sub [] rfl ?_
      exact jX9_post_13 G l    _
theorem okX9_post (G : Gx) (l : Launch) (l0 : Nat) (l1 : Int64) (M : Mem) : Con G l yX9_post cX9_post 4 (some .int) 5 118 (fun v : Int32 => some (.int v)) [.ref (adr G l0), .long l1] M (fX9_post l0 l1 M) := con_of (own := RX9) (nm := "post") (by decide +kernel) rfl rfl (Nat.le_of_ble_eq_true rfl) (jX9_post G l l0 l1 M)
theorem mkX9_post : MOk yX9_post cX9_post 4 (some .int) 1 := ⟨w_672, tb1 (List.mem_of_getElem? (i := 10) rfl) rfl, by decide +kernel, by decide +kernel, by decide +kernel⟩
-- X9_hold_
def fX9_hold__24   (M : Mem) : Option (Int32 × Mem) := some ((-1 : Int32), M)
set_option maxHeartbeats 4000000 in
set_option maxRecDepth 100000 in
theorem jX9_hold__24 (G : Gx) (l : Launch)    (M : Mem) : J G l cX9_hold_ 6 RX9 (some .int) "hold" 5 118 (QM G (fun v : Int32 => some (.int v))) 24 [] [] M (fX9_hold__24   M) := by
  unfold fX9_hold__24
  refine J_iconst (v := -1) dX9_hold__24 (by decide) ?_
  exact J_iret dX9_hold__25
def fX9_hold_ (l0 : Nat) (l1 : Int64) (l3 : Int32) (l4 : Int64) (M : Mem) : Option (Int32 × Mem) := (if l1 = (0 : Int64) then fX9_hold__24   M else (bd (fX9_in l3 (0 : Int32) (255 : Int32) M) fun v2 M1 => (if v2 = 0 then fX9_hold__24   M1 else (if (0 : Int64) < l4 then (cV M1 9 l0 (fX9_begins l0 (3 : Int32) l1 M1) fun _u4 M3 => (cV M3 9 l0 (fX9_put l0 l3 M3) fun _u6 M5 => (cV M5 9 l0 (fX9_putLong l0 l4 M5) fun _u8 M7 => (pI M7 9 29 l0 l3 fun M9 => (pJ M9 9 31 l0 l4 fun M10 => (cV M10 9 l0 (fX9_calls l0 M10) fun v12 M11 => some (v12, M11))))))) else fX9_hold__24   M1))))
set_option maxHeartbeats 4000000 in
set_option maxRecDepth 100000 in
theorem jX9_hold_ (G : Gx) (l : Launch) (l0 : Nat) (l1 : Int64) (l3 : Int32) (l4 : Int64) (M : Mem) : J G l cX9_hold_ 6 RX9 (some .int) "hold" 5 118 (QM G (fun v : Int32 => some (.int v))) 0 [(0, .ref (adr G l0)), (1, .long l1), (3, .int l3), (4, .long l4)] [] M (fX9_hold_ l0 l1 l3 l4 M) := by
  unfold fX9_hold_
  refine J_lload_n dX9_hold__0 1 rfl ?_
  refine J_lconst (v := 0) dX9_hold__1 (by decide) ?_
  refine J_lcmp_eq (tgt := 24) dX9_hold__2 dX9_hold__3 (by decide) ?_ ?_
  · refine J_sub [] rfl ?_
    exact jX9_hold__24 G l    _
  · refine J_iload_n dX9_hold__6 2 rfl ?_
    refine J_iconst (v := 0) dX9_hold__7 (by decide) ?_
    refine J_sipush (v := 255) dX9_hold__8 (by decide) ?_
    refine J_callSi (okX9_in G l _ _ _ _) mkX9_in w_665 w_664 ⟨by decide, by decide⟩ rfl (Nat.le_of_ble_eq_true rfl) dX9_hold__11 (fun v2 M1 => ?_)
    refine J_if_eq (tgt := 24) dX9_hold__14 (by decide) ?_ ?_
    · refine J_sub [] rfl ?_
      exact jX9_hold__24 G l    _
    · refine J_lload dX9_hold__17 3 rfl ?_
      refine J_lconst (v := 0) dX9_hold__19 (by decide) ?_
      refine J_lcmp_gt (tgt := 26) dX9_hold__20 dX9_hold__21 (by decide) ?_ ?_
      · refine J_aload_n dX9_hold__26 0 rfl ?_
        refine J_iconst (v := 3) dX9_hold__27 (by decide) ?_
        refine J_lload_n dX9_hold__28 1 rfl ?_
        refine J_callVv (okX9_begins G l _ _ _ _) mkX9_begins _ _ rfl w_636 w_637 w_638 ⟨by decide, by decide⟩ rfl (Nat.le_of_ble_eq_true rfl) dX9_hold__29 (fun _u4 M3 => ?_)
        refine J_aload_n dX9_hold__32 0 rfl ?_
        refine J_iload_n dX9_hold__33 2 rfl ?_
        refine J_callVv (okX9_put G l _ _ _) mkX9_put _ _ rfl w_589 w_590 w_591 ⟨by decide, by decide⟩ rfl (Nat.le_of_ble_eq_true rfl) dX9_hold__34 (fun _u6 M5 => ?_)
        refine J_aload_n dX9_hold__37 0 rfl ?_
        refine J_lload dX9_hold__38 3 rfl ?_
        refine J_callVv (okX9_putLong G l _ _ _) mkX9_putLong _ _ rfl w_594 w_595 w_596 ⟨by decide, by decide⟩ rfl (Nat.le_of_ble_eq_true rfl) dX9_hold__40 (fun _u8 M7 => ?_)
        refine J_aload_n dX9_hold__43 0 rfl ?_
        refine J_iload_n dX9_hold__44 2 rfl ?_
        refine J_putI fd_9_29 w_585 dX9_hold__45 ?_
        refine J_aload_n dX9_hold__48 0 rfl ?_
        refine J_lload dX9_hold__49 3 rfl ?_
        refine J_putJ fd_9_31 w_586 dX9_hold__51 ?_
        refine J_aload_n dX9_hold__54 0 rfl ?_
        refine J_callVi (okX9_calls G l _ _) mkX9_calls _ _ rfl w_669 w_670 w_671 ⟨by decide, by decide⟩ rfl (Nat.le_of_ble_eq_true rfl) dX9_hold__55 (fun v12 M11 => ?_)
        exact J_iret dX9_hold__58
      · refine J_sub [] rfl ?_
        exact jX9_hold__24 G l    _
theorem okX9_hold_ (G : Gx) (l : Launch) (l0 : Nat) (l1 : Int64) (l3 : Int32) (l4 : Int64) (M : Mem) : Con G l yX9_hold_ cX9_hold_ 6 (some .int) 5 118 (fun v : Int32 => some (.int v)) [.ref (adr G l0), .long l1, .int l3, .long l4] M (fX9_hold_ l0 l1 l3 l4 M) := con_of (own := RX9) (nm := "hold") (by decide +kernel) rfl rfl (Nat.le_of_ble_eq_true rfl) (jX9_hold_ G l l0 l1 l3 l4 M)
theorem mkX9_hold_ : MOk yX9_hold_ cX9_hold_ 6 (some .int) 3 := ⟨w_673, tb1 (List.mem_of_getElem? (i := 10) rfl) rfl, by decide +kernel, by decide +kernel, by decide +kernel⟩
-- X9_release
def fX9_release (l0 : Nat) (l1 : Int32) (M : Mem) : Option (Int32 × Mem) := (bd (fX9_in l1 (0 : Int32) (199 : Int32) M) fun v2 M1 => (if v2 = 0 then some ((-1 : Int32), M1) else (cV M1 9 l0 (fX9_begins l0 (4 : Int32) (0 : Int64) M1) fun _u4 M3 => (cV M3 9 l0 (fX9_putShort l0 l1 M3) fun _u6 M5 => (pI M5 9 28 l0 l1 fun M7 => (cV M7 9 l0 (fX9_calls l0 M7) fun v9 M8 => some (v9, M8)))))))
set_option maxHeartbeats 4000000 in
set_option maxRecDepth 100000 in
theorem jX9_release (G : Gx) (l : Launch) (l0 : Nat) (l1 : Int32) (M : Mem) : J G l cX9_release 2 RX9 (some .int) "release" 5 118 (QM G (fun v : Int32 => some (.int v))) 0 [(0, .ref (adr G l0)), (1, .int l1)] [] M (fX9_release l0 l1 M) := by
  unfold fX9_release
  refine J_iload_n dX9_release_0 1 rfl ?_
  refine J_iconst (v := 0) dX9_release_1 (by decide) ?_
  refine J_sipush (v := 199) dX9_release_2 (by decide) ?_
  refine J_callSi (okX9_in G l _ _ _ _) mkX9_in w_665 w_664 ⟨by decide, by decide⟩ rfl (Nat.le_of_ble_eq_true rfl) dX9_release_5 (fun v2 M1 => ?_)
  refine J_if_ne (tgt := 13) dX9_release_8 (by decide) ?_ ?_
  · refine J_aload_n dX9_release_13 0 rfl ?_
    refine J_iconst (v := 4) dX9_release_14 (by decide) ?_
    refine J_lconst (v := 0) dX9_release_15 (by decide) ?_
    refine J_callVv (okX9_begins G l _ _ _ _) mkX9_begins _ _ rfl w_636 w_637 w_638 ⟨by decide, by decide⟩ rfl (Nat.le_of_ble_eq_true rfl) dX9_release_16 (fun _u4 M3 => ?_)
    refine J_aload_n dX9_release_19 0 rfl ?_
    refine J_iload_n dX9_release_20 1 rfl ?_
    refine J_callVv (okX9_putShort G l _ _ _) mkX9_putShort _ _ rfl w_674 w_675 w_676 ⟨by decide, by decide⟩ rfl (Nat.le_of_ble_eq_true rfl) dX9_release_21 (fun _u6 M5 => ?_)
    refine J_aload_n dX9_release_24 0 rfl ?_
    refine J_iload_n dX9_release_25 1 rfl ?_
    refine J_putI fd_9_28 w_584 dX9_release_26 ?_
    refine J_aload_n dX9_release_29 0 rfl ?_
    refine J_callVi (okX9_calls G l _ _) mkX9_calls _ _ rfl w_669 w_670 w_671 ⟨by decide, by decide⟩ rfl (Nat.le_of_ble_eq_true rfl) dX9_release_30 (fun v9 M8 => ?_)
    exact J_iret dX9_release_33
  · refine J_iconst (v := -1) dX9_release_11 (by decide) ?_
    exact J_iret dX9_release_12
theorem okX9_release (G : Gx) (l : Launch) (l0 : Nat) (l1 : Int32) (M : Mem) : Con G l yX9_release cX9_release 2 (some .int) 5 118 (fun v : Int32 => some (.int v)) [.ref (adr G l0), .int l1] M (fX9_release l0 l1 M) := con_of (own := RX9) (nm := "release") (by decide +kernel) rfl rfl (Nat.le_of_ble_eq_true rfl) (jX9_release G l l0 l1 M)
theorem mkX9_release : MOk yX9_release cX9_release 2 (some .int) 1 := ⟨w_677, tb1 (List.mem_of_getElem? (i := 10) rfl) rfl, by decide +kernel, by decide +kernel, by decide +kernel⟩
-- X9_capture
def fX9_capture_36   (M : Mem) : Option (Int32 × Mem) := some ((-1 : Int32), M)
set_option maxHeartbeats 4000000 in
set_option maxRecDepth 100000 in
theorem jX9_capture_36 (G : Gx) (l : Launch)    (M : Mem) : J G l cX9_capture 7 RX9 (some .int) "capture" 5 118 (QM G (fun v : Int32 => some (.int v))) 36 [] [] M (fX9_capture_36   M) := by
  unfold fX9_capture_36
  refine J_iconst (v := -1) dX9_capture_36 (by decide) ?_
  exact J_iret dX9_capture_37
def fX9_capture (l0 : Nat) (l1 : Int64) (l3 : Int32) (l4 : Int32) (l5 : Int64) (M : Mem) : Option (Int32 × Mem) := (if l1 = (0 : Int64) then fX9_capture_36   M else (bd (fX9_in l3 (0 : Int32) (199 : Int32) M) fun v2 M1 => (if v2 = 0 then fX9_capture_36   M1 else (bd (fX9_in l4 (0 : Int32) (255 : Int32) M1) fun v4 M3 => (if v4 = 0 then fX9_capture_36   M3 else (if (0 : Int64) < l5 then (cV M3 9 l0 (fX9_begins l0 (5 : Int32) l1 M3) fun _u6 M5 => (cV M5 9 l0 (fX9_putShort l0 l3 M5) fun _u8 M7 => (cV M7 9 l0 (fX9_put l0 l4 M7) fun _u10 M9 => (cV M9 9 l0 (fX9_putLong l0 l5 M9) fun _u12 M11 => (pI M11 9 28 l0 l3 fun M13 => (pI M13 9 29 l0 l4 fun M14 => (pJ M14 9 31 l0 l5 fun M15 => (cV M15 9 l0 (fX9_calls l0 M15) fun v17 M16 => some (v17, M16))))))))) else fX9_capture_36   M3))))))
set_option maxHeartbeats 4000000 in
set_option maxRecDepth 100000 in
theorem jX9_capture (G : Gx) (l : Launch) (l0 : Nat) (l1 : Int64) (l3 : Int32) (l4 : Int32) (l5 : Int64) (M : Mem) : J G l cX9_capture 7 RX9 (some .int) "capture" 5 118 (QM G (fun v : Int32 => some (.int v))) 0 [(0, .ref (adr G l0)), (1, .long l1), (3, .int l3), (4, .int l4), (5, .long l5)] [] M (fX9_capture l0 l1 l3 l4 l5 M) := by
  unfold fX9_capture
  refine J_lload_n dX9_capture_0 1 rfl ?_
  refine J_lconst (v := 0) dX9_capture_1 (by decide) ?_
  refine J_lcmp_eq (tgt := 36) dX9_capture_2 dX9_capture_3 (by decide) ?_ ?_
  · refine J_sub [] rfl ?_
    exact jX9_capture_36 G l    _
  · refine J_iload_n dX9_capture_6 2 rfl ?_
    refine J_iconst (v := 0) dX9_capture_7 (by decide) ?_
    refine J_sipush (v := 199) dX9_capture_8 (by decide) ?_
    refine J_callSi (okX9_in G l _ _ _ _) mkX9_in w_665 w_664 ⟨by decide, by decide⟩ rfl (Nat.le_of_ble_eq_true rfl) dX9_capture_11 (fun v2 M1 => ?_)
    refine J_if_eq (tgt := 36) dX9_capture_14 (by decide) ?_ ?_
    · refine J_sub [] rfl ?_
      exact jX9_capture_36 G l    _
    · refine J_iload dX9_capture_17 3 rfl ?_
      refine J_iconst (v := 0) dX9_capture_19 (by decide) ?_
      refine J_sipush (v := 255) dX9_capture_20 (by decide) ?_
      refine J_callSi (okX9_in G l _ _ _ _) mkX9_in w_665 w_664 ⟨by decide, by decide⟩ rfl (Nat.le_of_ble_eq_true rfl) dX9_capture_23 (fun v4 M3 => ?_)
      refine J_if_eq (tgt := 36) dX9_capture_26 (by decide) ?_ ?_
      · refine J_sub [] rfl ?_
        exact jX9_capture_36 G l    _
      · refine J_lload dX9_capture_29 4 rfl ?_
        refine J_lconst (v := 0) dX9_capture_31 (by decide) ?_
        refine J_lcmp_gt (tgt := 38) dX9_capture_32 dX9_capture_33 (by decide) ?_ ?_
        · refine J_aload_n dX9_capture_38 0 rfl ?_
          refine J_iconst (v := 5) dX9_capture_39 (by decide) ?_
          refine J_lload_n dX9_capture_40 1 rfl ?_
          refine J_callVv (okX9_begins G l _ _ _ _) mkX9_begins _ _ rfl w_636 w_637 w_638 ⟨by decide, by decide⟩ rfl (Nat.le_of_ble_eq_true rfl) dX9_capture_41 (fun _u6 M5 => ?_)
          refine J_aload_n dX9_capture_44 0 rfl ?_
          refine J_iload_n dX9_capture_45 2 rfl ?_
          refine J_callVv (okX9_putShort G l _ _ _) mkX9_putShort _ _ rfl w_674 w_675 w_676 ⟨by decide, by decide⟩ rfl (Nat.le_of_ble_eq_true rfl) dX9_capture_46 (fun _u8 M7 => ?_)
          refine J_aload_n dX9_capture_49 0 rfl ?_
          refine J_iload dX9_capture_50 3 rfl ?_
          refine J_callVv (okX9_put G l _ _ _) mkX9_put _ _ rfl w_589 w_590 w_591 ⟨by decide, by decide⟩ rfl (Nat.le_of_ble_eq_true rfl) dX9_capture_52 (fun _u10 M9 => ?_)
          refine J_aload_n dX9_capture_55 0 rfl ?_
          refine J_lload dX9_capture_56 4 rfl ?_
          refine J_callVv (okX9_putLong G l _ _ _) mkX9_putLong _ _ rfl w_594 w_595 w_596 ⟨by decide, by decide⟩ rfl (Nat.le_of_ble_eq_true rfl) dX9_capture_58 (fun _u12 M11 => ?_)
          refine J_aload_n dX9_capture_61 0 rfl ?_
          refine J_iload_n dX9_capture_62 2 rfl ?_
          refine J_putI fd_9_28 w_584 dX9_capture_63 ?_
          refine J_aload_n dX9_capture_66 0 rfl ?_
          refine J_iload dX9_capture_67 3 rfl ?_
          refine J_putI fd_9_29 w_585 dX9_capture_69 ?_
          refine J_aload_n dX9_capture_72 0 rfl ?_
          refine J_lload dX9_capture_73 4 rfl ?_
          refine J_putJ fd_9_31 w_586 dX9_capture_75 ?_
          refine J_aload_n dX9_capture_78 0 rfl ?_
          refine J_callVi (okX9_calls G l _ _) mkX9_calls _ _ rfl w_669 w_670 w_671 ⟨by decide, by decide⟩ rfl (Nat.le_of_ble_eq_true rfl) dX9_capture_79 (fun v17 M16 => ?_)
          exact J_iret dX9_capture_82
        · refine J_sub [] rfl ?_
          exact jX9_capture_36 G l    _
theorem okX9_capture (G : Gx) (l : Launch) (l0 : Nat) (l1 : Int64) (l3 : Int32) (l4 : Int32) (l5 : Int64) (M : Mem) : Con G l yX9_capture cX9_capture 7 (some .int) 5 118 (fun v : Int32 => some (.int v)) [.ref (adr G l0), .long l1, .int l3, .int l4, .long l5] M (fX9_capture l0 l1 l3 l4 l5 M) := con_of (own := RX9) (nm := "capture") (by decide +kernel) rfl rfl (Nat.le_of_ble_eq_true rfl) (jX9_capture G l l0 l1 l3 l4 l5 M)
theorem mkX9_capture : MOk yX9_capture cX9_capture 7 (some .int) 4 := ⟨w_678, tb1 (List.mem_of_getElem? (i := 10) rfl) rfl, by decide +kernel, by decide +kernel, by decide +kernel⟩
-- X9_reverse
def fX9_reverse_17   (M : Mem) : Option (Int32 × Mem) := some ((-1 : Int32), M)
set_option maxHeartbeats 4000000 in
set_option maxRecDepth 100000 in
theorem jX9_reverse_17 (G : Gx) (l : Launch)    (M : Mem) : J G l cX9_reverse 4 RX9 (some .int) "reverse" 5 118 (QM G (fun v : Int32 => some (.int v))) 17 [] [] M (fX9_reverse_17   M) := by
  unfold fX9_reverse_17
  refine J_iconst (v := -1) dX9_reverse_17 (by decide) ?_
  exact J_iret dX9_reverse_18
def fX9_reverse (l0 : Nat) (l1 : Int64) (l3 : Int32) (M : Mem) : Option (Int32 × Mem) := (if l1 = (0 : Int64) then fX9_reverse_17   M else (bd (fX9_in l3 (0 : Int32) (199 : Int32) M) fun v2 M1 => (if v2 = 0 then fX9_reverse_17   M1 else (cV M1 9 l0 (fX9_begins l0 (6 : Int32) l1 M1) fun _u4 M3 => (cV M3 9 l0 (fX9_putShort l0 l3 M3) fun _u6 M5 => (pI M5 9 28 l0 l3 fun M7 => (cV M7 9 l0 (fX9_calls l0 M7) fun v9 M8 => some (v9, M8))))))))
set_option maxHeartbeats 4000000 in
set_option maxRecDepth 100000 in
theorem jX9_reverse (G : Gx) (l : Launch) (l0 : Nat) (l1 : Int64) (l3 : Int32) (M : Mem) : J G l cX9_reverse 4 RX9 (some .int) "reverse" 5 118 (QM G (fun v : Int32 => some (.int v))) 0 [(0, .ref (adr G l0)), (1, .long l1), (3, .int l3)] [] M (fX9_reverse l0 l1 l3 M) := by
  unfold fX9_reverse
  refine J_lload_n dX9_reverse_0 1 rfl ?_
  refine J_lconst (v := 0) dX9_reverse_1 (by decide) ?_
  refine J_lcmp_eq (tgt := 17) dX9_reverse_2 dX9_reverse_3 (by decide) ?_ ?_
  · refine J_sub [] rfl ?_
    exact jX9_reverse_17 G l    _
  · refine J_iload_n dX9_reverse_6 2 rfl ?_
    refine J_iconst (v := 0) dX9_reverse_7 (by decide) ?_
    refine J_sipush (v := 199) dX9_reverse_8 (by decide) ?_
    refine J_callSi (okX9_in G l _ _ _ _) mkX9_in w_665 w_664 ⟨by decide, by decide⟩ rfl (Nat.le_of_ble_eq_true rfl) dX9_reverse_11 (fun v2 M1 => ?_)
    refine J_if_ne (tgt := 19) dX9_reverse_14 (by decide) ?_ ?_
    · refine J_aload_n dX9_reverse_19 0 rfl ?_
      refine J_bipush (v := 6) dX9_reverse_20 (by decide) ?_
      refine J_lload_n dX9_reverse_22 1 rfl ?_
      refine J_callVv (okX9_begins G l _ _ _ _) mkX9_begins _ _ rfl w_636 w_637 w_638 ⟨by decide, by decide⟩ rfl (Nat.le_of_ble_eq_true rfl) dX9_reverse_23 (fun _u4 M3 => ?_)
      refine J_aload_n dX9_reverse_26 0 rfl ?_
      refine J_iload_n dX9_reverse_27 2 rfl ?_
      refine J_callVv (okX9_putShort G l _ _ _) mkX9_putShort _ _ rfl w_674 w_675 w_676 ⟨by decide, by decide⟩ rfl (Nat.le_of_ble_eq_true rfl) dX9_reverse_28 (fun _u6 M5 => ?_)
      refine J_aload_n dX9_reverse_31 0 rfl ?_
      refine J_iload_n dX9_reverse_32 2 rfl ?_
      refine J_putI fd_9_28 w_584 dX9_reverse_33 ?_
      refine J_aload_n dX9_reverse_36 0 rfl ?_
      refine J_callVi (okX9_calls G l _ _) mkX9_calls _ _ rfl w_669 w_670 w_671 ⟨by decide, by decide⟩ rfl (Nat.le_of_ble_eq_true rfl) dX9_reverse_37 (fun v9 M8 => ?_)
      exact J_iret dX9_reverse_40
    · refine J_sub [] rfl ?_
      exact jX9_reverse_17 G l    _
theorem okX9_reverse (G : Gx) (l : Launch) (l0 : Nat) (l1 : Int64) (l3 : Int32) (M : Mem) : Con G l yX9_reverse cX9_reverse 4 (some .int) 5 118 (fun v : Int32 => some (.int v)) [.ref (adr G l0), .long l1, .int l3] M (fX9_reverse l0 l1 l3 M) := con_of (own := RX9) (nm := "reverse") (by decide +kernel) rfl rfl (Nat.le_of_ble_eq_true rfl) (jX9_reverse G l l0 l1 l3 M)
theorem mkX9_reverse : MOk yX9_reverse cX9_reverse 4 (some .int) 2 := ⟨w_679, tb1 (List.mem_of_getElem? (i := 10) rfl) rfl, by decide +kernel, by decide +kernel, by decide +kernel⟩
-- X9_every
def fX9_every_70  (l0 : Nat) (l1 : Int32) (l2 : Int32) (M : Mem) : Option (Int32 × Mem) := (gR M 9 23 l0 fun r1 => (gI M 9 25 l0 fun v2 => (gR M 9 1 l0 fun r3 => (rI M .int r3 (0 : Int32) fun v4 => (wI M .int r1 (v2 - (1 : Int32)) v4 fun M5 => (gR M5 9 24 l0 fun r6 => (gI M5 9 25 l0 fun v7 => (wI M5 .int r6 (v7 - (1 : Int32)) l1 fun M8 => some (l2, M8)))))))))
set_option maxHeartbeats 4000000 in
set_option maxRecDepth 100000 in
theorem jX9_every_70 (G : Gx) (l : Launch)   (l0 : Nat) (l1 : Int32) (l2 : Int32) (M : Mem) : J G l cX9_every 3 RX9 (some .int) "every" 1 22 (QM G (fun v : Int32 => some (.int v))) 70 [(0, .ref (adr G l0)), (1, .int l1), (2, .int l2)] [] M (fX9_every_70  l0 l1 l2 M) := by
  unfold fX9_every_70
  refine J_aload_n dX9_every_70 0 rfl ?_
  refine J_getR fd_9_23 w_491 rfl dX9_every_71 (fun r1 => ?_)
  refine J_aload_n dX9_every_74 0 rfl ?_
  refine J_getI fd_9_25 w_680 rfl dX9_every_75 ?_
  refine J_iconst (v := 1) dX9_every_78 (by decide) ?_
  refine J_isub dX9_every_79 ?_
  refine J_aload_n dX9_every_80 0 rfl ?_
  refine J_getR fd_9_1 w_470 rfl dX9_every_81 (fun r3 => ?_)
  refine J_iconst (v := 0) dX9_every_84 (by decide) ?_
  refine J_iald dX9_every_85 ?_
  refine J_iast dX9_every_86 ?_
  refine J_aload_n dX9_every_87 0 rfl ?_
  refine J_getR fd_9_24 w_492 rfl dX9_every_88 (fun r6 => ?_)
  refine J_aload_n dX9_every_91 0 rfl ?_
  refine J_getI fd_9_25 w_680 rfl dX9_every_92 ?_
  refine J_iconst (v := 1) dX9_every_95 (by decide) ?_
  refine J_isub dX9_every_96 ?_
  refine J_iload_n dX9_every_97 1 rfl ?_
  refine J_iast dX9_every_98 ?_
  refine J_iload_n dX9_every_99 2 rfl ?_
  exact J_iret dX9_every_100
def fX9_every_60  (l0 : Nat) (l1 : Int32) (l2 : Int32) (M : Mem) : Option (Int32 × Mem) := (gI M 9 25 l0 fun v1 => (pI M 9 25 l0 (v1 + (1 : Int32)) fun M2 => fX9_every_70  l0 l1 l2 M2))
set_option maxHeartbeats 4000000 in
set_option maxRecDepth 100000 in
theorem jX9_every_60 (G : Gx) (l : Launch)   (l0 : Nat) (l1 : Int32) (l2 : Int32) (M : Mem) : J G l cX9_every 3 RX9 (some .int) "every" 1 22 (QM G (fun v : Int32 => some (.int v))) 60 [(0, .ref (adr G l0)), (1, .int l1), (2, .int l2)] [] M (fX9_every_60  l0 l1 l2 M) := by
  unfold fX9_every_60
  refine J_aload_n dX9_every_60 0 rfl ?_
  refine J_dup dX9_every_61 rfl ?_
  refine J_getI fd_9_25 w_680 rfl dX9_every_62 ?_
  refine J_iconst (v := 1) dX9_every_65 (by decide) ?_
  refine J_iadd dX9_every_66 ?_
  refine J_putI fd_9_25 w_680 dX9_every_67 ?_
  refine J_sub [0, 1, 2] rfl ?_
  exact jX9_every_70 G l   _ _ _ _
def fX9_every (l0 : Nat) (l1 : Int32) (M : Mem) : Option (Int32 × Mem) := (bd (fX9_in l1 (0 : Int32) (50 : Int32) M) fun v2 M1 => (if v2 = 0 then some ((-1 : Int32), M1) else (gR M1 9 2 l0 fun r3 => (rI M1 .int r3 (0 : Int32) fun v4 => (gR M1 9 2 l0 fun r5 => (wI M1 .int r5 (0 : Int32) l1 fun M6 => (gR M6 9 3 l0 fun r7 => (wI M6 .int r7 (0 : Int32) (0 : Int32) fun M8 => (gI M8 9 25 l0 fun v9 => (if v9 = 0 then fX9_every_60  l0 l1 v4 M8 else (gR M8 9 23 l0 fun r10 => (gI M8 9 25 l0 fun v11 => (rI M8 .int r10 (v11 - (1 : Int32)) fun v12 => (gR M8 9 1 l0 fun r13 => (rI M8 .int r13 (0 : Int32) fun v14 => (if v12 = v14 then fX9_every_70  l0 l1 v4 M8 else fX9_every_60  l0 l1 v4 M8))))))))))))))))
set_option maxHeartbeats 4000000 in
set_option maxRecDepth 100000 in
theorem jX9_every (G : Gx) (l : Launch) (l0 : Nat) (l1 : Int32) (M : Mem) : J G l cX9_every 3 RX9 (some .int) "every" 1 22 (QM G (fun v : Int32 => some (.int v))) 0 [(0, .ref (adr G l0)), (1, .int l1)] [] M (fX9_every l0 l1 M) := by
  unfold fX9_every
  refine J_iload_n dX9_every_0 1 rfl ?_
  refine J_iconst (v := 0) dX9_every_1 (by decide) ?_
  refine J_bipush (v := 50) dX9_every_2 (by decide) ?_
  refine J_callSi (okX9_in G l _ _ _ _) mkX9_in w_665 w_664 ⟨by decide, by decide⟩ rfl (Nat.le_of_ble_eq_true rfl) dX9_every_4 (fun v2 M1 => ?_)
  refine J_if_ne (tgt := 12) dX9_every_7 (by decide) ?_ ?_
  · refine J_aload_n dX9_every_12 0 rfl ?_
    refine J_getR fd_9_2 w_471 rfl dX9_every_13 (fun r3 => ?_)
    refine J_iconst (v := 0) dX9_every_16 (by decide) ?_
    refine J_iald dX9_every_17 ?_
    refine J_istore_n (lv' := [(2, .int _), (0, .ref _), (1, .int _)]) dX9_every_18 (by decide) rfl ?_
    refine J_aload_n dX9_every_19 1 rfl ?_
    refine J_getR fd_9_2 w_471 rfl dX9_every_20 (fun r5 => ?_)
    refine J_iconst (v := 0) dX9_every_23 (by decide) ?_
    refine J_iload_n dX9_every_24 2 rfl ?_
    refine J_iast dX9_every_25 ?_
    refine J_aload_n dX9_every_26 1 rfl ?_
    refine J_getR fd_9_3 w_472 rfl dX9_every_27 (fun r7 => ?_)
    refine J_iconst (v := 0) dX9_every_30 (by decide) ?_
    refine J_iconst (v := 0) dX9_every_31 (by decide) ?_
    refine J_iast dX9_every_32 ?_
    refine J_aload_n dX9_every_33 1 rfl ?_
    refine J_getI fd_9_25 w_680 rfl dX9_every_34 ?_
    refine J_if_eq (tgt := 60) dX9_every_37 (by decide) ?_ ?_
    · refine J_sub [1, 2, 0] rfl ?_
      exact jX9_every_60 G l   _ _ _ _
    · refine J_aload_n dX9_every_40 1 rfl ?_
      refine J_getR fd_9_23 w_491 rfl dX9_every_41 (fun r10 => ?_)
      refine J_aload_n dX9_every_44 1 rfl ?_
      refine J_getI fd_9_25 w_680 rfl dX9_every_45 ?_
      refine J_iconst (v := 1) dX9_every_48 (by decide) ?_
      refine J_isub dX9_every_49 ?_
      refine J_iald dX9_every_50 ?_
      refine J_aload_n dX9_every_51 1 rfl ?_
      refine J_getR fd_9_1 w_470 rfl dX9_every_52 (fun r13 => ?_)
      refine J_iconst (v := 0) dX9_every_55 (by decide) ?_
      refine J_iald dX9_every_56 ?_
      refine J_icmp_eq (tgt := 70) dX9_every_57 (by decide) ?_ ?_
      · refine J_sub [1, 2, 0] rfl ?_
        exact jX9_every_70 G l   _ _ _ _
      · refine J_sub [1, 2, 0] rfl ?_
        exact jX9_every_60 G l   _ _ _ _
  · refine J_iconst (v := -1) dX9_every_10 (by decide) ?_
    exact J_iret dX9_every_11
theorem okX9_every (G : Gx) (l : Launch) (l0 : Nat) (l1 : Int32) (M : Mem) : Con G l yX9_every cX9_every 3 (some .int) 1 22 (fun v : Int32 => some (.int v)) [.ref (adr G l0), .int l1] M (fX9_every l0 l1 M) := con_of (own := RX9) (nm := "every") (by decide +kernel) rfl rfl (Nat.le_of_ble_eq_true rfl) (jX9_every G l l0 l1 M)
theorem mkX9_every : MOk yX9_every cX9_every 3 (some .int) 1 := ⟨w_681, tb1 (List.mem_of_getElem? (i := 10) rfl) rfl, by decide +kernel, by decide +kernel, by decide +kernel⟩
-- X9_account
def fX9_account_74  (s0 : Int64) (M : Mem) : Option (Int64 × Mem) := some (s0, M)
set_option maxHeartbeats 4000000 in
set_option maxRecDepth 100000 in
theorem jX9_account_74 (G : Gx) (l : Launch)   (s0 : Int64) (M : Mem) : J G l cX9_account 3 RX9 (some .long) "account" 1 22 (QM G (fun v : Int64 => some (.long v))) 74 [] [.long s0] M (fX9_account_74  s0 M) := by
  unfold fX9_account_74
  exact J_lret dX9_account_74
def fX9_account (l0 : Nat) (l1 : Int32) (l2 : Int32) (M : Mem) : Option (Int64 × Mem) := (gR M 9 0 l0 fun r1 => (rI M .int r1 (0 : Int32) fun v2 => (bd (fX9_in l1 (0 : Int32) (v2 - (1 : Int32)) M) fun v4 M3 => (if v4 = 0 then some ((-9223372036854775808 : Int64), M3) else (if l2 = 0 then (gR M3 9 6 l0 fun r11 => (rJ M3 r11 l1 fun v12 => fX9_account_74  v12 M3)) else (if l2 = (1 : Int32) then (gR M3 9 7 l0 fun r7 => (rJ M3 r7 l1 fun v8 => (gR M3 9 8 l0 fun r9 => (rJ M3 r9 l1 fun v10 => fX9_account_74  ((yshl v8 (32 : Int32)) ||| v10) M3)))) else (if l2 = (2 : Int32) then (gR M3 9 5 l0 fun r5 => (rJ M3 r5 l1 fun v6 => fX9_account_74  v6 M3)) else fX9_account_74  (-9223372036854775808 : Int64) M3)))))))
set_option maxHeartbeats 4000000 in
set_option maxRecDepth 100000 in
theorem jX9_account (G : Gx) (l : Launch) (l0 : Nat) (l1 : Int32) (l2 : Int32) (M : Mem) : J G l cX9_account 3 RX9 (some .long) "account" 1 22 (QM G (fun v : Int64 => some (.long v))) 0 [(0, .ref (adr G l0)), (1, .int l1), (2, .int l2)] [] M (fX9_account l0 l1 l2 M) := by
  unfold fX9_account
  refine J_iload_n dX9_account_0 1 rfl ?_
  refine J_iconst (v := 0) dX9_account_1 (by decide) ?_
  refine J_aload_n dX9_account_2 0 rfl ?_
  refine J_getR fd_9_0 w_469 rfl dX9_account_3 (fun r1 => ?_)
  refine J_iconst (v := 0) dX9_account_6 (by decide) ?_
  refine J_iald dX9_account_7 ?_
  refine J_iconst (v := 1) dX9_account_8 (by decide) ?_
  refine J_isub dX9_account_9 ?_
  refine J_callSi (okX9_in G l _ _ _ _) mkX9_in w_665 w_664 ⟨by decide, by decide⟩ rfl (Nat.le_of_ble_eq_true rfl) dX9_account_10 (fun v4 M3 => ?_)
  refine J_if_ne (tgt := 20) dX9_account_13 (by decide) ?_ ?_
  · refine J_iload_n dX9_account_20 2 rfl ?_
    refine J_if_ne (tgt := 33) dX9_account_21 (by decide) ?_ ?_
    · refine J_iload_n dX9_account_33 2 rfl ?_
      refine J_iconst (v := 1) dX9_account_34 (by decide) ?_
      refine J_icmp_ne (tgt := 57) dX9_account_35 (by decide) ?_ ?_
      · refine J_iload_n dX9_account_57 2 rfl ?_
        refine J_iconst (v := 2) dX9_account_58 (by decide) ?_
        refine J_icmp_ne (tgt := 71) dX9_account_59 (by decide) ?_ ?_
        · refine J_ldc2 (v := -9223372036854775808) dX9_account_71 w_666 ?_
          refine J_sub [] rfl ?_
          exact jX9_account_74 G l   _ _
        · refine J_aload_n dX9_account_62 0 rfl ?_
          refine J_getR fd_9_5 w_474 rfl dX9_account_63 (fun r5 => ?_)
          refine J_iload_n dX9_account_66 1 rfl ?_
          refine J_lald dX9_account_67 ?_
          refine J_goto (tgt := 74) dX9_account_68 (by decide) ?_
          refine J_sub [] rfl ?_
          exact jX9_account_74 G l   _ _
      · refine J_aload_n dX9_account_38 0 rfl ?_
        refine J_getR fd_9_7 w_476 rfl dX9_account_39 (fun r7 => ?_)
        refine J_iload_n dX9_account_42 1 rfl ?_
        refine J_lald dX9_account_43 ?_
        refine J_bipush (v := 32) dX9_account_44 (by decide) ?_
        refine J_lshlK dX9_account_46 ?_
        refine J_aload_n dX9_account_47 0 rfl ?_
        refine J_getR fd_9_8 w_477 rfl dX9_account_48 (fun r9 => ?_)
        refine J_iload_n dX9_account_51 1 rfl ?_
        refine J_lald dX9_account_52 ?_
        refine J_lor dX9_account_53 ?_
        refine J_goto (tgt := 74) dX9_account_54 (by decide) ?_
        refine J_sub [] rfl ?_
        exact jX9_account_74 G l   _ _
    · refine J_aload_n dX9_account_24 0 rfl ?_
      refine J_getR fd_9_6 w_475 rfl dX9_account_25 (fun r11 => ?_)
      refine J_iload_n dX9_account_28 1 rfl ?_
      refine J_lald dX9_account_29 ?_
      refine J_goto (tgt := 74) dX9_account_30 (by decide) ?_
      refine J_sub [] rfl ?_
      exact jX9_account_74 G l   _ _
  · refine J_ldc2 (v := -9223372036854775808) dX9_account_16 w_666 ?_
    exact J_lret dX9_account_19
theorem okX9_account (G : Gx) (l : Launch) (l0 : Nat) (l1 : Int32) (l2 : Int32) (M : Mem) : Con G l yX9_account cX9_account 3 (some .long) 1 22 (fun v : Int64 => some (.long v)) [.ref (adr G l0), .int l1, .int l2] M (fX9_account l0 l1 l2 M) := con_of (own := RX9) (nm := "account") (by decide +kernel) rfl rfl (Nat.le_of_ble_eq_true rfl) (jX9_account G l l0 l1 l2 M)
theorem mkX9_account : MOk yX9_account cX9_account 3 (some .long) 2 := ⟨w_682, tb1 (List.mem_of_getElem? (i := 10) rfl) rfl, by decide +kernel, by decide +kernel, by decide +kernel⟩
-- X9_entry
def fX9_entry_179  (s0 : Int64) (M : Mem) : Option (Int64 × Mem) := some (s0, M)
set_option maxHeartbeats 4000000 in
set_option maxRecDepth 100000 in
theorem jX9_entry_179 (G : Gx) (l : Launch)   (s0 : Int64) (M : Mem) : J G l cX9_entry 3 RX9 (some .long) "entry" 1 22 (QM G (fun v : Int64 => some (.long v))) 179 [] [.long s0] M (fX9_entry_179  s0 M) := by
  unfold fX9_entry_179
  exact J_lret dX9_entry_179
def fX9_entry (l0 : Nat) (l1 : Int32) (l2 : Int32) (M : Mem) : Option (Int64 × Mem) := (gR M 9 1 l0 fun r1 => (rI M .int r1 (0 : Int32) fun v2 => (bd (fX9_in l1 (0 : Int32) (v2 - (1 : Int32)) M) fun v4 M3 => (if v4 = 0 then some ((-9223372036854775808 : Int64), M3) else (if l2 = 0 then (gR M3 9 9 l0 fun r5 => (rI M3 .int r5 l1 fun v6 => some (v6.toInt64, M3))) else if l2 = 1 then (gR M3 9 22 l0 fun r7 => (rI M3 .int r7 l1 fun v8 => some (v8.toInt64, M3))) else if l2 = 2 then (gR M3 9 21 l0 fun r9 => (rI M3 .int r9 l1 fun v10 => some (v10.toInt64, M3))) else if l2 = 3 then (gR M3 9 10 l0 fun r11 => (rJ M3 r11 l1 fun v12 => some (v12, M3))) else if l2 = 4 then (gR M3 9 11 l0 fun r13 => (rI M3 .int r13 l1 fun v14 => some (v14.toInt64, M3))) else if l2 = 5 then (gR M3 9 17 l0 fun r15 => (rI M3 .int r15 l1 fun v16 => some (v16.toInt64, M3))) else (gR M3 9 11 l0 fun r17 => (rI M3 .int r17 l1 fun v18 => (bd (fX9_in l2 (10 : Int32) ((9 : Int32) + v18) M3) fun v20 M19 => (if v20 = 0 then (gR M19 9 11 l0 fun r21 => (rI M19 .int r21 l1 fun v22 => (bd (fX9_in l2 (30 : Int32) ((29 : Int32) + v22) M19) fun v24 M23 => (if v24 = 0 then fX9_entry_179  (-9223372036854775808 : Int64) M23 else (gR M23 9 13 l0 fun r25 => (rJ M23 r25 ((((8 : Int32) * l1) + l2) - (30 : Int32)) fun v26 => fX9_entry_179  v26 M23)))))) else (gR M19 9 12 l0 fun r27 => (rI M19 .int r27 ((((8 : Int32) * l1) + l2) - (10 : Int32)) fun v28 => some (v28.toInt64, M19))))))))))))
set_option maxHeartbeats 4000000 in
set_option maxRecDepth 100000 in
theorem jX9_entry (G : Gx) (l : Launch) (l0 : Nat) (l1 : Int32) (l2 : Int32) (M : Mem) : J G l cX9_entry 3 RX9 (some .long) "entry" 1 22 (QM G (fun v : Int64 => some (.long v))) 0 [(0, .ref (adr G l0)), (1, .int l1), (2, .int l2)] [] M (fX9_entry l0 l1 l2 M) := by
  unfold fX9_entry
  refine J_iload_n dX9_entry_0 1 rfl ?_
  refine J_iconst (v := 0) dX9_entry_1 (by decide) ?_
  refine J_aload_n dX9_entry_2 0 rfl ?_
  refine J_getR fd_9_1 w_470 rfl dX9_entry_3 (fun r1 => ?_)
  refine J_iconst (v := 0) dX9_entry_6 (by decide) ?_
  refine J_iald dX9_entry_7 ?_
  refine J_iconst (v := 1) dX9_entry_8 (by decide) ?_
  refine J_isub dX9_entry_9 ?_
  refine J_callSi (okX9_in G l _ _ _ _) mkX9_in w_665 w_664 ⟨by decide, by decide⟩ rfl (Nat.le_of_ble_eq_true rfl) dX9_entry_10 (fun v4 M3 => ?_)
  refine J_if_ne (tgt := 20) dX9_entry_13 (by decide) ?_ ?_
  · refine J_iload_n dX9_entry_20 2 rfl ?_
    refine J_ite (fun h21_0 => ?_) (fun h21_0 => ?_)
    · refine J_tabI (off := 39) (tgt := 60) dX9_entry_21 (by rw [h21_0]; decide) (by rw [h21_0]; decide) (by rw [h21_0]; decide) (by decide) ?_
      refine J_aload_n dX9_entry_60 0 rfl ?_
      refine J_getR fd_9_9 w_478 rfl dX9_entry_61 (fun r5 => ?_)
      refine J_iload_n dX9_entry_64 1 rfl ?_
      refine J_iald dX9_entry_65 ?_
      refine J_i2l dX9_entry_66 ?_
      exact J_lret dX9_entry_67
    refine J_ite (fun h21_1 => ?_) (fun h21_1 => ?_)
    · refine J_tabI (off := 47) (tgt := 68) dX9_entry_21 (by rw [h21_1]; decide) (by rw [h21_1]; decide) (by rw [h21_1]; decide) (by decide) ?_
      refine J_aload_n dX9_entry_68 0 rfl ?_
      refine J_getR fd_9_22 w_490 rfl dX9_entry_69 (fun r7 => ?_)
      refine J_iload_n dX9_entry_72 1 rfl ?_
      refine J_iald dX9_entry_73 ?_
      refine J_i2l dX9_entry_74 ?_
      exact J_lret dX9_entry_75
    refine J_ite (fun h21_2 => ?_) (fun h21_2 => ?_)
    · refine J_tabI (off := 55) (tgt := 76) dX9_entry_21 (by rw [h21_2]; decide) (by rw [h21_2]; decide) (by rw [h21_2]; decide) (by decide) ?_
      refine J_aload_n dX9_entry_76 0 rfl ?_
      refine J_getR fd_9_21 w_489 rfl dX9_entry_77 (fun r9 => ?_)
      refine J_iload_n dX9_entry_80 1 rfl ?_
      refine J_iald dX9_entry_81 ?_
      refine J_i2l dX9_entry_82 ?_
      exact J_lret dX9_entry_83
    refine J_ite (fun h21_3 => ?_) (fun h21_3 => ?_)
    · refine J_tabI (off := 63) (tgt := 84) dX9_entry_21 (by rw [h21_3]; decide) (by rw [h21_3]; decide) (by rw [h21_3]; decide) (by decide) ?_
      refine J_aload_n dX9_entry_84 0 rfl ?_
      refine J_getR fd_9_10 w_479 rfl dX9_entry_85 (fun r11 => ?_)
      refine J_iload_n dX9_entry_88 1 rfl ?_
      refine J_lald dX9_entry_89 ?_
      exact J_lret dX9_entry_90
    refine J_ite (fun h21_4 => ?_) (fun h21_4 => ?_)
    · refine J_tabI (off := 70) (tgt := 91) dX9_entry_21 (by rw [h21_4]; decide) (by rw [h21_4]; decide) (by rw [h21_4]; decide) (by decide) ?_
      refine J_aload_n dX9_entry_91 0 rfl ?_
      refine J_getR fd_9_11 w_480 rfl dX9_entry_92 (fun r13 => ?_)
      refine J_iload_n dX9_entry_95 1 rfl ?_
      refine J_iald dX9_entry_96 ?_
      refine J_i2l dX9_entry_97 ?_
      exact J_lret dX9_entry_98
    refine J_ite (fun h21_5 => ?_) (fun h21_5 => ?_)
    · refine J_tabI (off := 78) (tgt := 99) dX9_entry_21 (by rw [h21_5]; decide) (by rw [h21_5]; decide) (by rw [h21_5]; decide) (by decide) ?_
      refine J_aload_n dX9_entry_99 0 rfl ?_
      refine J_getR fd_9_17 w_486 rfl dX9_entry_100 (fun r15 => ?_)
      refine J_iload_n dX9_entry_103 1 rfl ?_
      refine J_iald dX9_entry_104 ?_
      refine J_i2l dX9_entry_105 ?_
      exact J_lret dX9_entry_106
    refine J_tabO (tgt := 107) dX9_entry_21 (by have h21_0 := lv_neT h21_0 (show (0 : Int32).toInt = 0 by decide); have h21_1 := lv_neT h21_1 (show (1 : Int32).toInt = 1 by decide); have h21_2 := lv_neT h21_2 (show (2 : Int32).toInt = 2 by decide); have h21_3 := lv_neT h21_3 (show (3 : Int32).toInt = 3 by decide); have h21_4 := lv_neT h21_4 (show (4 : Int32).toInt = 4 by decide); have h21_5 := lv_neT h21_5 (show (5 : Int32).toInt = 5 by decide); omega) (by decide) ?_
    refine J_iload_n dX9_entry_107 2 rfl ?_
    refine J_bipush (v := 10) dX9_entry_108 (by decide) ?_
    refine J_bipush (v := 9) dX9_entry_110 (by decide) ?_
    refine J_aload_n dX9_entry_112 0 rfl ?_
    refine J_getR fd_9_11 w_480 rfl dX9_entry_113 (fun r17 => ?_)
    refine J_iload_n dX9_entry_116 1 rfl ?_
    refine J_iald dX9_entry_117 ?_
    refine J_iadd dX9_entry_118 ?_
    refine J_callSi (okX9_in G l _ _ _ _) mkX9_in w_665 w_664 ⟨by decide, by decide⟩ rfl (Nat.le_of_ble_eq_true rfl) dX9_entry_119 (fun v20 M19 => ?_)
    refine J_if_eq (tgt := 141) dX9_entry_122 (by decide) ?_ ?_
    · refine J_iload_n dX9_entry_141 2 rfl ?_
      refine J_bipush (v := 30) dX9_entry_142 (by decide) ?_
      refine J_bipush (v := 29) dX9_entry_144 (by decide) ?_
      refine J_aload_n dX9_entry_146 0 rfl ?_
      refine J_getR fd_9_11 w_480 rfl dX9_entry_147 (fun r21 => ?_)
      refine J_iload_n dX9_entry_150 1 rfl ?_
      refine J_iald dX9_entry_151 ?_
      refine J_iadd dX9_entry_152 ?_
      refine J_callSi (okX9_in G l _ _ _ _) mkX9_in w_665 w_664 ⟨by decide, by decide⟩ rfl (Nat.le_of_ble_eq_true rfl) dX9_entry_153 (fun v24 M23 => ?_)
      refine J_if_eq (tgt := 176) dX9_entry_156 (by decide) ?_ ?_
      · refine J_ldc2 (v := -9223372036854775808) dX9_entry_176 w_666 ?_
        refine J_sub [] rfl ?_
        exact jX9_entry_179 G l   _ _
      · refine J_aload_n dX9_entry_159 0 rfl ?_
        refine J_getR fd_9_13 w_482 rfl dX9_entry_160 (fun r25 => ?_)
        refine J_bipush (v := 8) dX9_entry_163 (by decide) ?_
        refine J_iload_n dX9_entry_165 1 rfl ?_
        refine J_imul dX9_entry_166 ?_
        refine J_iload_n dX9_entry_167 2 rfl ?_
        refine J_iadd dX9_entry_168 ?_
        refine J_bipush (v := 30) dX9_entry_169 (by decide) ?_
        refine J_isub dX9_entry_171 ?_
        refine J_lald dX9_entry_172 ?_
        refine J_goto (tgt := 179) dX9_entry_173 (by decide) ?_
        refine J_sub [] rfl ?_
        exact jX9_entry_179 G l   _ _
    · refine J_aload_n dX9_entry_125 0 rfl ?_
      refine J_getR fd_9_12 w_481 rfl dX9_entry_126 (fun r27 => ?_)
      refine J_bipush (v := 8) dX9_entry_129 (by decide) ?_
      refine J_iload_n dX9_entry_131 1 rfl ?_
      refine J_imul dX9_entry_132 ?_
      refine J_iload_n dX9_entry_133 2 rfl ?_
      refine J_iadd dX9_entry_134 ?_
      refine J_bipush (v := 10) dX9_entry_135 (by decide) ?_
      refine J_isub dX9_entry_137 ?_
      refine J_iald dX9_entry_138 ?_
      refine J_i2l dX9_entry_139 ?_
      exact J_lret dX9_entry_140
  · refine J_ldc2 (v := -9223372036854775808) dX9_entry_16 w_666 ?_
    exact J_lret dX9_entry_19
theorem okX9_entry (G : Gx) (l : Launch) (l0 : Nat) (l1 : Int32) (l2 : Int32) (M : Mem) : Con G l yX9_entry cX9_entry 3 (some .long) 1 22 (fun v : Int64 => some (.long v)) [.ref (adr G l0), .int l1, .int l2] M (fX9_entry l0 l1 l2 M) := con_of (own := RX9) (nm := "entry") (by decide +kernel) rfl rfl (Nat.le_of_ble_eq_true rfl) (jX9_entry G l l0 l1 l2 M)
theorem mkX9_entry : MOk yX9_entry cX9_entry 3 (some .long) 2 := ⟨w_683, tb1 (List.mem_of_getElem? (i := 10) rfl) rfl, by decide +kernel, by decide +kernel, by decide +kernel⟩
-- X9_data
def fX9_data_24  (s0 : Int32) (M : Mem) : Option (Int32 × Mem) := some (s0, M)
set_option maxHeartbeats 4000000 in
set_option maxRecDepth 100000 in
theorem jX9_data_24 (G : Gx) (l : Launch)   (s0 : Int32) (M : Mem) : J G l cX9_data 2 RX9 (some .int) "data" 1 22 (QM G (fun v : Int32 => some (.int v))) 24 [] [.int s0] M (fX9_data_24  s0 M) := by
  unfold fX9_data_24
  exact J_iret dX9_data_24
def fX9_data (l0 : Nat) (l1 : Int32) (M : Mem) : Option (Int32 × Mem) := (gI M 9 20 l0 fun v1 => (bd (fX9_in l1 (0 : Int32) (v1 - (1 : Int32)) M) fun v3 M2 => (if v3 = 0 then fX9_data_24  (-1 : Int32) M2 else (gR M2 9 18 l0 fun r4 => (rI M2 .int r4 l1 fun v5 => fX9_data_24  v5 M2)))))
set_option maxHeartbeats 4000000 in
set_option maxRecDepth 100000 in
theorem jX9_data (G : Gx) (l : Launch) (l0 : Nat) (l1 : Int32) (M : Mem) : J G l cX9_data 2 RX9 (some .int) "data" 1 22 (QM G (fun v : Int32 => some (.int v))) 0 [(0, .ref (adr G l0)), (1, .int l1)] [] M (fX9_data l0 l1 M) := by
  unfold fX9_data
  refine J_iload_n dX9_data_0 1 rfl ?_
  refine J_iconst (v := 0) dX9_data_1 (by decide) ?_
  refine J_aload_n dX9_data_2 0 rfl ?_
  refine J_getI fd_9_20 w_640 rfl dX9_data_3 ?_
  refine J_iconst (v := 1) dX9_data_6 (by decide) ?_
  refine J_isub dX9_data_7 ?_
  refine J_callSi (okX9_in G l _ _ _ _) mkX9_in w_665 w_664 ⟨by decide, by decide⟩ rfl (Nat.le_of_ble_eq_true rfl) dX9_data_8 (fun v3 M2 => ?_)
  refine J_if_eq (tgt := 23) dX9_data_11 (by decide) ?_ ?_
  · refine J_iconst (v := -1) dX9_data_23 (by decide) ?_
    refine J_sub [] rfl ?_
    exact jX9_data_24 G l   _ _
  · refine J_aload_n dX9_data_14 0 rfl ?_
    refine J_getR fd_9_18 w_487 rfl dX9_data_15 (fun r4 => ?_)
    refine J_iload_n dX9_data_18 1 rfl ?_
    refine J_iald dX9_data_19 ?_
    refine J_goto (tgt := 24) dX9_data_20 (by decide) ?_
    refine J_sub [] rfl ?_
    exact jX9_data_24 G l   _ _
theorem okX9_data (G : Gx) (l : Launch) (l0 : Nat) (l1 : Int32) (M : Mem) : Con G l yX9_data cX9_data 2 (some .int) 1 22 (fun v : Int32 => some (.int v)) [.ref (adr G l0), .int l1] M (fX9_data l0 l1 M) := con_of (own := RX9) (nm := "data") (by decide +kernel) rfl rfl (Nat.le_of_ble_eq_true rfl) (jX9_data G l l0 l1 M)
theorem mkX9_data : MOk yX9_data cX9_data 2 (some .int) 1 := ⟨w_684, tb1 (List.mem_of_getElem? (i := 10) rfl) rfl, by decide +kernel, by decide +kernel, by decide +kernel⟩
-- X9_alter
def fX9_alter_25   (M : Mem) : Option (Int32 × Mem) := some ((-1 : Int32), M)
set_option maxHeartbeats 4000000 in
set_option maxRecDepth 100000 in
theorem jX9_alter_25 (G : Gx) (l : Launch)    (M : Mem) : J G l cX9_alter 3 RX9 (some .int) "alter" 1 22 (QM G (fun v : Int32 => some (.int v))) 25 [] [] M (fX9_alter_25   M) := by
  unfold fX9_alter_25
  refine J_iconst (v := -1) dX9_alter_25 (by decide) ?_
  exact J_iret dX9_alter_26
def fX9_alter (l0 : Nat) (l1 : Int32) (l2 : Int32) (M : Mem) : Option (Int32 × Mem) := (gI M 9 20 l0 fun v1 => (bd (fX9_in l1 (0 : Int32) (v1 - (1 : Int32)) M) fun v3 M2 => (if v3 = 0 then fX9_alter_25   M2 else (bd (fX9_in l2 (1 : Int32) (255 : Int32) M2) fun v5 M4 => (if v5 = 0 then fX9_alter_25   M4 else (gR M4 9 18 l0 fun r6 => (rI M4 .int r6 l1 fun v7 => (wI M4 .int r6 l1 (v7 ^^^ l2) fun M8 => (gR M8 9 18 l0 fun r9 => (rI M8 .int r9 l1 fun v10 => some (v10, M8)))))))))))
set_option maxHeartbeats 4000000 in
set_option maxRecDepth 100000 in
theorem jX9_alter (G : Gx) (l : Launch) (l0 : Nat) (l1 : Int32) (l2 : Int32) (M : Mem) : J G l cX9_alter 3 RX9 (some .int) "alter" 1 22 (QM G (fun v : Int32 => some (.int v))) 0 [(0, .ref (adr G l0)), (1, .int l1), (2, .int l2)] [] M (fX9_alter l0 l1 l2 M) := by
  unfold fX9_alter
  refine J_iload_n dX9_alter_0 1 rfl ?_
  refine J_iconst (v := 0) dX9_alter_1 (by decide) ?_
  refine J_aload_n dX9_alter_2 0 rfl ?_
  refine J_getI fd_9_20 w_640 rfl dX9_alter_3 ?_
  refine J_iconst (v := 1) dX9_alter_6 (by decide) ?_
  refine J_isub dX9_alter_7 ?_
  refine J_callSi (okX9_in G l _ _ _ _) mkX9_in w_665 w_664 ⟨by decide, by decide⟩ rfl (Nat.le_of_ble_eq_true rfl) dX9_alter_8 (fun v3 M2 => ?_)
  refine J_if_eq (tgt := 25) dX9_alter_11 (by decide) ?_ ?_
  · refine J_sub [] rfl ?_
    exact jX9_alter_25 G l    _
  · refine J_iload_n dX9_alter_14 2 rfl ?_
    refine J_iconst (v := 1) dX9_alter_15 (by decide) ?_
    refine J_sipush (v := 255) dX9_alter_16 (by decide) ?_
    refine J_callSi (okX9_in G l _ _ _ _) mkX9_in w_665 w_664 ⟨by decide, by decide⟩ rfl (Nat.le_of_ble_eq_true rfl) dX9_alter_19 (fun v5 M4 => ?_)
    refine J_if_ne (tgt := 27) dX9_alter_22 (by decide) ?_ ?_
    · refine J_aload_n dX9_alter_27 0 rfl ?_
      refine J_getR fd_9_18 w_487 rfl dX9_alter_28 (fun r6 => ?_)
      refine J_iload_n dX9_alter_31 1 rfl ?_
      refine J_dup2 dX9_alter_32 rfl rfl ?_
      refine J_iald dX9_alter_33 ?_
      refine J_iload_n dX9_alter_34 2 rfl ?_
      refine J_ixor dX9_alter_35 ?_
      refine J_iast dX9_alter_36 ?_
      refine J_aload_n dX9_alter_37 0 rfl ?_
      refine J_getR fd_9_18 w_487 rfl dX9_alter_38 (fun r9 => ?_)
      refine J_iload_n dX9_alter_41 1 rfl ?_
      refine J_iald dX9_alter_42 ?_
      exact J_iret dX9_alter_43
    · refine J_sub [] rfl ?_
      exact jX9_alter_25 G l    _
theorem okX9_alter (G : Gx) (l : Launch) (l0 : Nat) (l1 : Int32) (l2 : Int32) (M : Mem) : Con G l yX9_alter cX9_alter 3 (some .int) 1 22 (fun v : Int32 => some (.int v)) [.ref (adr G l0), .int l1, .int l2] M (fX9_alter l0 l1 l2 M) := con_of (own := RX9) (nm := "alter") (by decide +kernel) rfl rfl (Nat.le_of_ble_eq_true rfl) (jX9_alter G l l0 l1 l2 M)
theorem mkX9_alter : MOk yX9_alter cX9_alter 3 (some .int) 2 := ⟨w_685, tb1 (List.mem_of_getElem? (i := 10) rfl) rfl, by decide +kernel, by decide +kernel, by decide +kernel⟩
-- X9_turn
def fX9_turn (l0 : Int32) (l1 : Int32) (M : Mem) : Option (Int32 × Mem) := some (((xushr l0 l1) ||| (xshl l0 ((32 : Int32) - l1))), M)
set_option maxHeartbeats 4000000 in
set_option maxRecDepth 100000 in
theorem jX9_turn (G : Gx) (l : Launch) (l0 : Int32) (l1 : Int32) (M : Mem) : J G l cX9_turn 2 RX9 (some .int) "turn" 0 0 (QM G (fun v : Int32 => some (.int v))) 0 [(0, .int l0), (1, .int l1)] [] M (fX9_turn l0 l1 M) := by
  unfold fX9_turn
  refine J_iload_n dX9_turn_0 0 rfl ?_
  refine J_iload_n dX9_turn_1 1 rfl ?_
  refine J_iushrK dX9_turn_2 ?_
  refine J_iload_n dX9_turn_3 0 rfl ?_
  refine J_bipush (v := 32) dX9_turn_4 (by decide) ?_
  refine J_iload_n dX9_turn_6 1 rfl ?_
  refine J_isub dX9_turn_7 ?_
  refine J_ishlK dX9_turn_8 ?_
  refine J_ior dX9_turn_9 ?_
  exact J_iret dX9_turn_10
theorem okX9_turn (G : Gx) (l : Launch) (l0 : Int32) (l1 : Int32) (M : Mem) : Con G l yX9_turn cX9_turn 2 (some .int) 0 0 (fun v : Int32 => some (.int v)) [.int l0, .int l1] M (fX9_turn l0 l1 M) := con_of (own := RX9) (nm := "turn") (by decide +kernel) rfl rfl (Nat.le_of_ble_eq_true rfl) (jX9_turn G l l0 l1 M)
theorem mkX9_turn : MOk yX9_turn cX9_turn 2 (some .int) 2 := ⟨w_686, tb1 (List.mem_of_getElem? (i := 10) rfl) rfl, by decide +kernel, by decide +kernel, by decide +kernel⟩
-- X9_says
def fX9_says (l0 : Nat) (l1 : Int32) (M : Mem) : Option (Unit × Mem) := (gR M 9 41 l0 fun r1 => (gI M 9 42 l0 fun v2 => (wI M .int r1 v2 l1 fun M3 => (gI M3 9 42 l0 fun v4 => (pI M3 9 42 l0 (v4 + (1 : Int32)) fun M5 => some ((), M5))))))
set_option maxHeartbeats 4000000 in
set_option maxRecDepth 100000 in
theorem jX9_says (G : Gx) (l : Launch) (l0 : Nat) (l1 : Int32) (M : Mem) : J G l cX9_says 2 RX9 none "says" 0 0 (QM G (fun _ : Unit => none)) 0 [(0, .ref (adr G l0)), (1, .int l1)] [] M (fX9_says l0 l1 M) := by
  unfold fX9_says
  refine J_aload_n dX9_says_0 0 rfl ?_
  refine J_getR fd_9_41 w_564 rfl dX9_says_1 (fun r1 => ?_)
  refine J_aload_n dX9_says_4 0 rfl ?_
  refine J_getI fd_9_42 w_687 rfl dX9_says_5 ?_
  refine J_iload_n dX9_says_8 1 rfl ?_
  refine J_iast dX9_says_9 ?_
  refine J_aload_n dX9_says_10 0 rfl ?_
  refine J_dup dX9_says_11 rfl ?_
  refine J_getI fd_9_42 w_687 rfl dX9_says_12 ?_
  refine J_iconst (v := 1) dX9_says_15 (by decide) ?_
  refine J_iadd dX9_says_16 ?_
  refine J_putI fd_9_42 w_687 dX9_says_17 ?_
  exact J_vret dX9_says_20
theorem okX9_says (G : Gx) (l : Launch) (l0 : Nat) (l1 : Int32) (M : Mem) : Con G l yX9_says cX9_says 2 none 0 0 (fun _ : Unit => none) [.ref (adr G l0), .int l1] M (fX9_says l0 l1 M) := con_of (own := RX9) (nm := "says") (by decide +kernel) rfl rfl (Nat.le_of_ble_eq_true rfl) (jX9_says G l l0 l1 M)
theorem mkX9_says : MOk yX9_says cX9_says 2 none 1 := ⟨w_688, tb1 (List.mem_of_getElem? (i := 10) rfl) rfl, by decide +kernel, by decide +kernel, by decide +kernel⟩
