-- X9_isUnknown
def fX9_isUnknown_231  : Nat → Nat → Int32 → Int32 → Mem → Option (Int32 × Mem)
  | 0, _, _, _, _ => none
  | n + 1, l0, l3, l4, M => (gR M 9 11 l0 fun r1 => (rI M .int r1 l3 fun v2 => (if v2 ≤ l4 then retZ (0 : Int32) (some ((0 : Int32), M)) else (gR M 9 12 l0 fun r3 => (rI M .int r3 (((8 : Int32) * l3) + l4) fun v4 => (gR M 9 13 l0 fun r5 => (rJ M r5 (((8 : Int32) * l3) + l4) fun v6 => (cV M 9 l0 (fX9_leg l0 v4 (0 - v6) l4 M) fun _u8 M7 => fX9_isUnknown_231  n l0 l3 (l4 + (1 : Int32)) M7))))))))
set_option maxHeartbeats 4000000 in
set_option maxRecDepth 100000 in
theorem jX9_isUnknown_231 (G : Gx) (l : Launch)   : ∀ (n : Nat) (l0 : Nat) (l3 : Int32) (l4 : Int32) (M : Mem), J G l cX9_isUnknown 5 RX9 (some .boolean) "isUnknown" 1 24 (QM G (fun v : Int32 => some (.int v))) 231 [(0, .ref (adr G l0)), (3, .int l3), (4, .int l4)] [] M (fX9_isUnknown_231  n l0 l3 l4 M) := by
  intro n
  induction n with
  | zero => intro l0 l3 l4 M; exact J_none
  | succ n ih =>
    intro l0 l3 l4 M
    rw [fX9_isUnknown_231]
    refine J_iload dX9_isUnknown_231 2 rfl ?_
    refine J_aload_n dX9_isUnknown_233 0 rfl ?_
    refine J_getR fd_9_11 w_480 rfl dX9_isUnknown_234 (fun r1 => ?_)
    refine J_iload_n dX9_isUnknown_237 1 rfl ?_
    refine J_iald dX9_isUnknown_238 ?_
    refine J_icmp_ge (tgt := 279) dX9_isUnknown_239 (by decide) ?_ ?_
    · refine J_iconst (v := 0) dX9_isUnknown_279 (by decide) ?_
      exact J_zret dX9_isUnknown_280
    · refine J_aload_n dX9_isUnknown_242 0 rfl ?_
      refine J_aload_n dX9_isUnknown_243 0 rfl ?_
      refine J_getR fd_9_12 w_481 rfl dX9_isUnknown_244 (fun r3 => ?_)
      refine J_bipush (v := 8) dX9_isUnknown_247 (by decide) ?_
      refine J_iload_n dX9_isUnknown_249 1 rfl ?_
      refine J_imul dX9_isUnknown_250 ?_
      refine J_iload dX9_isUnknown_251 2 rfl ?_
      refine J_iadd dX9_isUnknown_253 ?_
      refine J_iald dX9_isUnknown_254 ?_
      refine J_aload_n dX9_isUnknown_255 0 rfl ?_
      refine J_getR fd_9_13 w_482 rfl dX9_isUnknown_256 (fun r5 => ?_)
      refine J_bipush (v := 8) dX9_isUnknown_259 (by decide) ?_
      refine J_iload_n dX9_isUnknown_261 1 rfl ?_
      refine J_imul dX9_isUnknown_262 ?_
      refine J_iload dX9_isUnknown_263 2 rfl ?_
      refine J_iadd dX9_isUnknown_265 ?_
      refine J_lald dX9_isUnknown_266 ?_
      refine J_lneg dX9_isUnknown_267 ?_
      refine J_iload dX9_isUnknown_268 2 rfl ?_
      refine J_callVv (okX9_leg G l _ _ _ _ _) mkX9_leg _ _ rfl w_604 w_605 w_606 ⟨by decide, by decide⟩ rfl (Nat.le_of_ble_eq_true rfl) dX9_isUnknown_270 (fun _u8 M7 => ?_)
      refine J_iincK (z := 1) (lv' := [(4, .int _), (0, .ref _), (3, .int _)]) dX9_isUnknown_273 2 rfl (by decide) (by decide) rfl ?_
      refine J_goto (tgt := 231) dX9_isUnknown_276 (by decide) ?_
      refine J_sub [1, 2, 0] rfl ?_
      exact ih _ _ _ _
def fX9_isUnknown_226   (M : Mem) : Option (Int32 × Mem) := retZ (1 : Int32) (some ((1 : Int32), M))
set_option maxHeartbeats 4000000 in
set_option maxRecDepth 100000 in
theorem jX9_isUnknown_226 (G : Gx) (l : Launch)    (M : Mem) : J G l cX9_isUnknown 5 RX9 (some .boolean) "isUnknown" 1 24 (QM G (fun v : Int32 => some (.int v))) 226 [] [] M (fX9_isUnknown_226   M) := by
  unfold fX9_isUnknown_226
  refine J_iconst (v := 1) dX9_isUnknown_226 (by decide) ?_
  exact J_zret dX9_isUnknown_227
def fX9_isUnknown_171   (M : Mem) : Option (Int32 × Mem) := retZ (1 : Int32) (some ((1 : Int32), M))
set_option maxHeartbeats 4000000 in
set_option maxRecDepth 100000 in
theorem jX9_isUnknown_171 (G : Gx) (l : Launch)    (M : Mem) : J G l cX9_isUnknown 5 RX9 (some .boolean) "isUnknown" 1 24 (QM G (fun v : Int32 => some (.int v))) 171 [] [] M (fX9_isUnknown_171   M) := by
  unfold fX9_isUnknown_171
  refine J_iconst (v := 1) dX9_isUnknown_171 (by decide) ?_
  exact J_zret dX9_isUnknown_172
def fX9_isUnknown_132  (s0 : Int32) (M : Mem) : Option (Int32 × Mem) := retZ s0 (some (s0, M))
set_option maxHeartbeats 4000000 in
set_option maxRecDepth 100000 in
theorem jX9_isUnknown_132 (G : Gx) (l : Launch)   (s0 : Int32) (M : Mem) : J G l cX9_isUnknown 5 RX9 (some .boolean) "isUnknown" 1 24 (QM G (fun v : Int32 => some (.int v))) 132 [] [.int s0] M (fX9_isUnknown_132  s0 M) := by
  unfold fX9_isUnknown_132
  exact J_zret dX9_isUnknown_132
def fX9_isUnknown_114  (s0 : Int32) (M : Mem) : Option (Int32 × Mem) := retZ s0 (some (s0, M))
set_option maxHeartbeats 4000000 in
set_option maxRecDepth 100000 in
theorem jX9_isUnknown_114 (G : Gx) (l : Launch)   (s0 : Int32) (M : Mem) : J G l cX9_isUnknown 5 RX9 (some .boolean) "isUnknown" 1 24 (QM G (fun v : Int32 => some (.int v))) 114 [] [.int s0] M (fX9_isUnknown_114  s0 M) := by
  unfold fX9_isUnknown_114
  exact J_zret dX9_isUnknown_114
def fX9_isUnknown_88 (k55 : Nat → Int32 → Int32 → Int32 → Mem → Option (Int32 × Mem)) (l0 : Nat) (l1 : Int32) (l4 : Int32) (s0 : Int32) (M : Mem) : Option (Int32 × Mem) := k55 l0 l1 s0 (l4 + (1 : Int32)) M
set_option maxHeartbeats 4000000 in
set_option maxRecDepth 100000 in
theorem jX9_isUnknown_88 (G : Gx) (l : Launch) (k55 : Nat → Int32 → Int32 → Int32 → Mem → Option (Int32 × Mem)) (h55 : ∀ (l0 : Nat) (l1 : Int32) (l2 : Int32) (l4 : Int32) (M : Mem), J G l cX9_isUnknown 5 RX9 (some .boolean) "isUnknown" 1 24 (QM G (fun v : Int32 => some (.int v))) 55 [(0, .ref (adr G l0)), (1, .int l1), (2, .int l2), (4, .int l4)] [] M (k55 l0 l1 l2 l4 M)) (l0 : Nat) (l1 : Int32) (l4 : Int32) (s0 : Int32) (M : Mem) : J G l cX9_isUnknown 5 RX9 (some .boolean) "isUnknown" 1 24 (QM G (fun v : Int32 => some (.int v))) 88 [(0, .ref (adr G l0)), (1, .int l1), (4, .int l4)] [.int s0] M (fX9_isUnknown_88 k55 l0 l1 l4 s0 M) := by
  unfold fX9_isUnknown_88
  refine J_istore_n (lv' := [(2, .int _), (0, .ref _), (1, .int _), (4, .int _)]) dX9_isUnknown_88 (by decide) rfl ?_
  refine J_iincK (z := 1) (lv' := [(4, .int _), (2, .int _), (0, .ref _), (1, .int _)]) dX9_isUnknown_89 3 rfl (by decide) (by decide) rfl ?_
  refine J_goto (tgt := 55) dX9_isUnknown_92 (by decide) ?_
  refine J_sub [2, 3, 1, 0] rfl ?_
  exact h55 _ _ _ _ _
def fX9_isUnknown_83 (k55 : Nat → Int32 → Int32 → Int32 → Mem → Option (Int32 × Mem)) (l0 : Nat) (l1 : Int32) (l4 : Int32) (M : Mem) : Option (Int32 × Mem) := fX9_isUnknown_88 k55 l0 l1 l4 (1 : Int32) M
set_option maxHeartbeats 4000000 in
set_option maxRecDepth 100000 in
theorem jX9_isUnknown_83 (G : Gx) (l : Launch) (k55 : Nat → Int32 → Int32 → Int32 → Mem → Option (Int32 × Mem)) (h55 : ∀ (l0 : Nat) (l1 : Int32) (l2 : Int32) (l4 : Int32) (M : Mem), J G l cX9_isUnknown 5 RX9 (some .boolean) "isUnknown" 1 24 (QM G (fun v : Int32 => some (.int v))) 55 [(0, .ref (adr G l0)), (1, .int l1), (2, .int l2), (4, .int l4)] [] M (k55 l0 l1 l2 l4 M)) (l0 : Nat) (l1 : Int32) (l4 : Int32) (M : Mem) : J G l cX9_isUnknown 5 RX9 (some .boolean) "isUnknown" 1 24 (QM G (fun v : Int32 => some (.int v))) 83 [(0, .ref (adr G l0)), (1, .int l1), (4, .int l4)] [] M (fX9_isUnknown_83 k55 l0 l1 l4 M) := by
  unfold fX9_isUnknown_83
  refine J_iconst (v := 1) dX9_isUnknown_83 (by decide) ?_
  refine J_goto (tgt := 88) dX9_isUnknown_84 (by decide) ?_
  refine J_sub [0, 1, 2] rfl ?_
  exact jX9_isUnknown_88 G l _ h55 _ _ _ _ _
def fX9_isUnknown_55  : Nat → Nat → Int32 → Int32 → Int32 → Mem → Option (Int32 × Mem)
  | 0, _, _, _, _, _ => none
  | n + 1, l0, l1, l2, l4, M => (gI M 9 27 l0 fun v1 => (if v1 ≤ l4 then retZ l2 (some (l2, M)) else (if l2 = 0 then (gR M 9 32 l0 fun r2 => (rI M .int r2 l4 fun v3 => (cV M 9 l0 (fX9_isAccount l0 l1 v3 M) fun v5 M4 => (if v5 = 0 then fX9_isUnknown_83 (fX9_isUnknown_55  n) l0 l1 l4 M4 else fX9_isUnknown_88 (fX9_isUnknown_55  n) l0 l1 l4 (0 : Int32) M4)))) else fX9_isUnknown_83 (fX9_isUnknown_55  n) l0 l1 l4 M)))
set_option maxHeartbeats 4000000 in
set_option maxRecDepth 100000 in
theorem jX9_isUnknown_55 (G : Gx) (l : Launch)   : ∀ (n : Nat) (l0 : Nat) (l1 : Int32) (l2 : Int32) (l4 : Int32) (M : Mem), J G l cX9_isUnknown 5 RX9 (some .boolean) "isUnknown" 1 24 (QM G (fun v : Int32 => some (.int v))) 55 [(0, .ref (adr G l0)), (1, .int l1), (2, .int l2), (4, .int l4)] [] M (fX9_isUnknown_55  n l0 l1 l2 l4 M) := by
  intro n
  induction n with
  | zero => intro l0 l1 l2 l4 M; exact J_none
  | succ n ih =>
    intro l0 l1 l2 l4 M
    rw [fX9_isUnknown_55]
    refine J_iload dX9_isUnknown_55 3 rfl ?_
    refine J_aload_n dX9_isUnknown_57 0 rfl ?_
    refine J_getI fd_9_27 w_583 rfl dX9_isUnknown_58 ?_
    refine J_icmp_ge (tgt := 95) dX9_isUnknown_61 (by decide) ?_ ?_
    · refine J_iload_n dX9_isUnknown_95 2 rfl ?_
      exact J_zret dX9_isUnknown_96
    · refine J_iload_n dX9_isUnknown_64 2 rfl ?_
      refine J_if_ne (tgt := 83) dX9_isUnknown_65 (by decide) ?_ ?_
      · refine J_sub [0, 1, 3] rfl ?_
        exact jX9_isUnknown_83 G l _ ih _ _ _ _
      · refine J_aload_n dX9_isUnknown_68 0 rfl ?_
        refine J_iload_n dX9_isUnknown_69 1 rfl ?_
        refine J_aload_n dX9_isUnknown_70 0 rfl ?_
        refine J_getR fd_9_32 w_493 rfl dX9_isUnknown_71 (fun r2 => ?_)
        refine J_iload dX9_isUnknown_74 3 rfl ?_
        refine J_iald dX9_isUnknown_76 ?_
        refine J_callVi (okX9_isAccount G l _ _ _ _) mkX9_isAccount _ _ rfl w_607 w_608 w_609 ⟨by decide, by decide⟩ rfl (Nat.le_of_ble_eq_true rfl) dX9_isUnknown_77 (fun v5 M4 => ?_)
        refine J_if_ne (tgt := 87) dX9_isUnknown_80 (by decide) ?_ ?_
        · refine J_iconst (v := 0) dX9_isUnknown_87 (by decide) ?_
          refine J_sub [0, 1, 3] rfl ?_
          exact jX9_isUnknown_88 G l _ ih _ _ _ _ _
        · refine J_sub [0, 1, 3] rfl ?_
          exact jX9_isUnknown_83 G l _ ih _ _ _ _
def fX9_isUnknown (l0 : Nat) (l1 : Int32) (M : Mem) : Option (Int32 × Mem) := (gI M 9 28 l0 fun v1 => (gI M 9 26 l0 fun v2 => (if v2 = 2 then fX9_isUnknown_55  FU l0 l1 (0 : Int32) (0 : Int32) M else if v2 = 3 then (gI M 9 29 l0 fun v3 => (cV M 9 l0 (fX9_isAccount l0 l1 v3 M) fun v5 M4 => (if v5 = 0 then fX9_isUnknown_114  (1 : Int32) M4 else fX9_isUnknown_114  (0 : Int32) M4))) else if v2 = 4 then (gI M 9 28 l0 fun v6 => (cV M 9 l0 (fX9_isHold l0 l1 v6 M) fun v8 M7 => (if v8 = 0 then fX9_isUnknown_132  (1 : Int32) M7 else fX9_isUnknown_132  (0 : Int32) M7))) else if v2 = 5 then (gI M 9 28 l0 fun v9 => (cV M 9 l0 (fX9_isHold l0 l1 v9 M) fun v11 M10 => (if v11 = 0 then fX9_isUnknown_171   M10 else (gI M10 9 29 l0 fun v12 => (cV M10 9 l0 (fX9_isAccount l0 l1 v12 M10) fun v14 M13 => (if v14 = 0 then fX9_isUnknown_171   M13 else (gJ M13 9 31 l0 fun v15 => (gR M13 9 15 l0 fun r16 => (rJ M13 r16 (((200 : Int32) * l1) + v1) fun v17 => (if v15 ≤ v17 then (gR M13 9 14 l0 fun r18 => (rI M13 .int r18 (((200 : Int32) * l1) + v1) fun v19 => (gJ M13 9 31 l0 fun v20 => (cV M13 9 l0 (fX9_leg l0 v19 (0 - v20) (0 : Int32) M13) fun _u22 M21 => (gI M21 9 29 l0 fun v23 => (gJ M21 9 31 l0 fun v24 => (cV M21 9 l0 (fX9_leg l0 v23 v24 (1 : Int32) M21) fun _u26 M25 => retZ (0 : Int32) (some ((0 : Int32), M25))))))))) else fX9_isUnknown_171   M13)))))))))) else if v2 = 6 then (gI M 9 28 l0 fun v27 => (gR M 9 1 l0 fun r28 => (rI M .int r28 l1 fun v29 => (if v29 ≤ v27 then fX9_isUnknown_226   M else (gR M 9 11 l0 fun r30 => (rI M .int r30 (((200 : Int32) * l1) + v1) fun v31 => (if v31 = 0 then fX9_isUnknown_226   M else fX9_isUnknown_231  FU l0 (((200 : Int32) * l1) + v1) (0 : Int32) M))))))) else retZ (0 : Int32) (some ((0 : Int32), M)))))
set_option maxHeartbeats 4000000 in
set_option maxRecDepth 100000 in
theorem jX9_isUnknown (G : Gx) (l : Launch) (l0 : Nat) (l1 : Int32) (M : Mem) : J G l cX9_isUnknown 5 RX9 (some .boolean) "isUnknown" 1 24 (QM G (fun v : Int32 => some (.int v))) 0 [(0, .ref (adr G l0)), (1, .int l1)] [] M (fX9_isUnknown l0 l1 M) := by
  unfold fX9_isUnknown
  refine J_iconst (v := 0) dX9_isUnknown_0 (by decide) ?_
  refine J_istore_n (lv' := [(2, .int _), (0, .ref _), (1, .int _)]) dX9_isUnknown_1 (by decide) rfl ?_
  refine J_sipush (v := 200) dX9_isUnknown_2 (by decide) ?_
  refine J_iload_n dX9_isUnknown_5 2 rfl ?_
  refine J_imul dX9_isUnknown_6 ?_
  refine J_aload_n dX9_isUnknown_7 1 rfl ?_
  refine J_getI fd_9_28 w_584 rfl dX9_isUnknown_8 ?_
  refine J_iadd dX9_isUnknown_11 ?_
  refine J_istore_n (lv' := [(3, .int _), (2, .int _), (0, .ref _), (1, .int _)]) dX9_isUnknown_12 (by decide) rfl ?_
  refine J_aload_n dX9_isUnknown_13 2 rfl ?_
  refine J_getI fd_9_26 w_581 rfl dX9_isUnknown_14 ?_
  refine J_ite (fun h17_0 => ?_) (fun h17_0 => ?_)
  · refine J_tabI (off := 35) (tgt := 52) dX9_isUnknown_17 (by rw [h17_0]; decide) (by rw [h17_0]; decide) (by rw [h17_0]; decide) (by decide) ?_
    refine J_iconst (v := 0) dX9_isUnknown_52 (by decide) ?_
    refine J_istore (lv' := [(4, .int _), (3, .int _), (2, .int _), (0, .ref _), (1, .int _)]) dX9_isUnknown_53 (by decide) rfl ?_
    refine J_sub [3, 4, 2, 0] rfl ?_
    exact jX9_isUnknown_55 G l   FU _ _ _ _ _
  refine J_ite (fun h17_1 => ?_) (fun h17_1 => ?_)
  · refine J_tabI (off := 80) (tgt := 97) dX9_isUnknown_17 (by rw [h17_1]; decide) (by rw [h17_1]; decide) (by rw [h17_1]; decide) (by decide) ?_
    refine J_aload_n dX9_isUnknown_97 2 rfl ?_
    refine J_iload_n dX9_isUnknown_98 3 rfl ?_
    refine J_aload_n dX9_isUnknown_99 2 rfl ?_
    refine J_getI fd_9_29 w_585 rfl dX9_isUnknown_100 ?_
    refine J_callVi (okX9_isAccount G l _ _ _ _) mkX9_isAccount _ _ rfl w_607 w_608 w_609 ⟨by decide, by decide⟩ rfl (Nat.le_of_ble_eq_true rfl) dX9_isUnknown_103 (fun v5 M4 => ?_)
    refine J_if_ne (tgt := 113) dX9_isUnknown_106 (by decide) ?_ ?_
    · refine J_iconst (v := 0) dX9_isUnknown_113 (by decide) ?_
      refine J_sub [] rfl ?_
      exact jX9_isUnknown_114 G l   _ _
    · refine J_iconst (v := 1) dX9_isUnknown_109 (by decide) ?_
      refine J_goto (tgt := 114) dX9_isUnknown_110 (by decide) ?_
      refine J_sub [] rfl ?_
      exact jX9_isUnknown_114 G l   _ _
  refine J_ite (fun h17_2 => ?_) (fun h17_2 => ?_)
  · refine J_tabI (off := 98) (tgt := 115) dX9_isUnknown_17 (by rw [h17_2]; decide) (by rw [h17_2]; decide) (by rw [h17_2]; decide) (by decide) ?_
    refine J_aload_n dX9_isUnknown_115 2 rfl ?_
    refine J_iload_n dX9_isUnknown_116 3 rfl ?_
    refine J_aload_n dX9_isUnknown_117 2 rfl ?_
    refine J_getI fd_9_28 w_584 rfl dX9_isUnknown_118 ?_
    refine J_callVi (okX9_isHold G l _ _ _ _) mkX9_isHold _ _ rfl w_610 w_611 w_612 ⟨by decide, by decide⟩ rfl (Nat.le_of_ble_eq_true rfl) dX9_isUnknown_121 (fun v8 M7 => ?_)
    refine J_if_ne (tgt := 131) dX9_isUnknown_124 (by decide) ?_ ?_
    · refine J_iconst (v := 0) dX9_isUnknown_131 (by decide) ?_
      refine J_sub [] rfl ?_
      exact jX9_isUnknown_132 G l   _ _
    · refine J_iconst (v := 1) dX9_isUnknown_127 (by decide) ?_
      refine J_goto (tgt := 132) dX9_isUnknown_128 (by decide) ?_
      refine J_sub [] rfl ?_
      exact jX9_isUnknown_132 G l   _ _
  refine J_ite (fun h17_3 => ?_) (fun h17_3 => ?_)
  · refine J_tabI (off := 116) (tgt := 133) dX9_isUnknown_17 (by rw [h17_3]; decide) (by rw [h17_3]; decide) (by rw [h17_3]; decide) (by decide) ?_
    refine J_aload_n dX9_isUnknown_133 2 rfl ?_
    refine J_iload_n dX9_isUnknown_134 3 rfl ?_
    refine J_aload_n dX9_isUnknown_135 2 rfl ?_
    refine J_getI fd_9_28 w_584 rfl dX9_isUnknown_136 ?_
    refine J_callVi (okX9_isHold G l _ _ _ _) mkX9_isHold _ _ rfl w_610 w_611 w_612 ⟨by decide, by decide⟩ rfl (Nat.le_of_ble_eq_true rfl) dX9_isUnknown_139 (fun v11 M10 => ?_)
    refine J_if_eq (tgt := 171) dX9_isUnknown_142 (by decide) ?_ ?_
    · refine J_sub [] rfl ?_
      exact jX9_isUnknown_171 G l    _
    · refine J_aload_n dX9_isUnknown_145 2 rfl ?_
      refine J_iload_n dX9_isUnknown_146 3 rfl ?_
      refine J_aload_n dX9_isUnknown_147 2 rfl ?_
      refine J_getI fd_9_29 w_585 rfl dX9_isUnknown_148 ?_
      refine J_callVi (okX9_isAccount G l _ _ _ _) mkX9_isAccount _ _ rfl w_607 w_608 w_609 ⟨by decide, by decide⟩ rfl (Nat.le_of_ble_eq_true rfl) dX9_isUnknown_151 (fun v14 M13 => ?_)
      refine J_if_eq (tgt := 171) dX9_isUnknown_154 (by decide) ?_ ?_
      · refine J_sub [] rfl ?_
        exact jX9_isUnknown_171 G l    _
      · refine J_aload_n dX9_isUnknown_157 2 rfl ?_
        refine J_getJ fd_9_31 w_586 rfl dX9_isUnknown_158 ?_
        refine J_aload_n dX9_isUnknown_161 2 rfl ?_
        refine J_getR fd_9_15 w_484 rfl dX9_isUnknown_162 (fun r16 => ?_)
        refine J_iload_n dX9_isUnknown_165 0 rfl ?_
        refine J_lald dX9_isUnknown_166 ?_
        refine J_lcmp_le (tgt := 173) dX9_isUnknown_167 dX9_isUnknown_168 (by decide) ?_ ?_
        · refine J_aload_n dX9_isUnknown_173 2 rfl ?_
          refine J_aload_n dX9_isUnknown_174 2 rfl ?_
          refine J_getR fd_9_14 w_483 rfl dX9_isUnknown_175 (fun r18 => ?_)
          refine J_iload_n dX9_isUnknown_178 0 rfl ?_
          refine J_iald dX9_isUnknown_179 ?_
          refine J_aload_n dX9_isUnknown_180 2 rfl ?_
          refine J_getJ fd_9_31 w_586 rfl dX9_isUnknown_181 ?_
          refine J_lneg dX9_isUnknown_184 ?_
          refine J_iconst (v := 0) dX9_isUnknown_185 (by decide) ?_
          refine J_callVv (okX9_leg G l _ _ _ _ _) mkX9_leg _ _ rfl w_604 w_605 w_606 ⟨by decide, by decide⟩ rfl (Nat.le_of_ble_eq_true rfl) dX9_isUnknown_186 (fun _u22 M21 => ?_)
          refine J_aload_n dX9_isUnknown_189 2 rfl ?_
          refine J_aload_n dX9_isUnknown_190 2 rfl ?_
          refine J_getI fd_9_29 w_585 rfl dX9_isUnknown_191 ?_
          refine J_aload_n dX9_isUnknown_194 2 rfl ?_
          refine J_getJ fd_9_31 w_586 rfl dX9_isUnknown_195 ?_
          refine J_iconst (v := 1) dX9_isUnknown_198 (by decide) ?_
          refine J_callVv (okX9_leg G l _ _ _ _ _) mkX9_leg _ _ rfl w_604 w_605 w_606 ⟨by decide, by decide⟩ rfl (Nat.le_of_ble_eq_true rfl) dX9_isUnknown_199 (fun _u26 M25 => ?_)
          refine J_iconst (v := 0) dX9_isUnknown_202 (by decide) ?_
          exact J_zret dX9_isUnknown_203
        · refine J_sub [] rfl ?_
          exact jX9_isUnknown_171 G l    _
  refine J_ite (fun h17_4 => ?_) (fun h17_4 => ?_)
  · refine J_tabI (off := 187) (tgt := 204) dX9_isUnknown_17 (by rw [h17_4]; decide) (by rw [h17_4]; decide) (by rw [h17_4]; decide) (by decide) ?_
    refine J_aload_n dX9_isUnknown_204 2 rfl ?_
    refine J_getI fd_9_28 w_584 rfl dX9_isUnknown_205 ?_
    refine J_aload_n dX9_isUnknown_208 2 rfl ?_
    refine J_getR fd_9_1 w_470 rfl dX9_isUnknown_209 (fun r28 => ?_)
    refine J_iload_n dX9_isUnknown_212 3 rfl ?_
    refine J_iald dX9_isUnknown_213 ?_
    refine J_icmp_ge (tgt := 226) dX9_isUnknown_214 (by decide) ?_ ?_
    · refine J_sub [] rfl ?_
      exact jX9_isUnknown_226 G l    _
    · refine J_aload_n dX9_isUnknown_217 2 rfl ?_
      refine J_getR fd_9_11 w_480 rfl dX9_isUnknown_218 (fun r30 => ?_)
      refine J_iload_n dX9_isUnknown_221 0 rfl ?_
      refine J_iald dX9_isUnknown_222 ?_
      refine J_if_ne (tgt := 228) dX9_isUnknown_223 (by decide) ?_ ?_
      · refine J_iconst (v := 0) dX9_isUnknown_228 (by decide) ?_
        refine J_istore (lv' := [(4, .int _), (3, .int _), (2, .int _), (0, .ref _), (1, .int _)]) dX9_isUnknown_229 (by decide) rfl ?_
        refine J_sub [3, 1, 0] rfl ?_
        exact jX9_isUnknown_231 G l   FU _ _ _ _
      · refine J_sub [] rfl ?_
        exact jX9_isUnknown_226 G l    _
  refine J_tabO (tgt := 281) dX9_isUnknown_17 (by have h17_0 := lv_neT h17_0 (show (2 : Int32).toInt = 2 by decide); have h17_1 := lv_neT h17_1 (show (3 : Int32).toInt = 3 by decide); have h17_2 := lv_neT h17_2 (show (4 : Int32).toInt = 4 by decide); have h17_3 := lv_neT h17_3 (show (5 : Int32).toInt = 5 by decide); have h17_4 := lv_neT h17_4 (show (6 : Int32).toInt = 6 by decide); omega) (by decide) ?_
  refine J_iconst (v := 0) dX9_isUnknown_281 (by decide) ?_
  exact J_zret dX9_isUnknown_282
theorem okX9_isUnknown (G : Gx) (l : Launch) (l0 : Nat) (l1 : Int32) (M : Mem) : Con G l yX9_isUnknown cX9_isUnknown 5 (some .boolean) 1 24 (fun v : Int32 => some (.int v)) [.ref (adr G l0), .int l1] M (fX9_isUnknown l0 l1 M) := con_of (own := RX9) (nm := "isUnknown") (by decide +kernel) rfl rfl (Nat.le_of_ble_eq_true rfl) (jX9_isUnknown G l l0 l1 M)
theorem mkX9_isUnknown : MOk yX9_isUnknown cX9_isUnknown 5 (some .boolean) 1 := ⟨w_613, tb1 (List.mem_of_getElem? (i := 10) rfl) rfl, by decide +kernel, by decide +kernel, by decide +kernel⟩
-- X9_isUneven
def fX9_isUneven_85  (s0 : Int32) (M : Mem) : Option (Int32 × Mem) := retZ s0 (some (s0, M))
set_option maxHeartbeats 4000000 in
set_option maxRecDepth 100000 in
theorem jX9_isUneven_85 (G : Gx) (l : Launch)   (s0 : Int32) (M : Mem) : J G l cX9_isUneven 6 RX9 (some .boolean) "isUneven" 0 0 (QM G (fun v : Int32 => some (.int v))) 85 [] [.int s0] M (fX9_isUneven_85  s0 M) := by
  unfold fX9_isUneven_85
  exact J_zret dX9_isUneven_85
def fX9_isUneven_80   (M : Mem) : Option (Int32 × Mem) := fX9_isUneven_85  (1 : Int32) M
set_option maxHeartbeats 4000000 in
set_option maxRecDepth 100000 in
theorem jX9_isUneven_80 (G : Gx) (l : Launch)    (M : Mem) : J G l cX9_isUneven 6 RX9 (some .boolean) "isUneven" 0 0 (QM G (fun v : Int32 => some (.int v))) 80 [] [] M (fX9_isUneven_80   M) := by
  unfold fX9_isUneven_80
  refine J_iconst (v := 1) dX9_isUneven_80 (by decide) ?_
  refine J_goto (tgt := 85) dX9_isUneven_81 (by decide) ?_
  refine J_sub [] rfl ?_
  exact jX9_isUneven_85 G l   _ _
def fX9_isUneven_17  : Nat → Nat → Int64 → Int64 → Int32 → Mem → Option (Int32 × Mem)
  | 0, _, _, _, _, _ => none
  | n + 1, l0, l1, l3, l5, M => (gI M 9 27 l0 fun v1 => (if v1 ≤ l5 then (if (l1 + (yshr l3 (32 : Int32))) = (0 : Int64) then (if (l3 &&& (4294967295 : Int64)) = (0 : Int64) then fX9_isUneven_85  (0 : Int32) M else fX9_isUneven_80   M) else fX9_isUneven_80   M) else (gR M 9 33 l0 fun r2 => (rJ M r2 l5 fun v3 => (gR M 9 33 l0 fun r4 => (rJ M r4 l5 fun v5 => fX9_isUneven_17  n l0 (l1 + (yshr v3 (32 : Int32))) (l3 + (v5 &&& (4294967295 : Int64))) (l5 + (1 : Int32)) M))))))
set_option maxHeartbeats 4000000 in
set_option maxRecDepth 100000 in
theorem jX9_isUneven_17 (G : Gx) (l : Launch)   : ∀ (n : Nat) (l0 : Nat) (l1 : Int64) (l3 : Int64) (l5 : Int32) (M : Mem), J G l cX9_isUneven 6 RX9 (some .boolean) "isUneven" 0 0 (QM G (fun v : Int32 => some (.int v))) 17 [(0, .ref (adr G l0)), (1, .long l1), (3, .long l3), (5, .int l5)] [] M (fX9_isUneven_17  n l0 l1 l3 l5 M) := by
  intro n
  induction n with
  | zero => intro l0 l1 l3 l5 M; exact J_none
  | succ n ih =>
    intro l0 l1 l3 l5 M
    rw [fX9_isUneven_17]
    refine J_iload dX9_isUneven_17 3 rfl ?_
    refine J_aload_n dX9_isUneven_19 0 rfl ?_
    refine J_getI fd_9_27 w_583 rfl dX9_isUneven_20 ?_
    refine J_icmp_ge (tgt := 59) dX9_isUneven_23 (by decide) ?_ ?_
    · refine J_lload_n dX9_isUneven_59 1 rfl ?_
      refine J_lload_n dX9_isUneven_60 2 rfl ?_
      refine J_bipush (v := 32) dX9_isUneven_61 (by decide) ?_
      refine J_lshrK dX9_isUneven_63 ?_
      refine J_ladd dX9_isUneven_64 ?_
      refine J_lconst (v := 0) dX9_isUneven_65 (by decide) ?_
      refine J_lcmp_ne (tgt := 80) dX9_isUneven_66 dX9_isUneven_67 (by decide) ?_ ?_
      · refine J_sub [] rfl ?_
        exact jX9_isUneven_80 G l    _
      · refine J_lload_n dX9_isUneven_70 2 rfl ?_
        refine J_ldc2 (v := 4294967295) dX9_isUneven_71 w_614 ?_
        refine J_land dX9_isUneven_74 ?_
        refine J_lconst (v := 0) dX9_isUneven_75 (by decide) ?_
        refine J_lcmp_eq (tgt := 84) dX9_isUneven_76 dX9_isUneven_77 (by decide) ?_ ?_
        · refine J_iconst (v := 0) dX9_isUneven_84 (by decide) ?_
          refine J_sub [] rfl ?_
          exact jX9_isUneven_85 G l   _ _
        · refine J_sub [] rfl ?_
          exact jX9_isUneven_80 G l    _
    · refine J_lload_n dX9_isUneven_26 1 rfl ?_
      refine J_aload_n dX9_isUneven_27 0 rfl ?_
      refine J_getR fd_9_33 w_494 rfl dX9_isUneven_28 (fun r2 => ?_)
      refine J_iload dX9_isUneven_31 3 rfl ?_
      refine J_lald dX9_isUneven_33 ?_
      refine J_bipush (v := 32) dX9_isUneven_34 (by decide) ?_
      refine J_lshrK dX9_isUneven_36 ?_
      refine J_ladd dX9_isUneven_37 ?_
      refine J_lstore_n (lv' := [(1, .long _), (0, .ref _), (3, .long _), (5, .int _)]) dX9_isUneven_38 (by decide) rfl ?_
      refine J_lload_n dX9_isUneven_39 2 rfl ?_
      refine J_aload_n dX9_isUneven_40 1 rfl ?_
      refine J_getR fd_9_33 w_494 rfl dX9_isUneven_41 (fun r4 => ?_)
      refine J_iload dX9_isUneven_44 3 rfl ?_
      refine J_lald dX9_isUneven_46 ?_
      refine J_ldc2 (v := 4294967295) dX9_isUneven_47 w_614 ?_
      refine J_land dX9_isUneven_50 ?_
      refine J_ladd dX9_isUneven_51 ?_
      refine J_lstore_n (lv' := [(3, .long _), (1, .long _), (0, .ref _), (5, .int _)]) dX9_isUneven_52 (by decide) rfl ?_
      refine J_iincK (z := 1) (lv' := [(5, .int _), (3, .long _), (1, .long _), (0, .ref _)]) dX9_isUneven_53 3 rfl (by decide) (by decide) rfl ?_
      refine J_goto (tgt := 17) dX9_isUneven_56 (by decide) ?_
      refine J_sub [3, 2, 1, 0] rfl ?_
      exact ih _ _ _ _ _
def fX9_isUneven (l0 : Nat) (M : Mem) : Option (Int32 × Mem) := (gI M 9 26 l0 fun v1 => (if v1 = (2 : Int32) then fX9_isUneven_17  FU l0 (0 : Int64) (0 : Int64) (0 : Int32) M else retZ (0 : Int32) (some ((0 : Int32), M))))
set_option maxHeartbeats 4000000 in
set_option maxRecDepth 100000 in
theorem jX9_isUneven (G : Gx) (l : Launch) (l0 : Nat) (M : Mem) : J G l cX9_isUneven 6 RX9 (some .boolean) "isUneven" 0 0 (QM G (fun v : Int32 => some (.int v))) 0 [(0, .ref (adr G l0))] [] M (fX9_isUneven l0 M) := by
  unfold fX9_isUneven
  refine J_aload_n dX9_isUneven_0 0 rfl ?_
  refine J_getI fd_9_26 w_581 rfl dX9_isUneven_1 ?_
  refine J_iconst (v := 2) dX9_isUneven_4 (by decide) ?_
  refine J_icmp_eq (tgt := 10) dX9_isUneven_5 (by decide) ?_ ?_
  · refine J_lconst (v := 0) dX9_isUneven_10 (by decide) ?_
    refine J_lstore_n (lv' := [(1, .long _), (0, .ref _)]) dX9_isUneven_11 (by decide) rfl ?_
    refine J_lconst (v := 0) dX9_isUneven_12 (by decide) ?_
    refine J_lstore_n (lv' := [(3, .long _), (1, .long _), (0, .ref _)]) dX9_isUneven_13 (by decide) rfl ?_
    refine J_iconst (v := 0) dX9_isUneven_14 (by decide) ?_
    refine J_istore (lv' := [(5, .int _), (3, .long _), (1, .long _), (0, .ref _)]) dX9_isUneven_15 (by decide) rfl ?_
    refine J_sub [3, 2, 1, 0] rfl ?_
    exact jX9_isUneven_17 G l   FU _ _ _ _ _
  · refine J_iconst (v := 0) dX9_isUneven_8 (by decide) ?_
    exact J_zret dX9_isUneven_9
theorem okX9_isUneven (G : Gx) (l : Launch) (l0 : Nat) (M : Mem) : Con G l yX9_isUneven cX9_isUneven 6 (some .boolean) 0 0 (fun v : Int32 => some (.int v)) [.ref (adr G l0)] M (fX9_isUneven l0 M) := con_of (own := RX9) (nm := "isUneven") (by decide +kernel) rfl rfl (Nat.le_of_ble_eq_true rfl) (jX9_isUneven G l l0 M)
theorem mkX9_isUneven : MOk yX9_isUneven cX9_isUneven 6 (some .boolean) 0 := ⟨w_615, tb1 (List.mem_of_getElem? (i := 10) rfl) rfl, by decide +kernel, by decide +kernel, by decide +kernel⟩
-- X9_isOver
def fX9_isOver_37  : Nat → Nat → Int32 → Mem → Option (Int32 × Mem)
  | 0, _, _, _ => none
  | n + 1, l0, l2, M => (gI M 9 27 l0 fun v1 => (if v1 ≤ l2 then retZ (0 : Int32) (some ((0 : Int32), M)) else (gR M 9 32 l0 fun r2 => (rI M .int r2 l2 fun v3 => (gR M 9 36 l0 fun r4 => (rJ M r4 v3 fun v5 => (gR M 9 33 l0 fun r6 => (rJ M r6 l2 fun v7 => (gR M 9 33 l0 fun r8 => (rJ M r8 l2 fun v9 => (if (0 : Int64) ≤ ((v5 ^^^ (v5 + v7)) &&& (v9 ^^^ (v5 + v7))) then (gR M 9 36 l0 fun r10 => (wJ M r10 v3 (v5 + v7) fun M11 => fX9_isOver_37  n l0 (l2 + (1 : Int32)) M11)) else retZ (1 : Int32) (some ((1 : Int32), M)))))))))))))
set_option maxHeartbeats 4000000 in
set_option maxRecDepth 100000 in
theorem jX9_isOver_37 (G : Gx) (l : Launch)   : ∀ (n : Nat) (l0 : Nat) (l2 : Int32) (M : Mem), J G l cX9_isOver 8 RX9 (some .boolean) "isOver" 0 0 (QM G (fun v : Int32 => some (.int v))) 37 [(0, .ref (adr G l0)), (2, .int l2)] [] M (fX9_isOver_37  n l0 l2 M) := by
  intro n
  induction n with
  | zero => intro l0 l2 M; exact J_none
  | succ n ih =>
    intro l0 l2 M
    rw [fX9_isOver_37]
    refine J_iload_n dX9_isOver_37 1 rfl ?_
    refine J_aload_n dX9_isOver_38 0 rfl ?_
    refine J_getI fd_9_27 w_583 rfl dX9_isOver_39 ?_
    refine J_icmp_ge (tgt := 107) dX9_isOver_42 (by decide) ?_ ?_
    · refine J_iconst (v := 0) dX9_isOver_107 (by decide) ?_
      exact J_zret dX9_isOver_108
    · refine J_aload_n dX9_isOver_45 0 rfl ?_
      refine J_getR fd_9_32 w_493 rfl dX9_isOver_46 (fun r2 => ?_)
      refine J_iload_n dX9_isOver_49 1 rfl ?_
      refine J_iald dX9_isOver_50 ?_
      refine J_istore_n (lv' := [(3, .int _), (0, .ref _), (2, .int _)]) dX9_isOver_51 (by decide) rfl ?_
      refine J_aload_n dX9_isOver_52 1 rfl ?_
      refine J_getR fd_9_36 w_496 rfl dX9_isOver_53 (fun r4 => ?_)
      refine J_iload_n dX9_isOver_56 0 rfl ?_
      refine J_lald dX9_isOver_57 ?_
      refine J_lstore (lv' := [(4, .long _), (3, .int _), (0, .ref _), (2, .int _)]) dX9_isOver_58 (by decide) rfl ?_
      refine J_lload dX9_isOver_60 0 rfl ?_
      refine J_aload_n dX9_isOver_62 2 rfl ?_
      refine J_getR fd_9_33 w_494 rfl dX9_isOver_63 (fun r6 => ?_)
      refine J_iload_n dX9_isOver_66 3 rfl ?_
      refine J_lald dX9_isOver_67 ?_
      refine J_ladd dX9_isOver_68 ?_
      refine J_lstore (lv' := [(6, .long _), (4, .long _), (3, .int _), (0, .ref _), (2, .int _)]) dX9_isOver_69 (by decide) rfl ?_
      refine J_lload dX9_isOver_71 1 rfl ?_
      refine J_lload dX9_isOver_73 0 rfl ?_
      refine J_lxor dX9_isOver_75 ?_
      refine J_aload_n dX9_isOver_76 3 rfl ?_
      refine J_getR fd_9_33 w_494 rfl dX9_isOver_77 (fun r8 => ?_)
      refine J_iload_n dX9_isOver_80 4 rfl ?_
      refine J_lald dX9_isOver_81 ?_
      refine J_lload dX9_isOver_82 0 rfl ?_
      refine J_lxor dX9_isOver_84 ?_
      refine J_land dX9_isOver_85 ?_
      refine J_lconst (v := 0) dX9_isOver_86 (by decide) ?_
      refine J_lcmp_ge (tgt := 93) dX9_isOver_87 dX9_isOver_88 (by decide) ?_ ?_
      · refine J_aload_n dX9_isOver_93 3 rfl ?_
        refine J_getR fd_9_36 w_496 rfl dX9_isOver_94 (fun r10 => ?_)
        refine J_iload_n dX9_isOver_97 2 rfl ?_
        refine J_lload dX9_isOver_98 0 rfl ?_
        refine J_last dX9_isOver_100 ?_
        refine J_iincK (z := 1) (lv' := [(2, .int _), (6, .long _), (4, .long _), (3, .int _), (0, .ref _)]) dX9_isOver_101 4 rfl (by decide) (by decide) rfl ?_
        refine J_goto (tgt := 37) dX9_isOver_104 (by decide) ?_
        refine J_sub [4, 0] rfl ?_
        exact ih _ _ _
      · refine J_iconst (v := 1) dX9_isOver_91 (by decide) ?_
        exact J_zret dX9_isOver_92
def fX9_isOver_2  : Nat → Nat → Int32 → Int32 → Mem → Option (Int32 × Mem)
  | 0, _, _, _, _ => none
  | n + 1, l0, l1, l2, M => (gR M 9 0 l0 fun r1 => (rI M .int r1 l1 fun v2 => (if v2 ≤ l2 then fX9_isOver_37  FU l0 (0 : Int32) M else (gR M 9 36 l0 fun r3 => (gR M 9 6 l0 fun r4 => (rJ M r4 (((40 : Int32) * l1) + l2) fun v5 => (wJ M r3 l2 v5 fun M6 => fX9_isOver_2  n l0 l1 (l2 + (1 : Int32)) M6)))))))
set_option maxHeartbeats 4000000 in
set_option maxRecDepth 100000 in
theorem jX9_isOver_2 (G : Gx) (l : Launch)   : ∀ (n : Nat) (l0 : Nat) (l1 : Int32) (l2 : Int32) (M : Mem), J G l cX9_isOver 8 RX9 (some .boolean) "isOver" 0 0 (QM G (fun v : Int32 => some (.int v))) 2 [(0, .ref (adr G l0)), (1, .int l1), (2, .int l2)] [] M (fX9_isOver_2  n l0 l1 l2 M) := by
  intro n
  induction n with
  | zero => intro l0 l1 l2 M; exact J_none
  | succ n ih =>
    intro l0 l1 l2 M
    rw [fX9_isOver_2]
    refine J_iload_n dX9_isOver_2 2 rfl ?_
    refine J_aload_n dX9_isOver_3 0 rfl ?_
    refine J_getR fd_9_0 w_469 rfl dX9_isOver_4 (fun r1 => ?_)
    refine J_iload_n dX9_isOver_7 1 rfl ?_
    refine J_iald dX9_isOver_8 ?_
    refine J_icmp_ge (tgt := 35) dX9_isOver_9 (by decide) ?_ ?_
    · refine J_iconst (v := 0) dX9_isOver_35 (by decide) ?_
      refine J_istore_n (lv' := [(2, .int _), (0, .ref _), (1, .int _)]) dX9_isOver_36 (by decide) rfl ?_
      refine J_sub [1, 0] rfl ?_
      exact jX9_isOver_37 G l   FU _ _ _
    · refine J_aload_n dX9_isOver_12 0 rfl ?_
      refine J_getR fd_9_36 w_496 rfl dX9_isOver_13 (fun r3 => ?_)
      refine J_iload_n dX9_isOver_16 2 rfl ?_
      refine J_aload_n dX9_isOver_17 0 rfl ?_
      refine J_getR fd_9_6 w_475 rfl dX9_isOver_18 (fun r4 => ?_)
      refine J_bipush (v := 40) dX9_isOver_21 (by decide) ?_
      refine J_iload_n dX9_isOver_23 1 rfl ?_
      refine J_imul dX9_isOver_24 ?_
      refine J_iload_n dX9_isOver_25 2 rfl ?_
      refine J_iadd dX9_isOver_26 ?_
      refine J_lald dX9_isOver_27 ?_
      refine J_last dX9_isOver_28 ?_
      refine J_iincK (z := 1) (lv' := [(2, .int _), (0, .ref _), (1, .int _)]) dX9_isOver_29 2 rfl (by decide) (by decide) rfl ?_
      refine J_goto (tgt := 2) dX9_isOver_32 (by decide) ?_
      refine J_sub [1, 2, 0] rfl ?_
      exact ih _ _ _ _
def fX9_isOver (l0 : Nat) (l1 : Int32) (M : Mem) : Option (Int32 × Mem) := fX9_isOver_2  FU l0 l1 (0 : Int32) M
set_option maxHeartbeats 4000000 in
set_option maxRecDepth 100000 in
theorem jX9_isOver (G : Gx) (l : Launch) (l0 : Nat) (l1 : Int32) (M : Mem) : J G l cX9_isOver 8 RX9 (some .boolean) "isOver" 0 0 (QM G (fun v : Int32 => some (.int v))) 0 [(0, .ref (adr G l0)), (1, .int l1)] [] M (fX9_isOver l0 l1 M) := by
  unfold fX9_isOver
  refine J_iconst (v := 0) dX9_isOver_0 (by decide) ?_
  refine J_istore_n (lv' := [(2, .int _), (0, .ref _), (1, .int _)]) dX9_isOver_1 (by decide) rfl ?_
  refine J_sub [1, 2, 0] rfl ?_
  exact jX9_isOver_2 G l   FU _ _ _ _
theorem okX9_isOver (G : Gx) (l : Launch) (l0 : Nat) (l1 : Int32) (M : Mem) : Con G l yX9_isOver cX9_isOver 8 (some .boolean) 0 0 (fun v : Int32 => some (.int v)) [.ref (adr G l0), .int l1] M (fX9_isOver l0 l1 M) := con_of (own := RX9) (nm := "isOver") (by decide +kernel) rfl rfl (Nat.le_of_ble_eq_true rfl) (jX9_isOver G l l0 l1 M)
theorem mkX9_isOver : MOk yX9_isOver cX9_isOver 8 (some .boolean) 1 := ⟨w_616, tb1 (List.mem_of_getElem? (i := 10) rfl) rfl, by decide +kernel, by decide +kernel, by decide +kernel⟩
-- X9_isBelow
def fX9_isBelow_208  (s0 : Int32) (M : Mem) : Option (Int32 × Mem) := retZ s0 (some (s0, M))
set_option maxHeartbeats 4000000 in
set_option maxRecDepth 100000 in
theorem jX9_isBelow_208 (G : Gx) (l : Launch)   (s0 : Int32) (M : Mem) : J G l cX9_isBelow 13 RX9 (some .boolean) "isBelow" 0 0 (QM G (fun v : Int32 => some (.int v))) 208 [] [.int s0] M (fX9_isBelow_208  s0 M) := by
  unfold fX9_isBelow_208
  exact J_zret dX9_isBelow_208
def fX9_isBelow_136  (l0 : Nat) (l1 : Int32) (l2 : Int32) (l3 : Int64) (l5 : Int64) (M : Mem) : Option (Int32 × Mem) := (gR M 9 5 l0 fun r1 => (rJ M r1 (((40 : Int32) * l1) + l2) fun v2 => (gR M 9 36 l0 fun r3 => (rJ M r3 l2 fun v4 => (gR M 9 36 l0 fun r5 => (rJ M r5 l2 fun v6 => (if (0 : Int64) ≤ ((((yshr v4 (32 : Int32)) - l3) - (yshr v2 (32 : Int32))) + (yshr (((v6 &&& (4294967295 : Int64)) - l5) - (v2 &&& (4294967295 : Int64))) (32 : Int32))) then fX9_isBelow_208  (0 : Int32) M else fX9_isBelow_208  (1 : Int32) M)))))))
set_option maxHeartbeats 4000000 in
set_option maxRecDepth 100000 in
theorem jX9_isBelow_136 (G : Gx) (l : Launch)   (l0 : Nat) (l1 : Int32) (l2 : Int32) (l3 : Int64) (l5 : Int64) (M : Mem) : J G l cX9_isBelow 13 RX9 (some .boolean) "isBelow" 0 0 (QM G (fun v : Int32 => some (.int v))) 136 [(0, .ref (adr G l0)), (1, .int l1), (2, .int l2), (3, .long l3), (5, .long l5)] [] M (fX9_isBelow_136  l0 l1 l2 l3 l5 M) := by
  unfold fX9_isBelow_136
  refine J_aload_n dX9_isBelow_136 0 rfl ?_
  refine J_getR fd_9_5 w_474 rfl dX9_isBelow_137 (fun r1 => ?_)
  refine J_bipush (v := 40) dX9_isBelow_140 (by decide) ?_
  refine J_iload_n dX9_isBelow_142 1 rfl ?_
  refine J_imul dX9_isBelow_143 ?_
  refine J_iload_n dX9_isBelow_144 2 rfl ?_
  refine J_iadd dX9_isBelow_145 ?_
  refine J_lald dX9_isBelow_146 ?_
  refine J_lstore (lv' := [(7, .long _), (0, .ref _), (1, .int _), (2, .int _), (3, .long _), (5, .long _)]) dX9_isBelow_147 (by decide) rfl ?_
  refine J_aload_n dX9_isBelow_149 1 rfl ?_
  refine J_getR fd_9_36 w_496 rfl dX9_isBelow_150 (fun r3 => ?_)
  refine J_iload_n dX9_isBelow_153 3 rfl ?_
  refine J_lald dX9_isBelow_154 ?_
  refine J_bipush (v := 32) dX9_isBelow_155 (by decide) ?_
  refine J_lshrK dX9_isBelow_157 ?_
  refine J_lload_n dX9_isBelow_158 4 rfl ?_
  refine J_lsub dX9_isBelow_159 ?_
  refine J_lload dX9_isBelow_160 0 rfl ?_
  refine J_bipush (v := 32) dX9_isBelow_162 (by decide) ?_
  refine J_lshrK dX9_isBelow_164 ?_
  refine J_lsub dX9_isBelow_165 ?_
  refine J_lstore (lv' := [(9, .long _), (7, .long _), (0, .ref _), (1, .int _), (2, .int _), (3, .long _), (5, .long _)]) dX9_isBelow_166 (by decide) rfl ?_
  refine J_aload_n dX9_isBelow_168 2 rfl ?_
  refine J_getR fd_9_36 w_496 rfl dX9_isBelow_169 (fun r5 => ?_)
  refine J_iload_n dX9_isBelow_172 4 rfl ?_
  refine J_lald dX9_isBelow_173 ?_
  refine J_ldc2 (v := 4294967295) dX9_isBelow_174 w_614 ?_
  refine J_land dX9_isBelow_177 ?_
  refine J_lload dX9_isBelow_178 6 rfl ?_
  refine J_lsub dX9_isBelow_180 ?_
  refine J_lload dX9_isBelow_181 1 rfl ?_
  refine J_ldc2 (v := 4294967295) dX9_isBelow_183 w_614 ?_
  refine J_land dX9_isBelow_186 ?_
  refine J_lsub dX9_isBelow_187 ?_
  refine J_lstore (lv' := [(11, .long _), (9, .long _), (7, .long _), (0, .ref _), (1, .int _), (2, .int _), (3, .long _), (5, .long _)]) dX9_isBelow_188 (by decide) rfl ?_
  refine J_lload dX9_isBelow_190 1 rfl ?_
  refine J_lload dX9_isBelow_192 0 rfl ?_
  refine J_bipush (v := 32) dX9_isBelow_194 (by decide) ?_
  refine J_lshrK dX9_isBelow_196 ?_
  refine J_ladd dX9_isBelow_197 ?_
  refine J_lconst (v := 0) dX9_isBelow_198 (by decide) ?_
  refine J_lcmp_ge (tgt := 207) dX9_isBelow_199 dX9_isBelow_200 (by decide) ?_ ?_
  · refine J_iconst (v := 0) dX9_isBelow_207 (by decide) ?_
    refine J_sub [] rfl ?_
    exact jX9_isBelow_208 G l   _ _
  · refine J_iconst (v := 1) dX9_isBelow_203 (by decide) ?_
    refine J_goto (tgt := 208) dX9_isBelow_204 (by decide) ?_
    refine J_sub [] rfl ?_
    exact jX9_isBelow_208 G l   _ _
def fX9_isBelow_64  (l0 : Nat) (l1 : Int32) (l2 : Int32) (l3 : Int64) (l5 : Int64) (M : Mem) : Option (Int32 × Mem) := (gI M 9 26 l0 fun v1 => (if v1 = (5 : Int32) then (gR M 9 14 l0 fun r2 => (gI M 9 28 l0 fun v3 => (rI M .int r2 (((200 : Int32) * l1) + v3) fun v4 => (if l2 = v4 then (gR M 9 15 l0 fun r5 => (gI M 9 28 l0 fun v6 => (rJ M r5 (((200 : Int32) * l1) + v6) fun v7 => (gR M 9 15 l0 fun r8 => (gI M 9 28 l0 fun v9 => (rJ M r8 (((200 : Int32) * l1) + v9) fun v10 => fX9_isBelow_136  l0 l1 l2 (l3 - (yshr v7 (32 : Int32))) (l5 - (v10 &&& (4294967295 : Int64))) M)))))) else fX9_isBelow_136  l0 l1 l2 l3 l5 M)))) else fX9_isBelow_136  l0 l1 l2 l3 l5 M))
set_option maxHeartbeats 4000000 in
set_option maxRecDepth 100000 in
theorem jX9_isBelow_64 (G : Gx) (l : Launch)   (l0 : Nat) (l1 : Int32) (l2 : Int32) (l3 : Int64) (l5 : Int64) (M : Mem) : J G l cX9_isBelow 13 RX9 (some .boolean) "isBelow" 0 0 (QM G (fun v : Int32 => some (.int v))) 64 [(0, .ref (adr G l0)), (1, .int l1), (2, .int l2), (3, .long l3), (5, .long l5)] [] M (fX9_isBelow_64  l0 l1 l2 l3 l5 M) := by
  unfold fX9_isBelow_64
  refine J_aload_n dX9_isBelow_64 0 rfl ?_
  refine J_getI fd_9_26 w_581 rfl dX9_isBelow_65 ?_
  refine J_iconst (v := 5) dX9_isBelow_68 (by decide) ?_
  refine J_icmp_ne (tgt := 136) dX9_isBelow_69 (by decide) ?_ ?_
  · refine J_sub [0, 1, 2, 3, 4] rfl ?_
    exact jX9_isBelow_136 G l   _ _ _ _ _ _
  · refine J_iload_n dX9_isBelow_72 2 rfl ?_
    refine J_aload_n dX9_isBelow_73 0 rfl ?_
    refine J_getR fd_9_14 w_483 rfl dX9_isBelow_74 (fun r2 => ?_)
    refine J_sipush (v := 200) dX9_isBelow_77 (by decide) ?_
    refine J_iload_n dX9_isBelow_80 1 rfl ?_
    refine J_imul dX9_isBelow_81 ?_
    refine J_aload_n dX9_isBelow_82 0 rfl ?_
    refine J_getI fd_9_28 w_584 rfl dX9_isBelow_83 ?_
    refine J_iadd dX9_isBelow_86 ?_
    refine J_iald dX9_isBelow_87 ?_
    refine J_icmp_ne (tgt := 136) dX9_isBelow_88 (by decide) ?_ ?_
    · refine J_sub [0, 1, 2, 3, 4] rfl ?_
      exact jX9_isBelow_136 G l   _ _ _ _ _ _
    · refine J_lload_n dX9_isBelow_91 3 rfl ?_
      refine J_aload_n dX9_isBelow_92 0 rfl ?_
      refine J_getR fd_9_15 w_484 rfl dX9_isBelow_93 (fun r5 => ?_)
      refine J_sipush (v := 200) dX9_isBelow_96 (by decide) ?_
      refine J_iload_n dX9_isBelow_99 1 rfl ?_
      refine J_imul dX9_isBelow_100 ?_
      refine J_aload_n dX9_isBelow_101 0 rfl ?_
      refine J_getI fd_9_28 w_584 rfl dX9_isBelow_102 ?_
      refine J_iadd dX9_isBelow_105 ?_
      refine J_lald dX9_isBelow_106 ?_
      refine J_bipush (v := 32) dX9_isBelow_107 (by decide) ?_
      refine J_lshrK dX9_isBelow_109 ?_
      refine J_lsub dX9_isBelow_110 ?_
      refine J_lstore_n (lv' := [(3, .long _), (0, .ref _), (1, .int _), (2, .int _), (5, .long _)]) dX9_isBelow_111 (by decide) rfl ?_
      refine J_lload dX9_isBelow_112 4 rfl ?_
      refine J_aload_n dX9_isBelow_114 1 rfl ?_
      refine J_getR fd_9_15 w_484 rfl dX9_isBelow_115 (fun r8 => ?_)
      refine J_sipush (v := 200) dX9_isBelow_118 (by decide) ?_
      refine J_iload_n dX9_isBelow_121 2 rfl ?_
      refine J_imul dX9_isBelow_122 ?_
      refine J_aload_n dX9_isBelow_123 1 rfl ?_
      refine J_getI fd_9_28 w_584 rfl dX9_isBelow_124 ?_
      refine J_iadd dX9_isBelow_127 ?_
      refine J_lald dX9_isBelow_128 ?_
      refine J_ldc2 (v := 4294967295) dX9_isBelow_129 w_614 ?_
      refine J_land dX9_isBelow_132 ?_
      refine J_lsub dX9_isBelow_133 ?_
      refine J_lstore (lv' := [(5, .long _), (3, .long _), (0, .ref _), (1, .int _), (2, .int _)]) dX9_isBelow_134 (by decide) rfl ?_
      refine J_sub [2, 3, 4, 1, 0] rfl ?_
      exact jX9_isBelow_136 G l   _ _ _ _ _ _
def fX9_isBelow (l0 : Nat) (l1 : Int32) (l2 : Int32) (M : Mem) : Option (Int32 × Mem) := (gR M 9 7 l0 fun r1 => (rJ M r1 (((40 : Int32) * l1) + l2) fun v2 => (gR M 9 8 l0 fun r3 => (rJ M r3 (((40 : Int32) * l1) + l2) fun v4 => (gI M 9 26 l0 fun v5 => (if v5 = (3 : Int32) then (gI M 9 29 l0 fun v6 => (if l2 = v6 then (gJ M 9 31 l0 fun v7 => (gJ M 9 31 l0 fun v8 => fX9_isBelow_64  l0 l1 l2 (v2 + (yshr v7 (32 : Int32))) (v4 + (v8 &&& (4294967295 : Int64))) M)) else fX9_isBelow_64  l0 l1 l2 v2 v4 M)) else fX9_isBelow_64  l0 l1 l2 v2 v4 M))))))
set_option maxHeartbeats 4000000 in
set_option maxRecDepth 100000 in
theorem jX9_isBelow (G : Gx) (l : Launch) (l0 : Nat) (l1 : Int32) (l2 : Int32) (M : Mem) : J G l cX9_isBelow 13 RX9 (some .boolean) "isBelow" 0 0 (QM G (fun v : Int32 => some (.int v))) 0 [(0, .ref (adr G l0)), (1, .int l1), (2, .int l2)] [] M (fX9_isBelow l0 l1 l2 M) := by
  unfold fX9_isBelow
  refine J_aload_n dX9_isBelow_0 0 rfl ?_
  refine J_getR fd_9_7 w_476 rfl dX9_isBelow_1 (fun r1 => ?_)
  refine J_bipush (v := 40) dX9_isBelow_4 (by decide) ?_
  refine J_iload_n dX9_isBelow_6 1 rfl ?_
  refine J_imul dX9_isBelow_7 ?_
  refine J_iload_n dX9_isBelow_8 2 rfl ?_
  refine J_iadd dX9_isBelow_9 ?_
  refine J_lald dX9_isBelow_10 ?_
  refine J_lstore_n (lv' := [(3, .long _), (0, .ref _), (1, .int _), (2, .int _)]) dX9_isBelow_11 (by decide) rfl ?_
  refine J_aload_n dX9_isBelow_12 1 rfl ?_
  refine J_getR fd_9_8 w_477 rfl dX9_isBelow_13 (fun r3 => ?_)
  refine J_bipush (v := 40) dX9_isBelow_16 (by decide) ?_
  refine J_iload_n dX9_isBelow_18 2 rfl ?_
  refine J_imul dX9_isBelow_19 ?_
  refine J_iload_n dX9_isBelow_20 3 rfl ?_
  refine J_iadd dX9_isBelow_21 ?_
  refine J_lald dX9_isBelow_22 ?_
  refine J_lstore (lv' := [(5, .long _), (3, .long _), (0, .ref _), (1, .int _), (2, .int _)]) dX9_isBelow_23 (by decide) rfl ?_
  refine J_aload_n dX9_isBelow_25 2 rfl ?_
  refine J_getI fd_9_26 w_581 rfl dX9_isBelow_26 ?_
  refine J_iconst (v := 3) dX9_isBelow_29 (by decide) ?_
  refine J_icmp_ne (tgt := 64) dX9_isBelow_30 (by decide) ?_ ?_
  · refine J_sub [2, 3, 4, 1, 0] rfl ?_
    exact jX9_isBelow_64 G l   _ _ _ _ _ _
  · refine J_iload_n dX9_isBelow_33 4 rfl ?_
    refine J_aload_n dX9_isBelow_34 2 rfl ?_
    refine J_getI fd_9_29 w_585 rfl dX9_isBelow_35 ?_
    refine J_icmp_ne (tgt := 64) dX9_isBelow_38 (by decide) ?_ ?_
    · refine J_sub [2, 3, 4, 1, 0] rfl ?_
      exact jX9_isBelow_64 G l   _ _ _ _ _ _
    · refine J_lload_n dX9_isBelow_41 1 rfl ?_
      refine J_aload_n dX9_isBelow_42 2 rfl ?_
      refine J_getJ fd_9_31 w_586 rfl dX9_isBelow_43 ?_
      refine J_bipush (v := 32) dX9_isBelow_46 (by decide) ?_
      refine J_lshrK dX9_isBelow_48 ?_
      refine J_ladd dX9_isBelow_49 ?_
      refine J_lstore_n (lv' := [(3, .long _), (5, .long _), (0, .ref _), (1, .int _), (2, .int _)]) dX9_isBelow_50 (by decide) rfl ?_
      refine J_lload dX9_isBelow_51 1 rfl ?_
      refine J_aload_n dX9_isBelow_53 2 rfl ?_
      refine J_getJ fd_9_31 w_586 rfl dX9_isBelow_54 ?_
      refine J_ldc2 (v := 4294967295) dX9_isBelow_57 w_614 ?_
      refine J_land dX9_isBelow_60 ?_
      refine J_ladd dX9_isBelow_61 ?_
      refine J_lstore (lv' := [(5, .long _), (3, .long _), (0, .ref _), (1, .int _), (2, .int _)]) dX9_isBelow_62 (by decide) rfl ?_
      refine J_sub [2, 3, 4, 1, 0] rfl ?_
      exact jX9_isBelow_64 G l   _ _ _ _ _ _
theorem okX9_isBelow (G : Gx) (l : Launch) (l0 : Nat) (l1 : Int32) (l2 : Int32) (M : Mem) : Con G l yX9_isBelow cX9_isBelow 13 (some .boolean) 0 0 (fun v : Int32 => some (.int v)) [.ref (adr G l0), .int l1, .int l2] M (fX9_isBelow l0 l1 l2 M) := con_of (own := RX9) (nm := "isBelow") (by decide +kernel) rfl rfl (Nat.le_of_ble_eq_true rfl) (jX9_isBelow G l l0 l1 l2 M)
theorem mkX9_isBelow : MOk yX9_isBelow cX9_isBelow 13 (some .boolean) 2 := ⟨w_617, tb1 (List.mem_of_getElem? (i := 10) rfl) rfl, by decide +kernel, by decide +kernel, by decide +kernel⟩
-- X9_refused
def fX9_refused_154  (s0 : Int32) (M : Mem) : Option (Int32 × Mem) := some (s0, M)
set_option maxHeartbeats 4000000 in
set_option maxRecDepth 100000 in
theorem jX9_refused_154 (G : Gx) (l : Launch)   (s0 : Int32) (M : Mem) : J G l cX9_refused 4 RX9 (some .int) "refused" 2 48 (QM G (fun v : Int32 => some (.int v))) 154 [] [.int s0] M (fX9_refused_154  s0 M) := by
  unfold fX9_refused_154
  exact J_iret dX9_refused_154
def fX9_refused_122 (k91 : Nat → Int32 → Int32 → Int32 → Mem → Option (Int32 × Mem)) (l0 : Nat) (l1 : Int32) (l3 : Int32) (s0 : Int32) (M : Mem) : Option (Int32 × Mem) := k91 l0 l1 s0 (l3 + (1 : Int32)) M
set_option maxHeartbeats 4000000 in
set_option maxRecDepth 100000 in
theorem jX9_refused_122 (G : Gx) (l : Launch) (k91 : Nat → Int32 → Int32 → Int32 → Mem → Option (Int32 × Mem)) (h91 : ∀ (l0 : Nat) (l1 : Int32) (l2 : Int32) (l3 : Int32) (M : Mem), J G l cX9_refused 4 RX9 (some .int) "refused" 2 48 (QM G (fun v : Int32 => some (.int v))) 91 [(0, .ref (adr G l0)), (1, .int l1), (2, .int l2), (3, .int l3)] [] M (k91 l0 l1 l2 l3 M)) (l0 : Nat) (l1 : Int32) (l3 : Int32) (s0 : Int32) (M : Mem) : J G l cX9_refused 4 RX9 (some .int) "refused" 2 48 (QM G (fun v : Int32 => some (.int v))) 122 [(0, .ref (adr G l0)), (1, .int l1), (3, .int l3)] [.int s0] M (fX9_refused_122 k91 l0 l1 l3 s0 M) := by
  unfold fX9_refused_122
  refine J_istore_n (lv' := [(2, .int _), (0, .ref _), (1, .int _), (3, .int _)]) dX9_refused_122 (by decide) rfl ?_
  refine J_iincK (z := 1) (lv' := [(3, .int _), (2, .int _), (0, .ref _), (1, .int _)]) dX9_refused_123 3 rfl (by decide) (by decide) rfl ?_
  refine J_goto (tgt := 91) dX9_refused_126 (by decide) ?_
  refine J_sub [2, 3, 1, 0] rfl ?_
  exact h91 _ _ _ _ _
def fX9_refused_117 (k91 : Nat → Int32 → Int32 → Int32 → Mem → Option (Int32 × Mem)) (l0 : Nat) (l1 : Int32) (l3 : Int32) (M : Mem) : Option (Int32 × Mem) := fX9_refused_122 k91 l0 l1 l3 (1 : Int32) M
set_option maxHeartbeats 4000000 in
set_option maxRecDepth 100000 in
theorem jX9_refused_117 (G : Gx) (l : Launch) (k91 : Nat → Int32 → Int32 → Int32 → Mem → Option (Int32 × Mem)) (h91 : ∀ (l0 : Nat) (l1 : Int32) (l2 : Int32) (l3 : Int32) (M : Mem), J G l cX9_refused 4 RX9 (some .int) "refused" 2 48 (QM G (fun v : Int32 => some (.int v))) 91 [(0, .ref (adr G l0)), (1, .int l1), (2, .int l2), (3, .int l3)] [] M (k91 l0 l1 l2 l3 M)) (l0 : Nat) (l1 : Int32) (l3 : Int32) (M : Mem) : J G l cX9_refused 4 RX9 (some .int) "refused" 2 48 (QM G (fun v : Int32 => some (.int v))) 117 [(0, .ref (adr G l0)), (1, .int l1), (3, .int l3)] [] M (fX9_refused_117 k91 l0 l1 l3 M) := by
  unfold fX9_refused_117
  refine J_iconst (v := 1) dX9_refused_117 (by decide) ?_
  refine J_goto (tgt := 122) dX9_refused_118 (by decide) ?_
  refine J_sub [0, 1, 2] rfl ?_
  exact jX9_refused_122 G l _ h91 _ _ _ _ _
def fX9_refused_91  : Nat → Nat → Int32 → Int32 → Int32 → Mem → Option (Int32 × Mem)
  | 0, _, _, _, _, _ => none
  | n + 1, l0, l1, l2, l3, M => (gI M 9 27 l0 fun v1 => (if v1 ≤ l3 then (if l2 = 0 then (gR M 9 1 l0 fun r2 => (rI M .int r2 l1 fun v3 => (if v3 = (200 : Int32) then fX9_refused_154  (-8 : Int32) M else fX9_refused_154  (0 : Int32) M))) else some ((-6 : Int32), M)) else (if l2 = 0 then (gR M 9 32 l0 fun r4 => (rI M .int r4 l3 fun v5 => (cV M 9 l0 (fX9_isBelow l0 l1 v5 M) fun v7 M6 => (if v7 = 0 then fX9_refused_122 (fX9_refused_91  n) l0 l1 l3 (0 : Int32) M6 else fX9_refused_117 (fX9_refused_91  n) l0 l1 l3 M6)))) else fX9_refused_117 (fX9_refused_91  n) l0 l1 l3 M)))
set_option maxHeartbeats 4000000 in
set_option maxRecDepth 100000 in
theorem jX9_refused_91 (G : Gx) (l : Launch)   : ∀ (n : Nat) (l0 : Nat) (l1 : Int32) (l2 : Int32) (l3 : Int32) (M : Mem), J G l cX9_refused 4 RX9 (some .int) "refused" 2 48 (QM G (fun v : Int32 => some (.int v))) 91 [(0, .ref (adr G l0)), (1, .int l1), (2, .int l2), (3, .int l3)] [] M (fX9_refused_91  n l0 l1 l2 l3 M) := by
  intro n
  induction n with
  | zero => intro l0 l1 l2 l3 M; exact J_none
  | succ n ih =>
    intro l0 l1 l2 l3 M
    rw [fX9_refused_91]
    refine J_iload_n dX9_refused_91 3 rfl ?_
    refine J_aload_n dX9_refused_92 0 rfl ?_
    refine J_getI fd_9_27 w_583 rfl dX9_refused_93 ?_
    refine J_icmp_ge (tgt := 129) dX9_refused_96 (by decide) ?_ ?_
    · refine J_iload_n dX9_refused_129 2 rfl ?_
      refine J_if_eq (tgt := 136) dX9_refused_130 (by decide) ?_ ?_
      · refine J_aload_n dX9_refused_136 0 rfl ?_
        refine J_getR fd_9_1 w_470 rfl dX9_refused_137 (fun r2 => ?_)
        refine J_iload_n dX9_refused_140 1 rfl ?_
        refine J_iald dX9_refused_141 ?_
        refine J_sipush (v := 200) dX9_refused_142 (by decide) ?_
        refine J_icmp_ne (tgt := 153) dX9_refused_145 (by decide) ?_ ?_
        · refine J_iconst (v := 0) dX9_refused_153 (by decide) ?_
          refine J_sub [] rfl ?_
          exact jX9_refused_154 G l   _ _
        · refine J_bipush (v := -8) dX9_refused_148 (by decide) ?_
          refine J_goto (tgt := 154) dX9_refused_150 (by decide) ?_
          refine J_sub [] rfl ?_
          exact jX9_refused_154 G l   _ _
      · refine J_bipush (v := -6) dX9_refused_133 (by decide) ?_
        exact J_iret dX9_refused_135
    · refine J_iload_n dX9_refused_99 2 rfl ?_
      refine J_if_ne (tgt := 117) dX9_refused_100 (by decide) ?_ ?_
      · refine J_sub [0, 1, 3] rfl ?_
        exact jX9_refused_117 G l _ ih _ _ _ _
      · refine J_aload_n dX9_refused_103 0 rfl ?_
        refine J_iload_n dX9_refused_104 1 rfl ?_
        refine J_aload_n dX9_refused_105 0 rfl ?_
        refine J_getR fd_9_32 w_493 rfl dX9_refused_106 (fun r4 => ?_)
        refine J_iload_n dX9_refused_109 3 rfl ?_
        refine J_iald dX9_refused_110 ?_
        refine J_callVi (okX9_isBelow G l _ _ _ _) mkX9_isBelow _ _ rfl w_618 w_619 w_620 ⟨by decide, by decide⟩ rfl (Nat.le_of_ble_eq_true rfl) dX9_refused_111 (fun v7 M6 => ?_)
        refine J_if_eq (tgt := 121) dX9_refused_114 (by decide) ?_ ?_
        · refine J_iconst (v := 0) dX9_refused_121 (by decide) ?_
          refine J_sub [0, 1, 3] rfl ?_
          exact jX9_refused_122 G l _ ih _ _ _ _ _
        · refine J_sub [0, 1, 3] rfl ?_
          exact jX9_refused_117 G l _ ih _ _ _ _
def fX9_refused_88  (l0 : Nat) (l1 : Int32) (s0 : Int32) (M : Mem) : Option (Int32 × Mem) := fX9_refused_91  FU l0 l1 s0 (0 : Int32) M
set_option maxHeartbeats 4000000 in
set_option maxRecDepth 100000 in
theorem jX9_refused_88 (G : Gx) (l : Launch)   (l0 : Nat) (l1 : Int32) (s0 : Int32) (M : Mem) : J G l cX9_refused 4 RX9 (some .int) "refused" 2 48 (QM G (fun v : Int32 => some (.int v))) 88 [(0, .ref (adr G l0)), (1, .int l1)] [.int s0] M (fX9_refused_88  l0 l1 s0 M) := by
  unfold fX9_refused_88
  refine J_istore_n (lv' := [(2, .int _), (0, .ref _), (1, .int _)]) dX9_refused_88 (by decide) rfl ?_
  refine J_iconst (v := 0) dX9_refused_89 (by decide) ?_
  refine J_istore_n (lv' := [(3, .int _), (2, .int _), (0, .ref _), (1, .int _)]) dX9_refused_90 (by decide) rfl ?_
  refine J_sub [2, 3, 1, 0] rfl ?_
  exact jX9_refused_91 G l   FU _ _ _ _ _
def fX9_refused_87  (l0 : Nat) (l1 : Int32) (M : Mem) : Option (Int32 × Mem) := fX9_refused_88  l0 l1 (0 : Int32) M
set_option maxHeartbeats 4000000 in
set_option maxRecDepth 100000 in
theorem jX9_refused_87 (G : Gx) (l : Launch)   (l0 : Nat) (l1 : Int32) (M : Mem) : J G l cX9_refused 4 RX9 (some .int) "refused" 2 48 (QM G (fun v : Int32 => some (.int v))) 87 [(0, .ref (adr G l0)), (1, .int l1)] [] M (fX9_refused_87  l0 l1 M) := by
  unfold fX9_refused_87
  refine J_iconst (v := 0) dX9_refused_87 (by decide) ?_
  refine J_sub [0, 1] rfl ?_
  exact jX9_refused_88 G l   _ _ _ _
def fX9_refused_52  (l0 : Nat) (l1 : Int32) (M : Mem) : Option (Int32 × Mem) := (cV M 9 l0 (fX9_isOver l0 l1 M) fun v2 M1 => (if v2 = 0 then (gI M1 9 26 l0 fun v3 => (if v3 = (3 : Int32) then (gI M1 9 29 l0 fun v4 => (cV M1 9 l0 (fX9_isBelow l0 l1 v4 M1) fun v6 M5 => (if v6 = 0 then fX9_refused_87  l0 l1 M5 else fX9_refused_88  l0 l1 (1 : Int32) M5))) else fX9_refused_87  l0 l1 M1)) else some ((-5 : Int32), M1)))
set_option maxHeartbeats 4000000 in
set_option maxRecDepth 100000 in
theorem jX9_refused_52 (G : Gx) (l : Launch)   (l0 : Nat) (l1 : Int32) (M : Mem) : J G l cX9_refused 4 RX9 (some .int) "refused" 2 48 (QM G (fun v : Int32 => some (.int v))) 52 [(0, .ref (adr G l0)), (1, .int l1)] [] M (fX9_refused_52  l0 l1 M) := by
  unfold fX9_refused_52
  refine J_aload_n dX9_refused_52 0 rfl ?_
  refine J_iload_n dX9_refused_53 1 rfl ?_
  refine J_callVi (okX9_isOver G l _ _ _) mkX9_isOver _ _ rfl w_621 w_622 w_623 ⟨by decide, by decide⟩ rfl (Nat.le_of_ble_eq_true rfl) dX9_refused_54 (fun v2 M1 => ?_)
  refine J_if_eq (tgt := 63) dX9_refused_57 (by decide) ?_ ?_
  · refine J_aload_n dX9_refused_63 0 rfl ?_
    refine J_getI fd_9_26 w_581 rfl dX9_refused_64 ?_
    refine J_iconst (v := 3) dX9_refused_67 (by decide) ?_
    refine J_icmp_ne (tgt := 87) dX9_refused_68 (by decide) ?_ ?_
    · refine J_sub [0, 1] rfl ?_
      exact jX9_refused_87 G l   _ _ _
    · refine J_aload_n dX9_refused_71 0 rfl ?_
      refine J_iload_n dX9_refused_72 1 rfl ?_
      refine J_aload_n dX9_refused_73 0 rfl ?_
      refine J_getI fd_9_29 w_585 rfl dX9_refused_74 ?_
      refine J_callVi (okX9_isBelow G l _ _ _ _) mkX9_isBelow _ _ rfl w_618 w_619 w_620 ⟨by decide, by decide⟩ rfl (Nat.le_of_ble_eq_true rfl) dX9_refused_77 (fun v6 M5 => ?_)
      refine J_if_eq (tgt := 87) dX9_refused_80 (by decide) ?_ ?_
      · refine J_sub [0, 1] rfl ?_
        exact jX9_refused_87 G l   _ _ _
      · refine J_iconst (v := 1) dX9_refused_83 (by decide) ?_
        refine J_goto (tgt := 88) dX9_refused_84 (by decide) ?_
        refine J_sub [0, 1] rfl ?_
        exact jX9_refused_88 G l   _ _ _ _
  · refine J_bipush (v := -5) dX9_refused_60 (by decide) ?_
    exact J_iret dX9_refused_62
def fX9_refused (l0 : Nat) (l1 : Int32) (M : Mem) : Option (Int32 × Mem) := (cV M 9 l0 (fX9_isUnknown l0 l1 M) fun v2 M1 => (if v2 = 0 then (cV M1 9 l0 (fX9_isUneven l0 M1) fun v4 M3 => (if v4 = 0 then (gI M3 9 26 l0 fun v5 => (if v5 = (6 : Int32) then (gR M3 9 17 l0 fun r6 => (gI M3 9 28 l0 fun v7 => (rI M3 .int r6 (((200 : Int32) * l1) + v7) fun v8 => (if v8 = (-1 : Int32) then fX9_refused_52  l0 l1 M3 else some ((-7 : Int32), M3))))) else fX9_refused_52  l0 l1 M3)) else some ((-3 : Int32), M3))) else some ((-2 : Int32), M1)))
set_option maxHeartbeats 4000000 in
set_option maxRecDepth 100000 in
theorem jX9_refused (G : Gx) (l : Launch) (l0 : Nat) (l1 : Int32) (M : Mem) : J G l cX9_refused 4 RX9 (some .int) "refused" 2 48 (QM G (fun v : Int32 => some (.int v))) 0 [(0, .ref (adr G l0)), (1, .int l1)] [] M (fX9_refused l0 l1 M) := by
  unfold fX9_refused
  refine J_aload_n dX9_refused_0 0 rfl ?_
  refine J_iload_n dX9_refused_1 1 rfl ?_
  refine J_callVi (okX9_isUnknown G l _ _ _) mkX9_isUnknown _ _ rfl w_624 w_625 w_626 ⟨by decide, by decide⟩ rfl (Nat.le_of_ble_eq_true rfl) dX9_refused_2 (fun v2 M1 => ?_)
  refine J_if_eq (tgt := 11) dX9_refused_5 (by decide) ?_ ?_
  · refine J_aload_n dX9_refused_11 0 rfl ?_
    refine J_callVi (okX9_isUneven G l _ _) mkX9_isUneven _ _ rfl w_627 w_628 w_629 ⟨by decide, by decide⟩ rfl (Nat.le_of_ble_eq_true rfl) dX9_refused_12 (fun v4 M3 => ?_)
    refine J_if_eq (tgt := 21) dX9_refused_15 (by decide) ?_ ?_
    · refine J_aload_n dX9_refused_21 0 rfl ?_
      refine J_getI fd_9_26 w_581 rfl dX9_refused_22 ?_
      refine J_bipush (v := 6) dX9_refused_25 (by decide) ?_
      refine J_icmp_ne (tgt := 52) dX9_refused_27 (by decide) ?_ ?_
      · refine J_sub [0, 1] rfl ?_
        exact jX9_refused_52 G l   _ _ _
      · refine J_aload_n dX9_refused_30 0 rfl ?_
        refine J_getR fd_9_17 w_486 rfl dX9_refused_31 (fun r6 => ?_)
        refine J_sipush (v := 200) dX9_refused_34 (by decide) ?_
        refine J_iload_n dX9_refused_37 1 rfl ?_
        refine J_imul dX9_refused_38 ?_
        refine J_aload_n dX9_refused_39 0 rfl ?_
        refine J_getI fd_9_28 w_584 rfl dX9_refused_40 ?_
        refine J_iadd dX9_refused_43 ?_
        refine J_iald dX9_refused_44 ?_
        refine J_iconst (v := -1) dX9_refused_45 (by decide) ?_
        refine J_icmp_eq (tgt := 52) dX9_refused_46 (by decide) ?_ ?_
        · refine J_sub [0, 1] rfl ?_
          exact jX9_refused_52 G l   _ _ _
        · refine J_bipush (v := -7) dX9_refused_49 (by decide) ?_
          exact J_iret dX9_refused_51
    · refine J_bipush (v := -3) dX9_refused_18 (by decide) ?_
      exact J_iret dX9_refused_20
  · refine J_bipush (v := -2) dX9_refused_8 (by decide) ?_
    exact J_iret dX9_refused_10
theorem okX9_refused (G : Gx) (l : Launch) (l0 : Nat) (l1 : Int32) (M : Mem) : Con G l yX9_refused cX9_refused 4 (some .int) 2 48 (fun v : Int32 => some (.int v)) [.ref (adr G l0), .int l1] M (fX9_refused l0 l1 M) := con_of (own := RX9) (nm := "refused") (by decide +kernel) rfl rfl (Nat.le_of_ble_eq_true rfl) (jX9_refused G l l0 l1 M)
theorem mkX9_refused : MOk yX9_refused cX9_refused 4 (some .int) 1 := ⟨w_630, tb1 (List.mem_of_getElem? (i := 10) rfl) rfl, by decide +kernel, by decide +kernel, by decide +kernel⟩
-- X9_hold
def fX9_hold (l0 : Nat) (l1 : Int32) (l2 : Int32) (l3 : Int64) (l5 : Int32) (M : Mem) : Option (Unit × Mem) := (gR M 9 8 l0 fun r1 => (rJ M r1 (((40 : Int32) * l1) + l2) fun v2 => (gR M 9 7 l0 fun r3 => (rJ M r3 (((40 : Int32) * l1) + l2) fun v4 => (wJ M r3 (((40 : Int32) * l1) + l2) (v4 + ((l5.toInt64 * (yshr l3 (32 : Int32))) + (yshr (v2 + (l5.toInt64 * (l3 &&& (4294967295 : Int64)))) (32 : Int32)))) fun M5 => (gR M5 9 8 l0 fun r6 => (wJ M5 r6 (((40 : Int32) * l1) + l2) ((v2 + (l5.toInt64 * (l3 &&& (4294967295 : Int64)))) &&& (4294967295 : Int64)) fun M7 => some ((), M7))))))))
set_option maxHeartbeats 4000000 in
set_option maxRecDepth 100000 in
theorem jX9_hold (G : Gx) (l : Launch) (l0 : Nat) (l1 : Int32) (l2 : Int32) (l3 : Int64) (l5 : Int32) (M : Mem) : J G l cX9_hold 9 RX9 none "hold" 0 0 (QM G (fun _ : Unit => none)) 0 [(0, .ref (adr G l0)), (1, .int l1), (2, .int l2), (3, .long l3), (5, .int l5)] [] M (fX9_hold l0 l1 l2 l3 l5 M) := by
  unfold fX9_hold
  refine J_bipush (v := 40) dX9_hold_0 (by decide) ?_
  refine J_iload_n dX9_hold_2 1 rfl ?_
  refine J_imul dX9_hold_3 ?_
  refine J_iload_n dX9_hold_4 2 rfl ?_
  refine J_iadd dX9_hold_5 ?_
  refine J_istore (lv' := [(6, .int _), (0, .ref _), (1, .int _), (2, .int _), (3, .long _), (5, .int _)]) dX9_hold_6 (by decide) rfl ?_
  refine J_aload_n dX9_hold_8 1 rfl ?_
  refine J_getR fd_9_8 w_477 rfl dX9_hold_9 (fun r1 => ?_)
  refine J_iload dX9_hold_12 0 rfl ?_
  refine J_lald dX9_hold_14 ?_
  refine J_iload dX9_hold_15 5 rfl ?_
  refine J_i2l dX9_hold_17 ?_
  refine J_lload_n dX9_hold_18 4 rfl ?_
  refine J_ldc2 (v := 4294967295) dX9_hold_19 w_614 ?_
  refine J_land dX9_hold_22 ?_
  refine J_lmul dX9_hold_23 ?_
  refine J_ladd dX9_hold_24 ?_
  refine J_lstore (lv' := [(7, .long _), (6, .int _), (0, .ref _), (1, .int _), (2, .int _), (3, .long _), (5, .int _)]) dX9_hold_25 (by decide) rfl ?_
  refine J_aload_n dX9_hold_27 2 rfl ?_
  refine J_getR fd_9_7 w_476 rfl dX9_hold_28 (fun r3 => ?_)
  refine J_iload dX9_hold_31 1 rfl ?_
  refine J_dup2 dX9_hold_33 rfl rfl ?_
  refine J_lald dX9_hold_34 ?_
  refine J_iload dX9_hold_35 6 rfl ?_
  refine J_i2l dX9_hold_37 ?_
  refine J_lload_n dX9_hold_38 5 rfl ?_
  refine J_bipush (v := 32) dX9_hold_39 (by decide) ?_
  refine J_lshrK dX9_hold_41 ?_
  refine J_lmul dX9_hold_42 ?_
  refine J_lload dX9_hold_43 0 rfl ?_
  refine J_bipush (v := 32) dX9_hold_45 (by decide) ?_
  refine J_lshrK dX9_hold_47 ?_
  refine J_ladd dX9_hold_48 ?_
  refine J_ladd dX9_hold_49 ?_
  refine J_last dX9_hold_50 ?_
  refine J_aload_n dX9_hold_51 2 rfl ?_
  refine J_getR fd_9_8 w_477 rfl dX9_hold_52 (fun r6 => ?_)
  refine J_iload dX9_hold_55 1 rfl ?_
  refine J_lload dX9_hold_57 0 rfl ?_
  refine J_ldc2 (v := 4294967295) dX9_hold_59 w_614 ?_
  refine J_land dX9_hold_62 ?_
  refine J_last dX9_hold_63 ?_
  exact J_vret dX9_hold_64
theorem okX9_hold (G : Gx) (l : Launch) (l0 : Nat) (l1 : Int32) (l2 : Int32) (l3 : Int64) (l5 : Int32) (M : Mem) : Con G l yX9_hold cX9_hold 9 none 0 0 (fun _ : Unit => none) [.ref (adr G l0), .int l1, .int l2, .long l3, .int l5] M (fX9_hold l0 l1 l2 l3 l5 M) := con_of (own := RX9) (nm := "hold") (by decide +kernel) rfl rfl (Nat.le_of_ble_eq_true rfl) (jX9_hold G l l0 l1 l2 l3 l5 M)
theorem mkX9_hold : MOk yX9_hold cX9_hold 9 none 4 := ⟨w_631, tb1 (List.mem_of_getElem? (i := 10) rfl) rfl, by decide +kernel, by decide +kernel, by decide +kernel⟩
