-- X9_readsLegs
def fX9_readsLegs_69 (k23 : Nat → Int32 → Int32 → Int32 → Mem → Option (Int32 × Mem)) (l0 : Nat) (l1 : Int32) (l3 : Int32) (l4 : Int32) (l5 : Int64) (s0 : Int32) (M : Mem) : Option (Int32 × Mem) := (cV M 9 l0 (fX9_leg l0 l4 l5 l3 M) fun _u2 M1 => k23 l0 l1 s0 (l3 + (1 : Int32)) M1)
set_option maxHeartbeats 4000000 in
set_option maxRecDepth 100000 in
theorem jX9_readsLegs_69 (G : Gx) (l : Launch) (k23 : Nat → Int32 → Int32 → Int32 → Mem → Option (Int32 × Mem)) (h23 : ∀ (l0 : Nat) (l1 : Int32) (l2 : Int32) (l3 : Int32) (M : Mem), J G l cX9_readsLegs 7 RX9 (some .boolean) "readsLegs" 1 24 (QM G (fun v : Int32 => some (.int v))) 23 [(0, .ref (adr G l0)), (1, .int l1), (2, .int l2), (3, .int l3)] [] M (k23 l0 l1 l2 l3 M)) (l0 : Nat) (l1 : Int32) (l3 : Int32) (l4 : Int32) (l5 : Int64) (s0 : Int32) (M : Mem) : J G l cX9_readsLegs 7 RX9 (some .boolean) "readsLegs" 1 24 (QM G (fun v : Int32 => some (.int v))) 69 [(0, .ref (adr G l0)), (1, .int l1), (3, .int l3), (4, .int l4), (5, .long l5)] [.int s0] M (fX9_readsLegs_69 k23 l0 l1 l3 l4 l5 s0 M) := by
  unfold fX9_readsLegs_69
  refine J_istore_n (lv' := [(2, .int _), (0, .ref _), (1, .int _), (3, .int _), (4, .int _), (5, .long _)]) dX9_readsLegs_69 (by decide) rfl ?_
  refine J_aload_n dX9_readsLegs_70 1 rfl ?_
  refine J_iload dX9_readsLegs_71 4 rfl ?_
  refine J_lload dX9_readsLegs_73 5 rfl ?_
  refine J_iload_n dX9_readsLegs_75 3 rfl ?_
  refine J_callVv (okX9_leg G l _ _ _ _ _) mkX9_leg _ _ rfl w_604 w_605 w_606 ⟨by decide, by decide⟩ rfl (Nat.le_of_ble_eq_true rfl) dX9_readsLegs_76 (fun _u2 M1 => ?_)
  refine J_iincK (z := 1) (lv' := [(3, .int _), (2, .int _), (0, .ref _), (1, .int _), (4, .int _), (5, .long _)]) dX9_readsLegs_79 3 rfl (by decide) (by decide) rfl ?_
  refine J_goto (tgt := 23) dX9_readsLegs_82 (by decide) ?_
  refine J_sub [2, 3, 1, 0] rfl ?_
  exact h23 _ _ _ _ _
def fX9_readsLegs_68 (k23 : Nat → Int32 → Int32 → Int32 → Mem → Option (Int32 × Mem)) (l0 : Nat) (l1 : Int32) (l3 : Int32) (l4 : Int32) (l5 : Int64) (M : Mem) : Option (Int32 × Mem) := fX9_readsLegs_69 k23 l0 l1 l3 l4 l5 (0 : Int32) M
set_option maxHeartbeats 4000000 in
set_option maxRecDepth 100000 in
theorem jX9_readsLegs_68 (G : Gx) (l : Launch) (k23 : Nat → Int32 → Int32 → Int32 → Mem → Option (Int32 × Mem)) (h23 : ∀ (l0 : Nat) (l1 : Int32) (l2 : Int32) (l3 : Int32) (M : Mem), J G l cX9_readsLegs 7 RX9 (some .boolean) "readsLegs" 1 24 (QM G (fun v : Int32 => some (.int v))) 23 [(0, .ref (adr G l0)), (1, .int l1), (2, .int l2), (3, .int l3)] [] M (k23 l0 l1 l2 l3 M)) (l0 : Nat) (l1 : Int32) (l3 : Int32) (l4 : Int32) (l5 : Int64) (M : Mem) : J G l cX9_readsLegs 7 RX9 (some .boolean) "readsLegs" 1 24 (QM G (fun v : Int32 => some (.int v))) 68 [(0, .ref (adr G l0)), (1, .int l1), (3, .int l3), (4, .int l4), (5, .long l5)] [] M (fX9_readsLegs_68 k23 l0 l1 l3 l4 l5 M) := by
  unfold fX9_readsLegs_68
  refine J_iconst (v := 0) dX9_readsLegs_68 (by decide) ?_
  refine J_sub [0, 1, 2, 3, 4] rfl ?_
  exact jX9_readsLegs_69 G l _ h23 _ _ _ _ _ _ _
def fX9_readsLegs_23  : Nat → Nat → Int32 → Int32 → Int32 → Mem → Option (Int32 × Mem)
  | 0, _, _, _, _, _ => none
  | n + 1, l0, l1, l2, l3, M => (if l1 ≤ l3 then retZ l2 (some (l2, M)) else (cV M 9 l0 (fX9_number l0 (1 : Int32) M) fun v2 M1 => (cV M1 9 l0 (fX9_number l0 (8 : Int32) M1) fun v4 M3 => (if l2 = 0 then fX9_readsLegs_68 (fX9_readsLegs_23  n) l0 l1 l3 v2.toInt32 v4 M3 else (if v4 = (0 : Int64) then fX9_readsLegs_68 (fX9_readsLegs_23  n) l0 l1 l3 v2.toInt32 v4 M3 else (if v4 = (-9223372036854775808 : Int64) then fX9_readsLegs_68 (fX9_readsLegs_23  n) l0 l1 l3 v2.toInt32 v4 M3 else fX9_readsLegs_69 (fX9_readsLegs_23  n) l0 l1 l3 v2.toInt32 v4 (1 : Int32) M3))))))
set_option maxHeartbeats 4000000 in
set_option maxRecDepth 100000 in
theorem jX9_readsLegs_23 (G : Gx) (l : Launch)   : ∀ (n : Nat) (l0 : Nat) (l1 : Int32) (l2 : Int32) (l3 : Int32) (M : Mem), J G l cX9_readsLegs 7 RX9 (some .boolean) "readsLegs" 1 24 (QM G (fun v : Int32 => some (.int v))) 23 [(0, .ref (adr G l0)), (1, .int l1), (2, .int l2), (3, .int l3)] [] M (fX9_readsLegs_23  n l0 l1 l2 l3 M) := by
  intro n
  induction n with
  | zero => intro l0 l1 l2 l3 M; exact J_none
  | succ n ih =>
    intro l0 l1 l2 l3 M
    rw [fX9_readsLegs_23]
    refine J_iload_n dX9_readsLegs_23 3 rfl ?_
    refine J_iload_n dX9_readsLegs_24 1 rfl ?_
    refine J_icmp_ge (tgt := 85) dX9_readsLegs_25 (by decide) ?_ ?_
    · refine J_iload_n dX9_readsLegs_85 2 rfl ?_
      exact J_zret dX9_readsLegs_86
    · refine J_aload_n dX9_readsLegs_28 0 rfl ?_
      refine J_iconst (v := 1) dX9_readsLegs_29 (by decide) ?_
      refine J_callVl (okX9_number G l _ _ _) mkX9_number _ _ rfl w_783 w_784 w_785 ⟨by decide, by decide⟩ rfl (Nat.le_of_ble_eq_true rfl) dX9_readsLegs_30 (fun v2 M1 => ?_)
      refine J_l2i dX9_readsLegs_33 ?_
      refine J_istore (lv' := [(4, .int _), (0, .ref _), (1, .int _), (2, .int _), (3, .int _)]) dX9_readsLegs_34 (by decide) rfl ?_
      refine J_aload_n dX9_readsLegs_36 1 rfl ?_
      refine J_bipush (v := 8) dX9_readsLegs_37 (by decide) ?_
      refine J_callVl (okX9_number G l _ _ _) mkX9_number _ _ rfl w_783 w_784 w_785 ⟨by decide, by decide⟩ rfl (Nat.le_of_ble_eq_true rfl) dX9_readsLegs_39 (fun v4 M3 => ?_)
      refine J_lstore (lv' := [(5, .long _), (4, .int _), (0, .ref _), (1, .int _), (2, .int _), (3, .int _)]) dX9_readsLegs_42 (by decide) rfl ?_
      refine J_iload_n dX9_readsLegs_44 4 rfl ?_
      refine J_if_eq (tgt := 68) dX9_readsLegs_45 (by decide) ?_ ?_
      · refine J_sub [2, 3, 5, 1, 0] rfl ?_
        exact jX9_readsLegs_68 G l _ ih _ _ _ _ _ _
      · refine J_lload dX9_readsLegs_48 0 rfl ?_
        refine J_lconst (v := 0) dX9_readsLegs_50 (by decide) ?_
        refine J_lcmp_eq (tgt := 68) dX9_readsLegs_51 dX9_readsLegs_52 (by decide) ?_ ?_
        · refine J_sub [2, 3, 5, 1, 0] rfl ?_
          exact jX9_readsLegs_68 G l _ ih _ _ _ _ _ _
        · refine J_lload dX9_readsLegs_55 0 rfl ?_
          refine J_ldc2 (v := -9223372036854775808) dX9_readsLegs_57 w_666 ?_
          refine J_lcmp_eq (tgt := 68) dX9_readsLegs_60 dX9_readsLegs_61 (by decide) ?_ ?_
          · refine J_sub [2, 3, 5, 1, 0] rfl ?_
            exact jX9_readsLegs_68 G l _ ih _ _ _ _ _ _
          · refine J_iconst (v := 1) dX9_readsLegs_64 (by decide) ?_
            refine J_goto (tgt := 69) dX9_readsLegs_65 (by decide) ?_
            refine J_sub [2, 3, 5, 1, 0] rfl ?_
            exact jX9_readsLegs_69 G l _ ih _ _ _ _ _ _ _
def fX9_readsLegs (l0 : Nat) (M : Mem) : Option (Int32 × Mem) := (cV M 9 l0 (fX9_number l0 (1 : Int32) M) fun v2 M1 => (bd (fX9_in v2.toInt32 (1 : Int32) (8 : Int32) M1) fun v4 M3 => (if v4 = 0 then retZ (0 : Int32) (some ((0 : Int32), M3)) else fX9_readsLegs_23  FU l0 v2.toInt32 (1 : Int32) (0 : Int32) M3)))
set_option maxHeartbeats 4000000 in
set_option maxRecDepth 100000 in
theorem jX9_readsLegs (G : Gx) (l : Launch) (l0 : Nat) (M : Mem) : J G l cX9_readsLegs 7 RX9 (some .boolean) "readsLegs" 1 24 (QM G (fun v : Int32 => some (.int v))) 0 [(0, .ref (adr G l0))] [] M (fX9_readsLegs l0 M) := by
  unfold fX9_readsLegs
  refine J_aload_n dX9_readsLegs_0 0 rfl ?_
  refine J_iconst (v := 1) dX9_readsLegs_1 (by decide) ?_
  refine J_callVl (okX9_number G l _ _ _) mkX9_number _ _ rfl w_783 w_784 w_785 ⟨by decide, by decide⟩ rfl (Nat.le_of_ble_eq_true rfl) dX9_readsLegs_2 (fun v2 M1 => ?_)
  refine J_l2i dX9_readsLegs_5 ?_
  refine J_istore_n (lv' := [(1, .int _), (0, .ref _)]) dX9_readsLegs_6 (by decide) rfl ?_
  refine J_iload_n dX9_readsLegs_7 0 rfl ?_
  refine J_iconst (v := 1) dX9_readsLegs_8 (by decide) ?_
  refine J_bipush (v := 8) dX9_readsLegs_9 (by decide) ?_
  refine J_callSi (okX9_in G l _ _ _ _) mkX9_in w_665 w_664 ⟨by decide, by decide⟩ rfl (Nat.le_of_ble_eq_true rfl) dX9_readsLegs_11 (fun v4 M3 => ?_)
  refine J_if_ne (tgt := 19) dX9_readsLegs_14 (by decide) ?_ ?_
  · refine J_iconst (v := 1) dX9_readsLegs_19 (by decide) ?_
    refine J_istore_n (lv' := [(2, .int _), (1, .int _), (0, .ref _)]) dX9_readsLegs_20 (by decide) rfl ?_
    refine J_iconst (v := 0) dX9_readsLegs_21 (by decide) ?_
    refine J_istore_n (lv' := [(3, .int _), (2, .int _), (1, .int _), (0, .ref _)]) dX9_readsLegs_22 (by decide) rfl ?_
    refine J_sub [3, 2, 1, 0] rfl ?_
    exact jX9_readsLegs_23 G l   FU _ _ _ _ _
  · refine J_iconst (v := 0) dX9_readsLegs_17 (by decide) ?_
    exact J_zret dX9_readsLegs_18
theorem okX9_readsLegs (G : Gx) (l : Launch) (l0 : Nat) (M : Mem) : Con G l yX9_readsLegs cX9_readsLegs 7 (some .boolean) 1 24 (fun v : Int32 => some (.int v)) [.ref (adr G l0)] M (fX9_readsLegs l0 M) := con_of (own := RX9) (nm := "readsLegs") (by decide +kernel) rfl rfl (Nat.le_of_ble_eq_true rfl) (jX9_readsLegs G l l0 M)
theorem mkX9_readsLegs : MOk yX9_readsLegs cX9_readsLegs 7 (some .boolean) 0 := ⟨w_786, tb1 (List.mem_of_getElem? (i := 10) rfl) rfl, by decide +kernel, by decide +kernel, by decide +kernel⟩
-- X9_reads
def fX9_reads_267  (s0 : Int32) (M : Mem) : Option (Int32 × Mem) := retZ s0 (some (s0, M))
set_option maxHeartbeats 4000000 in
set_option maxRecDepth 100000 in
theorem jX9_reads_267 (G : Gx) (l : Launch)   (s0 : Int32) (M : Mem) : J G l cX9_reads 5 RX9 (some .boolean) "reads" 3 67 (QM G (fun v : Int32 => some (.int v))) 267 [] [.int s0] M (fX9_reads_267  s0 M) := by
  unfold fX9_reads_267
  exact J_zret dX9_reads_267
def fX9_reads_262   (M : Mem) : Option (Int32 × Mem) := fX9_reads_267  (1 : Int32) M
set_option maxHeartbeats 4000000 in
set_option maxRecDepth 100000 in
theorem jX9_reads_262 (G : Gx) (l : Launch)    (M : Mem) : J G l cX9_reads 5 RX9 (some .boolean) "reads" 3 67 (QM G (fun v : Int32 => some (.int v))) 262 [] [] M (fX9_reads_262   M) := by
  unfold fX9_reads_262
  refine J_iconst (v := 1) dX9_reads_262 (by decide) ?_
  refine J_goto (tgt := 267) dX9_reads_263 (by decide) ?_
  refine J_sub [] rfl ?_
  exact jX9_reads_267 G l   _ _
def fX9_reads_249  (s0 : Int32) (M : Mem) : Option (Int32 × Mem) := retZ s0 (some (s0, M))
set_option maxHeartbeats 4000000 in
set_option maxRecDepth 100000 in
theorem jX9_reads_249 (G : Gx) (l : Launch)   (s0 : Int32) (M : Mem) : J G l cX9_reads 5 RX9 (some .boolean) "reads" 3 67 (QM G (fun v : Int32 => some (.int v))) 249 [] [.int s0] M (fX9_reads_249  s0 M) := by
  unfold fX9_reads_249
  exact J_zret dX9_reads_249
def fX9_reads_235  (l0 : Nat) (M : Mem) : Option (Int32 × Mem) := (gJ M 9 31 l0 fun v1 => (if v1 ≤ (0 : Int64) then fX9_reads_249  (0 : Int32) M else fX9_reads_249  (1 : Int32) M))
set_option maxHeartbeats 4000000 in
set_option maxRecDepth 100000 in
theorem jX9_reads_235 (G : Gx) (l : Launch)   (l0 : Nat) (M : Mem) : J G l cX9_reads 5 RX9 (some .boolean) "reads" 3 67 (QM G (fun v : Int32 => some (.int v))) 235 [(0, .ref (adr G l0))] [] M (fX9_reads_235  l0 M) := by
  unfold fX9_reads_235
  refine J_aload_n dX9_reads_235 0 rfl ?_
  refine J_getJ fd_9_31 w_586 rfl dX9_reads_236 ?_
  refine J_lconst (v := 0) dX9_reads_239 (by decide) ?_
  refine J_lcmp_le (tgt := 248) dX9_reads_240 dX9_reads_241 (by decide) ?_ ?_
  · refine J_iconst (v := 0) dX9_reads_248 (by decide) ?_
    refine J_sub [] rfl ?_
    exact jX9_reads_249 G l   _ _
  · refine J_iconst (v := 1) dX9_reads_244 (by decide) ?_
    refine J_goto (tgt := 249) dX9_reads_245 (by decide) ?_
    refine J_sub [] rfl ?_
    exact jX9_reads_249 G l   _ _
def fX9_reads_224  (s0 : Int32) (M : Mem) : Option (Int32 × Mem) := retZ s0 (some (s0, M))
set_option maxHeartbeats 4000000 in
set_option maxRecDepth 100000 in
theorem jX9_reads_224 (G : Gx) (l : Launch)   (s0 : Int32) (M : Mem) : J G l cX9_reads 5 RX9 (some .boolean) "reads" 3 67 (QM G (fun v : Int32 => some (.int v))) 224 [] [.int s0] M (fX9_reads_224  s0 M) := by
  unfold fX9_reads_224
  exact J_zret dX9_reads_224
def fX9_reads_223   (M : Mem) : Option (Int32 × Mem) := fX9_reads_224  (0 : Int32) M
set_option maxHeartbeats 4000000 in
set_option maxRecDepth 100000 in
theorem jX9_reads_223 (G : Gx) (l : Launch)    (M : Mem) : J G l cX9_reads 5 RX9 (some .boolean) "reads" 3 67 (QM G (fun v : Int32 => some (.int v))) 223 [] [] M (fX9_reads_223   M) := by
  unfold fX9_reads_223
  refine J_iconst (v := 0) dX9_reads_223 (by decide) ?_
  refine J_sub [] rfl ?_
  exact jX9_reads_224 G l   _ _
def fX9_reads_194  (l0 : Nat) (l1 : Int32) (M : Mem) : Option (Int32 × Mem) := (if l1 = (1 : Int32) then (gJ M 9 31 l0 fun v3 => (if (0 : Int64) < v3 then fX9_reads_223   M else (gR M 9 0 l0 fun r4 => (rI M .int r4 (1 : Int32) fun v5 => (if (40 : Int32) ≤ v5 then fX9_reads_223   M else fX9_reads_224  (1 : Int32) M))))) else (if l1 = (3 : Int32) then fX9_reads_235  l0 M else (if l1 = (5 : Int32) then fX9_reads_235  l0 M else (if l1 = (2 : Int32) then (cV M 9 l0 (fX9_readsLegs l0 M) fun v2 M1 => (if v2 = 0 then fX9_reads_267  (0 : Int32) M1 else fX9_reads_262   M1)) else fX9_reads_262   M))))
set_option maxHeartbeats 4000000 in
set_option maxRecDepth 100000 in
theorem jX9_reads_194 (G : Gx) (l : Launch)   (l0 : Nat) (l1 : Int32) (M : Mem) : J G l cX9_reads 5 RX9 (some .boolean) "reads" 3 67 (QM G (fun v : Int32 => some (.int v))) 194 [(0, .ref (adr G l0)), (1, .int l1)] [] M (fX9_reads_194  l0 l1 M) := by
  unfold fX9_reads_194
  refine J_iload_n dX9_reads_194 1 rfl ?_
  refine J_iconst (v := 1) dX9_reads_195 (by decide) ?_
  refine J_icmp_ne (tgt := 225) dX9_reads_196 (by decide) ?_ ?_
  · refine J_iload_n dX9_reads_225 1 rfl ?_
    refine J_iconst (v := 3) dX9_reads_226 (by decide) ?_
    refine J_icmp_eq (tgt := 235) dX9_reads_227 (by decide) ?_ ?_
    · refine J_sub [0] rfl ?_
      exact jX9_reads_235 G l   _ _
    · refine J_iload_n dX9_reads_230 1 rfl ?_
      refine J_iconst (v := 5) dX9_reads_231 (by decide) ?_
      refine J_icmp_ne (tgt := 250) dX9_reads_232 (by decide) ?_ ?_
      · refine J_iload_n dX9_reads_250 1 rfl ?_
        refine J_iconst (v := 2) dX9_reads_251 (by decide) ?_
        refine J_icmp_ne (tgt := 262) dX9_reads_252 (by decide) ?_ ?_
        · refine J_sub [] rfl ?_
          exact jX9_reads_262 G l    _
        · refine J_aload_n dX9_reads_255 0 rfl ?_
          refine J_callVi (okX9_readsLegs G l _ _) mkX9_readsLegs _ _ rfl w_787 w_788 w_789 ⟨by decide, by decide⟩ rfl (Nat.le_of_ble_eq_true rfl) dX9_reads_256 (fun v2 M1 => ?_)
          refine J_if_eq (tgt := 266) dX9_reads_259 (by decide) ?_ ?_
          · refine J_iconst (v := 0) dX9_reads_266 (by decide) ?_
            refine J_sub [] rfl ?_
            exact jX9_reads_267 G l   _ _
          · refine J_sub [] rfl ?_
            exact jX9_reads_262 G l    _
      · refine J_sub [0] rfl ?_
        exact jX9_reads_235 G l   _ _
  · refine J_aload_n dX9_reads_199 0 rfl ?_
    refine J_getJ fd_9_31 w_586 rfl dX9_reads_200 ?_
    refine J_lconst (v := 0) dX9_reads_203 (by decide) ?_
    refine J_lcmp_gt (tgt := 223) dX9_reads_204 dX9_reads_205 (by decide) ?_ ?_
    · refine J_sub [] rfl ?_
      exact jX9_reads_223 G l    _
    · refine J_aload_n dX9_reads_208 0 rfl ?_
      refine J_getR fd_9_0 w_469 rfl dX9_reads_209 (fun r4 => ?_)
      refine J_iconst (v := 1) dX9_reads_212 (by decide) ?_
      refine J_iald dX9_reads_213 ?_
      refine J_bipush (v := 40) dX9_reads_214 (by decide) ?_
      refine J_icmp_ge (tgt := 223) dX9_reads_216 (by decide) ?_ ?_
      · refine J_sub [] rfl ?_
        exact jX9_reads_223 G l    _
      · refine J_iconst (v := 1) dX9_reads_219 (by decide) ?_
        refine J_goto (tgt := 224) dX9_reads_220 (by decide) ?_
        refine J_sub [] rfl ?_
        exact jX9_reads_224 G l   _ _
def fX9_reads_184  (l0 : Nat) (l1 : Int32) (M : Mem) : Option (Int32 × Mem) := (cV M 9 l0 (fX9_number l0 (8 : Int32) M) fun v2 M1 => (pJ M1 9 31 l0 v2 fun M3 => fX9_reads_194  l0 l1 M3))
set_option maxHeartbeats 4000000 in
set_option maxRecDepth 100000 in
theorem jX9_reads_184 (G : Gx) (l : Launch)   (l0 : Nat) (l1 : Int32) (M : Mem) : J G l cX9_reads 5 RX9 (some .boolean) "reads" 3 67 (QM G (fun v : Int32 => some (.int v))) 184 [(0, .ref (adr G l0)), (1, .int l1)] [] M (fX9_reads_184  l0 l1 M) := by
  unfold fX9_reads_184
  refine J_aload_n dX9_reads_184 0 rfl ?_
  refine J_aload_n dX9_reads_185 0 rfl ?_
  refine J_bipush (v := 8) dX9_reads_186 (by decide) ?_
  refine J_callVl (okX9_number G l _ _ _) mkX9_number _ _ rfl w_783 w_784 w_785 ⟨by decide, by decide⟩ rfl (Nat.le_of_ble_eq_true rfl) dX9_reads_188 (fun v2 M1 => ?_)
  refine J_putJ fd_9_31 w_586 dX9_reads_191 ?_
  refine J_sub [0, 1] rfl ?_
  exact jX9_reads_194 G l   _ _ _
def fX9_reads_169  (l0 : Nat) (l1 : Int32) (M : Mem) : Option (Int32 × Mem) := (if l1 = (3 : Int32) then fX9_reads_184  l0 l1 M else (if l1 = (5 : Int32) then fX9_reads_184  l0 l1 M else (if l1 = (1 : Int32) then fX9_reads_184  l0 l1 M else fX9_reads_194  l0 l1 M)))
set_option maxHeartbeats 4000000 in
set_option maxRecDepth 100000 in
theorem jX9_reads_169 (G : Gx) (l : Launch)   (l0 : Nat) (l1 : Int32) (M : Mem) : J G l cX9_reads 5 RX9 (some .boolean) "reads" 3 67 (QM G (fun v : Int32 => some (.int v))) 169 [(0, .ref (adr G l0)), (1, .int l1)] [] M (fX9_reads_169  l0 l1 M) := by
  unfold fX9_reads_169
  refine J_iload_n dX9_reads_169 1 rfl ?_
  refine J_iconst (v := 3) dX9_reads_170 (by decide) ?_
  refine J_icmp_eq (tgt := 184) dX9_reads_171 (by decide) ?_ ?_
  · refine J_sub [0, 1] rfl ?_
    exact jX9_reads_184 G l   _ _ _
  · refine J_iload_n dX9_reads_174 1 rfl ?_
    refine J_iconst (v := 5) dX9_reads_175 (by decide) ?_
    refine J_icmp_eq (tgt := 184) dX9_reads_176 (by decide) ?_ ?_
    · refine J_sub [0, 1] rfl ?_
      exact jX9_reads_184 G l   _ _ _
    · refine J_iload_n dX9_reads_179 1 rfl ?_
      refine J_iconst (v := 1) dX9_reads_180 (by decide) ?_
      refine J_icmp_ne (tgt := 194) dX9_reads_181 (by decide) ?_ ?_
      · refine J_sub [0, 1] rfl ?_
        exact jX9_reads_194 G l   _ _ _
      · refine J_sub [0, 1] rfl ?_
        exact jX9_reads_184 G l   _ _ _
def fX9_reads_159  (l0 : Nat) (l1 : Int32) (M : Mem) : Option (Int32 × Mem) := (cV M 9 l0 (fX9_number l0 (1 : Int32) M) fun v2 M1 => (pI M1 9 29 l0 v2.toInt32 fun M3 => fX9_reads_169  l0 l1 M3))
set_option maxHeartbeats 4000000 in
set_option maxRecDepth 100000 in
theorem jX9_reads_159 (G : Gx) (l : Launch)   (l0 : Nat) (l1 : Int32) (M : Mem) : J G l cX9_reads 5 RX9 (some .boolean) "reads" 3 67 (QM G (fun v : Int32 => some (.int v))) 159 [(0, .ref (adr G l0)), (1, .int l1)] [] M (fX9_reads_159  l0 l1 M) := by
  unfold fX9_reads_159
  refine J_aload_n dX9_reads_159 0 rfl ?_
  refine J_aload_n dX9_reads_160 0 rfl ?_
  refine J_iconst (v := 1) dX9_reads_161 (by decide) ?_
  refine J_callVl (okX9_number G l _ _ _) mkX9_number _ _ rfl w_783 w_784 w_785 ⟨by decide, by decide⟩ rfl (Nat.le_of_ble_eq_true rfl) dX9_reads_162 (fun v2 M1 => ?_)
  refine J_l2i dX9_reads_165 ?_
  refine J_putI fd_9_29 w_585 dX9_reads_166 ?_
  refine J_sub [0, 1] rfl ?_
  exact jX9_reads_169 G l   _ _ _
def fX9_reads_149  (l0 : Nat) (l1 : Int32) (M : Mem) : Option (Int32 × Mem) := (if l1 = (3 : Int32) then fX9_reads_159  l0 l1 M else (if l1 = (5 : Int32) then fX9_reads_159  l0 l1 M else fX9_reads_169  l0 l1 M))
set_option maxHeartbeats 4000000 in
set_option maxRecDepth 100000 in
theorem jX9_reads_149 (G : Gx) (l : Launch)   (l0 : Nat) (l1 : Int32) (M : Mem) : J G l cX9_reads 5 RX9 (some .boolean) "reads" 3 67 (QM G (fun v : Int32 => some (.int v))) 149 [(0, .ref (adr G l0)), (1, .int l1)] [] M (fX9_reads_149  l0 l1 M) := by
  unfold fX9_reads_149
  refine J_iload_n dX9_reads_149 1 rfl ?_
  refine J_iconst (v := 3) dX9_reads_150 (by decide) ?_
  refine J_icmp_eq (tgt := 159) dX9_reads_151 (by decide) ?_ ?_
  · refine J_sub [0, 1] rfl ?_
    exact jX9_reads_159 G l   _ _ _
  · refine J_iload_n dX9_reads_154 1 rfl ?_
    refine J_iconst (v := 5) dX9_reads_155 (by decide) ?_
    refine J_icmp_ne (tgt := 169) dX9_reads_156 (by decide) ?_ ?_
    · refine J_sub [0, 1] rfl ?_
      exact jX9_reads_169 G l   _ _ _
    · refine J_sub [0, 1] rfl ?_
      exact jX9_reads_159 G l   _ _ _
def fX9_reads_133  (l0 : Nat) (l1 : Int32) (M : Mem) : Option (Int32 × Mem) := (gI M 9 28 l0 fun v1 => (bd (fX9_in v1 (0 : Int32) (199 : Int32) M) fun v3 M2 => (if v3 = 0 then retZ (0 : Int32) (some ((0 : Int32), M2)) else fX9_reads_149  l0 l1 M2)))
set_option maxHeartbeats 4000000 in
set_option maxRecDepth 100000 in
theorem jX9_reads_133 (G : Gx) (l : Launch)   (l0 : Nat) (l1 : Int32) (M : Mem) : J G l cX9_reads 5 RX9 (some .boolean) "reads" 3 67 (QM G (fun v : Int32 => some (.int v))) 133 [(0, .ref (adr G l0)), (1, .int l1)] [] M (fX9_reads_133  l0 l1 M) := by
  unfold fX9_reads_133
  refine J_aload_n dX9_reads_133 0 rfl ?_
  refine J_getI fd_9_28 w_584 rfl dX9_reads_134 ?_
  refine J_iconst (v := 0) dX9_reads_137 (by decide) ?_
  refine J_sipush (v := 199) dX9_reads_138 (by decide) ?_
  refine J_callSi (okX9_in G l _ _ _ _) mkX9_in w_665 w_664 ⟨by decide, by decide⟩ rfl (Nat.le_of_ble_eq_true rfl) dX9_reads_141 (fun v3 M2 => ?_)
  refine J_if_ne (tgt := 149) dX9_reads_144 (by decide) ?_ ?_
  · refine J_sub [0, 1] rfl ?_
    exact jX9_reads_149 G l   _ _ _
  · refine J_iconst (v := 0) dX9_reads_147 (by decide) ?_
    exact J_zret dX9_reads_148
def fX9_reads_117  (l0 : Nat) (l1 : Int32) (M : Mem) : Option (Int32 × Mem) := (if l1 = (5 : Int32) then fX9_reads_133  l0 l1 M else (if l1 = (4 : Int32) then fX9_reads_133  l0 l1 M else (if l1 = (6 : Int32) then fX9_reads_133  l0 l1 M else fX9_reads_149  l0 l1 M)))
set_option maxHeartbeats 4000000 in
set_option maxRecDepth 100000 in
theorem jX9_reads_117 (G : Gx) (l : Launch)   (l0 : Nat) (l1 : Int32) (M : Mem) : J G l cX9_reads 5 RX9 (some .boolean) "reads" 3 67 (QM G (fun v : Int32 => some (.int v))) 117 [(0, .ref (adr G l0)), (1, .int l1)] [] M (fX9_reads_117  l0 l1 M) := by
  unfold fX9_reads_117
  refine J_iload_n dX9_reads_117 1 rfl ?_
  refine J_iconst (v := 5) dX9_reads_118 (by decide) ?_
  refine J_icmp_eq (tgt := 133) dX9_reads_119 (by decide) ?_ ?_
  · refine J_sub [0, 1] rfl ?_
    exact jX9_reads_133 G l   _ _ _
  · refine J_iload_n dX9_reads_122 1 rfl ?_
    refine J_iconst (v := 4) dX9_reads_123 (by decide) ?_
    refine J_icmp_eq (tgt := 133) dX9_reads_124 (by decide) ?_ ?_
    · refine J_sub [0, 1] rfl ?_
      exact jX9_reads_133 G l   _ _ _
    · refine J_iload_n dX9_reads_127 1 rfl ?_
      refine J_bipush (v := 6) dX9_reads_128 (by decide) ?_
      refine J_icmp_ne (tgt := 149) dX9_reads_130 (by decide) ?_ ?_
      · refine J_sub [0, 1] rfl ?_
        exact jX9_reads_149 G l   _ _ _
      · refine J_sub [0, 1] rfl ?_
        exact jX9_reads_133 G l   _ _ _
def fX9_reads_106  (l0 : Nat) (l1 : Int32) (M : Mem) : Option (Int32 × Mem) := (cV M 9 l0 (fX9_number l0 (2 : Int32) M) fun v2 M1 => (pI M1 9 28 l0 v2.toInt32.toInt16.toInt32 fun M3 => fX9_reads_117  l0 l1 M3))
set_option maxHeartbeats 4000000 in
set_option maxRecDepth 100000 in
theorem jX9_reads_106 (G : Gx) (l : Launch)   (l0 : Nat) (l1 : Int32) (M : Mem) : J G l cX9_reads 5 RX9 (some .boolean) "reads" 3 67 (QM G (fun v : Int32 => some (.int v))) 106 [(0, .ref (adr G l0)), (1, .int l1)] [] M (fX9_reads_106  l0 l1 M) := by
  unfold fX9_reads_106
  refine J_aload_n dX9_reads_106 0 rfl ?_
  refine J_aload_n dX9_reads_107 0 rfl ?_
  refine J_iconst (v := 2) dX9_reads_108 (by decide) ?_
  refine J_callVl (okX9_number G l _ _ _) mkX9_number _ _ rfl w_783 w_784 w_785 ⟨by decide, by decide⟩ rfl (Nat.le_of_ble_eq_true rfl) dX9_reads_109 (fun v2 M1 => ?_)
  refine J_l2i dX9_reads_112 ?_
  refine J_i2s dX9_reads_113 ?_
  refine J_putI fd_9_28 w_584 dX9_reads_114 ?_
  refine J_sub [0, 1] rfl ?_
  exact jX9_reads_117 G l   _ _ _
def fX9_reads_84  (l0 : Nat) (l1 : Int32) (l3 : Int64) (M : Mem) : Option (Int32 × Mem) := (cV M 9 l0 (fX9_begins l0 l1 l3 M) fun _u2 M1 => (if l1 = (5 : Int32) then fX9_reads_106  l0 l1 M1 else (if l1 = (4 : Int32) then fX9_reads_106  l0 l1 M1 else (if l1 = (6 : Int32) then fX9_reads_106  l0 l1 M1 else fX9_reads_117  l0 l1 M1))))
set_option maxHeartbeats 4000000 in
set_option maxRecDepth 100000 in
theorem jX9_reads_84 (G : Gx) (l : Launch)   (l0 : Nat) (l1 : Int32) (l3 : Int64) (M : Mem) : J G l cX9_reads 5 RX9 (some .boolean) "reads" 3 67 (QM G (fun v : Int32 => some (.int v))) 84 [(0, .ref (adr G l0)), (1, .int l1), (3, .long l3)] [] M (fX9_reads_84  l0 l1 l3 M) := by
  unfold fX9_reads_84
  refine J_aload_n dX9_reads_84 0 rfl ?_
  refine J_iload_n dX9_reads_85 1 rfl ?_
  refine J_lload_n dX9_reads_86 2 rfl ?_
  refine J_callVv (okX9_begins G l _ _ _ _) mkX9_begins _ _ rfl w_636 w_637 w_638 ⟨by decide, by decide⟩ rfl (Nat.le_of_ble_eq_true rfl) dX9_reads_87 (fun _u2 M1 => ?_)
  refine J_iload_n dX9_reads_90 1 rfl ?_
  refine J_iconst (v := 5) dX9_reads_91 (by decide) ?_
  refine J_icmp_eq (tgt := 106) dX9_reads_92 (by decide) ?_ ?_
  · refine J_sub [0, 1] rfl ?_
    exact jX9_reads_106 G l   _ _ _
  · refine J_iload_n dX9_reads_95 1 rfl ?_
    refine J_iconst (v := 4) dX9_reads_96 (by decide) ?_
    refine J_icmp_eq (tgt := 106) dX9_reads_97 (by decide) ?_ ?_
    · refine J_sub [0, 1] rfl ?_
      exact jX9_reads_106 G l   _ _ _
    · refine J_iload_n dX9_reads_100 1 rfl ?_
      refine J_bipush (v := 6) dX9_reads_101 (by decide) ?_
      refine J_icmp_ne (tgt := 117) dX9_reads_103 (by decide) ?_ ?_
      · refine J_sub [0, 1] rfl ?_
        exact jX9_reads_117 G l   _ _ _
      · refine J_sub [0, 1] rfl ?_
        exact jX9_reads_106 G l   _ _ _
def fX9_reads_82   (M : Mem) : Option (Int32 × Mem) := retZ (0 : Int32) (some ((0 : Int32), M))
set_option maxHeartbeats 4000000 in
set_option maxRecDepth 100000 in
theorem jX9_reads_82 (G : Gx) (l : Launch)    (M : Mem) : J G l cX9_reads 5 RX9 (some .boolean) "reads" 3 67 (QM G (fun v : Int32 => some (.int v))) 82 [] [] M (fX9_reads_82   M) := by
  unfold fX9_reads_82
  refine J_iconst (v := 0) dX9_reads_82 (by decide) ?_
  exact J_zret dX9_reads_83
def fX9_reads_61  (l0 : Nat) (l1 : Int32) (l2 : Int32) (s0 : Int64) (M : Mem) : Option (Int32 × Mem) := (if l2 = 0 then fX9_reads_84  l0 l1 s0 M else (if s0 = (0 : Int64) then fX9_reads_82   M else (cV M 9 l0 (fX9_byKey l0 (1 : Int32) s0 M) fun v2 M1 => (if v2 = (-1 : Int32) then fX9_reads_84  l0 l1 s0 M1 else fX9_reads_82   M1))))
set_option maxHeartbeats 4000000 in
set_option maxRecDepth 100000 in
theorem jX9_reads_61 (G : Gx) (l : Launch)   (l0 : Nat) (l1 : Int32) (l2 : Int32) (s0 : Int64) (M : Mem) : J G l cX9_reads 5 RX9 (some .boolean) "reads" 3 67 (QM G (fun v : Int32 => some (.int v))) 61 [(0, .ref (adr G l0)), (1, .int l1), (2, .int l2)] [.long s0] M (fX9_reads_61  l0 l1 l2 s0 M) := by
  unfold fX9_reads_61
  refine J_lstore_n (lv' := [(3, .long _), (0, .ref _), (1, .int _), (2, .int _)]) dX9_reads_61 (by decide) rfl ?_
  refine J_iload_n dX9_reads_62 3 rfl ?_
  refine J_if_eq (tgt := 84) dX9_reads_63 (by decide) ?_ ?_
  · refine J_sub [1, 2, 0] rfl ?_
    exact jX9_reads_84 G l   _ _ _ _
  · refine J_lload_n dX9_reads_66 0 rfl ?_
    refine J_lconst (v := 0) dX9_reads_67 (by decide) ?_
    refine J_lcmp_eq (tgt := 82) dX9_reads_68 dX9_reads_69 (by decide) ?_ ?_
    · refine J_sub [] rfl ?_
      exact jX9_reads_82 G l    _
    · refine J_aload_n dX9_reads_72 1 rfl ?_
      refine J_iconst (v := 1) dX9_reads_73 (by decide) ?_
      refine J_lload_n dX9_reads_74 0 rfl ?_
      refine J_callVi (okX9_byKey G l _ _ _ _) mkX9_byKey _ _ rfl w_642 w_643 w_644 ⟨by decide, by decide⟩ rfl (Nat.le_of_ble_eq_true rfl) dX9_reads_75 (fun v2 M1 => ?_)
      refine J_iconst (v := -1) dX9_reads_78 (by decide) ?_
      refine J_icmp_eq (tgt := 84) dX9_reads_79 (by decide) ?_ ?_
      · refine J_sub [1, 2, 0] rfl ?_
        exact jX9_reads_84 G l   _ _ _ _
      · refine J_sub [] rfl ?_
        exact jX9_reads_82 G l    _
def fX9_reads_46  (l0 : Nat) (l1 : Int32) (s0 : Int32) (M : Mem) : Option (Int32 × Mem) := (if s0 = 0 then fX9_reads_61  l0 l1 s0 (0 : Int64) M else (cV M 9 l0 (fX9_number l0 (8 : Int32) M) fun v2 M1 => fX9_reads_61  l0 l1 s0 v2 M1))
set_option maxHeartbeats 4000000 in
set_option maxRecDepth 100000 in
theorem jX9_reads_46 (G : Gx) (l : Launch)   (l0 : Nat) (l1 : Int32) (s0 : Int32) (M : Mem) : J G l cX9_reads 5 RX9 (some .boolean) "reads" 3 67 (QM G (fun v : Int32 => some (.int v))) 46 [(0, .ref (adr G l0)), (1, .int l1)] [.int s0] M (fX9_reads_46  l0 l1 s0 M) := by
  unfold fX9_reads_46
  refine J_istore_n (lv' := [(2, .int _), (0, .ref _), (1, .int _)]) dX9_reads_46 (by decide) rfl ?_
  refine J_iload_n dX9_reads_47 0 rfl ?_
  refine J_if_eq (tgt := 60) dX9_reads_48 (by decide) ?_ ?_
  · refine J_lconst (v := 0) dX9_reads_60 (by decide) ?_
    refine J_sub [1, 2, 0] rfl ?_
    exact jX9_reads_61 G l   _ _ _ _ _
  · refine J_aload_n dX9_reads_51 1 rfl ?_
    refine J_bipush (v := 8) dX9_reads_52 (by decide) ?_
    refine J_callVl (okX9_number G l _ _ _) mkX9_number _ _ rfl w_783 w_784 w_785 ⟨by decide, by decide⟩ rfl (Nat.le_of_ble_eq_true rfl) dX9_reads_54 (fun v2 M1 => ?_)
    refine J_goto (tgt := 61) dX9_reads_57 (by decide) ?_
    refine J_sub [1, 2, 0] rfl ?_
    exact jX9_reads_61 G l   _ _ _ _ _
def fX9_reads_41  (l0 : Nat) (l1 : Int32) (M : Mem) : Option (Int32 × Mem) := fX9_reads_46  l0 l1 (1 : Int32) M
set_option maxHeartbeats 4000000 in
set_option maxRecDepth 100000 in
theorem jX9_reads_41 (G : Gx) (l : Launch)   (l0 : Nat) (l1 : Int32) (M : Mem) : J G l cX9_reads 5 RX9 (some .boolean) "reads" 3 67 (QM G (fun v : Int32 => some (.int v))) 41 [(0, .ref (adr G l0)), (1, .int l1)] [] M (fX9_reads_41  l0 l1 M) := by
  unfold fX9_reads_41
  refine J_iconst (v := 1) dX9_reads_41 (by decide) ?_
  refine J_goto (tgt := 46) dX9_reads_42 (by decide) ?_
  refine J_sub [0, 1] rfl ?_
  exact jX9_reads_46 G l   _ _ _ _
def fX9_reads (l0 : Nat) (M : Mem) : Option (Int32 × Mem) := (gR M 9 18 l0 fun r1 => (gI M 9 66 l0 fun v2 => (rI M .int r1 v2 fun v3 => (gI M 9 66 l0 fun v4 => (pI M 9 66 l0 (v4 + (1 : Int32)) fun M5 => (if v3 = (2 : Int32) then fX9_reads_41  l0 v3 M5 else (if v3 = (3 : Int32) then fX9_reads_41  l0 v3 M5 else (if v3 = (5 : Int32) then fX9_reads_41  l0 v3 M5 else (if v3 = (6 : Int32) then fX9_reads_41  l0 v3 M5 else fX9_reads_46  l0 v3 (0 : Int32) M5)))))))))
set_option maxHeartbeats 4000000 in
set_option maxRecDepth 100000 in
theorem jX9_reads (G : Gx) (l : Launch) (l0 : Nat) (M : Mem) : J G l cX9_reads 5 RX9 (some .boolean) "reads" 3 67 (QM G (fun v : Int32 => some (.int v))) 0 [(0, .ref (adr G l0))] [] M (fX9_reads l0 M) := by
  unfold fX9_reads
  refine J_aload_n dX9_reads_0 0 rfl ?_
  refine J_getR fd_9_18 w_487 rfl dX9_reads_1 (fun r1 => ?_)
  refine J_aload_n dX9_reads_4 0 rfl ?_
  refine J_getI fd_9_66 w_780 rfl dX9_reads_5 ?_
  refine J_iald dX9_reads_8 ?_
  refine J_istore_n (lv' := [(1, .int _), (0, .ref _)]) dX9_reads_9 (by decide) rfl ?_
  refine J_aload_n dX9_reads_10 1 rfl ?_
  refine J_dup dX9_reads_11 rfl ?_
  refine J_getI fd_9_66 w_780 rfl dX9_reads_12 ?_
  refine J_iconst (v := 1) dX9_reads_15 (by decide) ?_
  refine J_iadd dX9_reads_16 ?_
  refine J_putI fd_9_66 w_780 dX9_reads_17 ?_
  refine J_iload_n dX9_reads_20 0 rfl ?_
  refine J_iconst (v := 2) dX9_reads_21 (by decide) ?_
  refine J_icmp_eq (tgt := 41) dX9_reads_22 (by decide) ?_ ?_
  · refine J_sub [1, 0] rfl ?_
    exact jX9_reads_41 G l   _ _ _
  · refine J_iload_n dX9_reads_25 0 rfl ?_
    refine J_iconst (v := 3) dX9_reads_26 (by decide) ?_
    refine J_icmp_eq (tgt := 41) dX9_reads_27 (by decide) ?_ ?_
    · refine J_sub [1, 0] rfl ?_
      exact jX9_reads_41 G l   _ _ _
    · refine J_iload_n dX9_reads_30 0 rfl ?_
      refine J_iconst (v := 5) dX9_reads_31 (by decide) ?_
      refine J_icmp_eq (tgt := 41) dX9_reads_32 (by decide) ?_ ?_
      · refine J_sub [1, 0] rfl ?_
        exact jX9_reads_41 G l   _ _ _
      · refine J_iload_n dX9_reads_35 0 rfl ?_
        refine J_bipush (v := 6) dX9_reads_36 (by decide) ?_
        refine J_icmp_ne (tgt := 45) dX9_reads_38 (by decide) ?_ ?_
        · refine J_iconst (v := 0) dX9_reads_45 (by decide) ?_
          refine J_sub [1, 0] rfl ?_
          exact jX9_reads_46 G l   _ _ _ _
        · refine J_sub [1, 0] rfl ?_
          exact jX9_reads_41 G l   _ _ _
theorem okX9_reads (G : Gx) (l : Launch) (l0 : Nat) (M : Mem) : Con G l yX9_reads cX9_reads 5 (some .boolean) 3 67 (fun v : Int32 => some (.int v)) [.ref (adr G l0)] M (fX9_reads l0 M) := con_of (own := RX9) (nm := "reads") (by decide +kernel) rfl rfl (Nat.le_of_ble_eq_true rfl) (jX9_reads G l l0 M)
theorem mkX9_reads : MOk yX9_reads cX9_reads 5 (some .boolean) 0 := ⟨w_790, tb1 (List.mem_of_getElem? (i := 10) rfl) rfl, by decide +kernel, by decide +kernel, by decide +kernel⟩
-- X9_isTrial
def fX9_isTrial_71  (l0 : Nat) (l1 : Int32) (M : Mem) : Option (Int32 × Mem) := (gI M 9 66 l0 fun v1 => (gI M 9 35 l0 fun v2 => (pI M 9 66 l0 (v1 + v2) fun M3 => retZ l1 (some (l1, M3)))))
set_option maxHeartbeats 4000000 in
set_option maxRecDepth 100000 in
theorem jX9_isTrial_71 (G : Gx) (l : Launch)   (l0 : Nat) (l1 : Int32) (M : Mem) : J G l cX9_isTrial 3 RX9 (some .boolean) "isTrial" 4 95 (QM G (fun v : Int32 => some (.int v))) 71 [(0, .ref (adr G l0)), (1, .int l1)] [] M (fX9_isTrial_71  l0 l1 M) := by
  unfold fX9_isTrial_71
  refine J_aload_n dX9_isTrial_71 0 rfl ?_
  refine J_dup dX9_isTrial_72 rfl ?_
  refine J_getI fd_9_66 w_780 rfl dX9_isTrial_73 ?_
  refine J_aload_n dX9_isTrial_76 0 rfl ?_
  refine J_getI fd_9_35 w_587 rfl dX9_isTrial_77 ?_
  refine J_iadd dX9_isTrial_80 ?_
  refine J_putI fd_9_66 w_780 dX9_isTrial_81 ?_
  refine J_iload_n dX9_isTrial_84 1 rfl ?_
  exact J_zret dX9_isTrial_85
def fX9_isTrial_64 (k27 : Nat → Int32 → Int32 → Mem → Option (Int32 × Mem)) (l0 : Nat) (l2 : Int32) (s0 : Int32) (M : Mem) : Option (Int32 × Mem) := k27 l0 s0 (l2 + (1 : Int32)) M
set_option maxHeartbeats 4000000 in
set_option maxRecDepth 100000 in
theorem jX9_isTrial_64 (G : Gx) (l : Launch) (k27 : Nat → Int32 → Int32 → Mem → Option (Int32 × Mem)) (h27 : ∀ (l0 : Nat) (l1 : Int32) (l2 : Int32) (M : Mem), J G l cX9_isTrial 3 RX9 (some .boolean) "isTrial" 4 95 (QM G (fun v : Int32 => some (.int v))) 27 [(0, .ref (adr G l0)), (1, .int l1), (2, .int l2)] [] M (k27 l0 l1 l2 M)) (l0 : Nat) (l2 : Int32) (s0 : Int32) (M : Mem) : J G l cX9_isTrial 3 RX9 (some .boolean) "isTrial" 4 95 (QM G (fun v : Int32 => some (.int v))) 64 [(0, .ref (adr G l0)), (2, .int l2)] [.int s0] M (fX9_isTrial_64 k27 l0 l2 s0 M) := by
  unfold fX9_isTrial_64
  refine J_istore_n (lv' := [(1, .int _), (0, .ref _), (2, .int _)]) dX9_isTrial_64 (by decide) rfl ?_
  refine J_iincK (z := 1) (lv' := [(2, .int _), (1, .int _), (0, .ref _)]) dX9_isTrial_65 2 rfl (by decide) (by decide) rfl ?_
  refine J_goto (tgt := 27) dX9_isTrial_68 (by decide) ?_
  refine J_sub [2, 1, 0] rfl ?_
  exact h27 _ _ _ _
def fX9_isTrial_27  : Nat → Nat → Int32 → Int32 → Mem → Option (Int32 × Mem)
  | 0, _, _, _, _ => none
  | n + 1, l0, l1, l2, M => (gI M 9 35 l0 fun v1 => (if v1 ≤ l2 then fX9_isTrial_71  l0 l1 M else (if l1 = 0 then fX9_isTrial_71  l0 l1 M else (gR M 9 18 l0 fun r2 => (gI M 9 66 l0 fun v3 => (rI M .int r2 (v3 + l2) fun v4 => (gR M 9 34 l0 fun r5 => (rI M .int r5 l2 fun v6 => (if v4 = v6 then fX9_isTrial_64 (fX9_isTrial_27  n) l0 l2 (1 : Int32) M else fX9_isTrial_64 (fX9_isTrial_27  n) l0 l2 (0 : Int32) M)))))))))
set_option maxHeartbeats 4000000 in
set_option maxRecDepth 100000 in
theorem jX9_isTrial_27 (G : Gx) (l : Launch)   : ∀ (n : Nat) (l0 : Nat) (l1 : Int32) (l2 : Int32) (M : Mem), J G l cX9_isTrial 3 RX9 (some .boolean) "isTrial" 4 95 (QM G (fun v : Int32 => some (.int v))) 27 [(0, .ref (adr G l0)), (1, .int l1), (2, .int l2)] [] M (fX9_isTrial_27  n l0 l1 l2 M) := by
  intro n
  induction n with
  | zero => intro l0 l1 l2 M; exact J_none
  | succ n ih =>
    intro l0 l1 l2 M
    rw [fX9_isTrial_27]
    refine J_iload_n dX9_isTrial_27 2 rfl ?_
    refine J_aload_n dX9_isTrial_28 0 rfl ?_
    refine J_getI fd_9_35 w_587 rfl dX9_isTrial_29 ?_
    refine J_icmp_ge (tgt := 71) dX9_isTrial_32 (by decide) ?_ ?_
    · refine J_sub [0, 1] rfl ?_
      exact jX9_isTrial_71 G l   _ _ _
    · refine J_iload_n dX9_isTrial_35 1 rfl ?_
      refine J_if_eq (tgt := 71) dX9_isTrial_36 (by decide) ?_ ?_
      · refine J_sub [0, 1] rfl ?_
        exact jX9_isTrial_71 G l   _ _ _
      · refine J_aload_n dX9_isTrial_39 0 rfl ?_
        refine J_getR fd_9_18 w_487 rfl dX9_isTrial_40 (fun r2 => ?_)
        refine J_aload_n dX9_isTrial_43 0 rfl ?_
        refine J_getI fd_9_66 w_780 rfl dX9_isTrial_44 ?_
        refine J_iload_n dX9_isTrial_47 2 rfl ?_
        refine J_iadd dX9_isTrial_48 ?_
        refine J_iald dX9_isTrial_49 ?_
        refine J_aload_n dX9_isTrial_50 0 rfl ?_
        refine J_getR fd_9_34 w_495 rfl dX9_isTrial_51 (fun r5 => ?_)
        refine J_iload_n dX9_isTrial_54 2 rfl ?_
        refine J_iald dX9_isTrial_55 ?_
        refine J_icmp_ne (tgt := 63) dX9_isTrial_56 (by decide) ?_ ?_
        · refine J_iconst (v := 0) dX9_isTrial_63 (by decide) ?_
          refine J_sub [0, 2] rfl ?_
          exact jX9_isTrial_64 G l _ ih _ _ _ _
        · refine J_iconst (v := 1) dX9_isTrial_59 (by decide) ?_
          refine J_goto (tgt := 64) dX9_isTrial_60 (by decide) ?_
          refine J_sub [0, 2] rfl ?_
          exact jX9_isTrial_64 G l _ ih _ _ _ _
def fX9_isTrial_24  (l0 : Nat) (s0 : Int32) (M : Mem) : Option (Int32 × Mem) := fX9_isTrial_27  FU l0 s0 (0 : Int32) M
set_option maxHeartbeats 4000000 in
set_option maxRecDepth 100000 in
theorem jX9_isTrial_24 (G : Gx) (l : Launch)   (l0 : Nat) (s0 : Int32) (M : Mem) : J G l cX9_isTrial 3 RX9 (some .boolean) "isTrial" 4 95 (QM G (fun v : Int32 => some (.int v))) 24 [(0, .ref (adr G l0))] [.int s0] M (fX9_isTrial_24  l0 s0 M) := by
  unfold fX9_isTrial_24
  refine J_istore_n (lv' := [(1, .int _), (0, .ref _)]) dX9_isTrial_24 (by decide) rfl ?_
  refine J_iconst (v := 0) dX9_isTrial_25 (by decide) ?_
  refine J_istore_n (lv' := [(2, .int _), (1, .int _), (0, .ref _)]) dX9_isTrial_26 (by decide) rfl ?_
  refine J_sub [2, 1, 0] rfl ?_
  exact jX9_isTrial_27 G l   FU _ _ _ _
def fX9_isTrial (l0 : Nat) (M : Mem) : Option (Int32 × Mem) := (cV M 9 l0 (fX9_trial l0 (1 : Int32) M) fun _u2 M1 => (gR M1 9 18 l0 fun r3 => (gI M1 9 66 l0 fun v4 => (rI M1 .int r3 v4 fun v5 => (if v5 = (7 : Int32) then fX9_isTrial_24  l0 (1 : Int32) M1 else fX9_isTrial_24  l0 (0 : Int32) M1)))))
set_option maxHeartbeats 4000000 in
set_option maxRecDepth 100000 in
theorem jX9_isTrial (G : Gx) (l : Launch) (l0 : Nat) (M : Mem) : J G l cX9_isTrial 3 RX9 (some .boolean) "isTrial" 4 95 (QM G (fun v : Int32 => some (.int v))) 0 [(0, .ref (adr G l0))] [] M (fX9_isTrial l0 M) := by
  unfold fX9_isTrial
  refine J_aload_n dX9_isTrial_0 0 rfl ?_
  refine J_iconst (v := 1) dX9_isTrial_1 (by decide) ?_
  refine J_callVv (okX9_trial G l _ _ _) mkX9_trial _ _ rfl w_654 w_655 w_656 ⟨by decide, by decide⟩ rfl (Nat.le_of_ble_eq_true rfl) dX9_isTrial_2 (fun _u2 M1 => ?_)
  refine J_aload_n dX9_isTrial_5 0 rfl ?_
  refine J_getR fd_9_18 w_487 rfl dX9_isTrial_6 (fun r3 => ?_)
  refine J_aload_n dX9_isTrial_9 0 rfl ?_
  refine J_getI fd_9_66 w_780 rfl dX9_isTrial_10 ?_
  refine J_iald dX9_isTrial_13 ?_
  refine J_bipush (v := 7) dX9_isTrial_14 (by decide) ?_
  refine J_icmp_ne (tgt := 23) dX9_isTrial_16 (by decide) ?_ ?_
  · refine J_iconst (v := 0) dX9_isTrial_23 (by decide) ?_
    refine J_sub [0] rfl ?_
    exact jX9_isTrial_24 G l   _ _ _
  · refine J_iconst (v := 1) dX9_isTrial_19 (by decide) ?_
    refine J_goto (tgt := 24) dX9_isTrial_20 (by decide) ?_
    refine J_sub [0] rfl ?_
    exact jX9_isTrial_24 G l   _ _ _
theorem okX9_isTrial (G : Gx) (l : Launch) (l0 : Nat) (M : Mem) : Con G l yX9_isTrial cX9_isTrial 3 (some .boolean) 4 95 (fun v : Int32 => some (.int v)) [.ref (adr G l0)] M (fX9_isTrial l0 M) := con_of (own := RX9) (nm := "isTrial") (by decide +kernel) rfl rfl (Nat.le_of_ble_eq_true rfl) (jX9_isTrial G l l0 M)
theorem mkX9_isTrial : MOk yX9_isTrial cX9_isTrial 3 (some .boolean) 0 := ⟨w_791, tb1 (List.mem_of_getElem? (i := 10) rfl) rfl, by decide +kernel, by decide +kernel, by decide +kernel⟩
-- X9_tells
def fX9_tells_59  (l2 : Int32) (M : Mem) : Option (Int32 × Mem) := some (l2, M)
set_option maxHeartbeats 4000000 in
set_option maxRecDepth 100000 in
theorem jX9_tells_59 (G : Gx) (l : Launch)   (l2 : Int32) (M : Mem) : J G l cX9_tells 3 RX9 (some .int) "tells" 0 0 (QM G (fun v : Int32 => some (.int v))) 59 [(2, .int l2)] [] M (fX9_tells_59  l2 M) := by
  unfold fX9_tells_59
  refine J_iload_n dX9_tells_59 0 rfl ?_
  exact J_iret dX9_tells_60
def fX9_tells_2  : Nat → Nat → Int32 → Mem → Option (Int32 × Mem)
  | 0, _, _, _ => none
  | n + 1, l0, l2, M => (gI M 9 25 l0 fun v1 => (if v1 ≤ l2 then fX9_tells_59  l2 M else (gR M 9 23 l0 fun r2 => (rI M .int r2 l2 fun v3 => (gR M 9 1 l0 fun r4 => (rI M .int r4 (1 : Int32) fun v5 => (if v5 < v3 then fX9_tells_59  l2 M else (gR M 9 4 l0 fun r6 => (rI M .boolean r6 (1 : Int32) fun v7 => (if v7 = 0 then (gR M 9 2 l0 fun r8 => (gR M 9 24 l0 fun r9 => (rI M .int r9 l2 fun v10 => (wI M .int r8 (1 : Int32) v10 fun M11 => (gR M11 9 3 l0 fun r12 => (wI M11 .int r12 (1 : Int32) (0 : Int32) fun M13 => fX9_tells_2  n l0 (l2 + (1 : Int32)) M13)))))) else fX9_tells_59  l2 M))))))))))
set_option maxHeartbeats 4000000 in
set_option maxRecDepth 100000 in
theorem jX9_tells_2 (G : Gx) (l : Launch)   : ∀ (n : Nat) (l0 : Nat) (l2 : Int32) (M : Mem), J G l cX9_tells 3 RX9 (some .int) "tells" 0 0 (QM G (fun v : Int32 => some (.int v))) 2 [(0, .ref (adr G l0)), (2, .int l2)] [] M (fX9_tells_2  n l0 l2 M) := by
  intro n
  induction n with
  | zero => intro l0 l2 M; exact J_none
  | succ n ih =>
    intro l0 l2 M
    rw [fX9_tells_2]
    refine J_iload_n dX9_tells_2 1 rfl ?_
    refine J_aload_n dX9_tells_3 0 rfl ?_
    refine J_getI fd_9_25 w_680 rfl dX9_tells_4 ?_
    refine J_icmp_ge (tgt := 59) dX9_tells_7 (by decide) ?_ ?_
    · refine J_sub [1] rfl ?_
      exact jX9_tells_59 G l   _ _
    · refine J_aload_n dX9_tells_10 0 rfl ?_
      refine J_getR fd_9_23 w_491 rfl dX9_tells_11 (fun r2 => ?_)
      refine J_iload_n dX9_tells_14 1 rfl ?_
      refine J_iald dX9_tells_15 ?_
      refine J_aload_n dX9_tells_16 0 rfl ?_
      refine J_getR fd_9_1 w_470 rfl dX9_tells_17 (fun r4 => ?_)
      refine J_iconst (v := 1) dX9_tells_20 (by decide) ?_
      refine J_iald dX9_tells_21 ?_
      refine J_icmp_gt (tgt := 59) dX9_tells_22 (by decide) ?_ ?_
      · refine J_sub [1] rfl ?_
        exact jX9_tells_59 G l   _ _
      · refine J_aload_n dX9_tells_25 0 rfl ?_
        refine J_getR fd_9_4 w_473 rfl dX9_tells_26 (fun r6 => ?_)
        refine J_iconst (v := 1) dX9_tells_29 (by decide) ?_
        refine J_zald dX9_tells_30 ?_
        refine J_if_ne (tgt := 59) dX9_tells_31 (by decide) ?_ ?_
        · refine J_sub [1] rfl ?_
          exact jX9_tells_59 G l   _ _
        · refine J_aload_n dX9_tells_34 0 rfl ?_
          refine J_getR fd_9_2 w_471 rfl dX9_tells_35 (fun r8 => ?_)
          refine J_iconst (v := 1) dX9_tells_38 (by decide) ?_
          refine J_aload_n dX9_tells_39 0 rfl ?_
          refine J_getR fd_9_24 w_492 rfl dX9_tells_40 (fun r9 => ?_)
          refine J_iload_n dX9_tells_43 1 rfl ?_
          refine J_iald dX9_tells_44 ?_
          refine J_iast dX9_tells_45 ?_
          refine J_aload_n dX9_tells_46 0 rfl ?_
          refine J_getR fd_9_3 w_472 rfl dX9_tells_47 (fun r12 => ?_)
          refine J_iconst (v := 1) dX9_tells_50 (by decide) ?_
          refine J_iconst (v := 0) dX9_tells_51 (by decide) ?_
          refine J_iast dX9_tells_52 ?_
          refine J_iincK (z := 1) (lv' := [(2, .int _), (0, .ref _)]) dX9_tells_53 1 rfl (by decide) (by decide) rfl ?_
          refine J_goto (tgt := 2) dX9_tells_56 (by decide) ?_
          refine J_sub [1, 0] rfl ?_
          exact ih _ _ _
def fX9_tells (l0 : Nat) (l1 : Int32) (M : Mem) : Option (Int32 × Mem) := fX9_tells_2  FU l0 l1 M
set_option maxHeartbeats 4000000 in
set_option maxRecDepth 100000 in
theorem jX9_tells (G : Gx) (l : Launch) (l0 : Nat) (l1 : Int32) (M : Mem) : J G l cX9_tells 3 RX9 (some .int) "tells" 0 0 (QM G (fun v : Int32 => some (.int v))) 0 [(0, .ref (adr G l0)), (1, .int l1)] [] M (fX9_tells l0 l1 M) := by
  unfold fX9_tells
  refine J_iload_n dX9_tells_0 1 rfl ?_
  refine J_istore_n (lv' := [(2, .int _), (0, .ref _), (1, .int _)]) dX9_tells_1 (by decide) rfl ?_
  refine J_sub [1, 0] rfl ?_
  exact jX9_tells_2 G l   FU _ _ _
theorem okX9_tells (G : Gx) (l : Launch) (l0 : Nat) (l1 : Int32) (M : Mem) : Con G l yX9_tells cX9_tells 3 (some .int) 0 0 (fun v : Int32 => some (.int v)) [.ref (adr G l0), .int l1] M (fX9_tells l0 l1 M) := con_of (own := RX9) (nm := "tells") (by decide +kernel) rfl rfl (Nat.le_of_ble_eq_true rfl) (jX9_tells G l l0 l1 M)
theorem mkX9_tells : MOk yX9_tells cX9_tells 3 (some .int) 1 := ⟨w_792, tb1 (List.mem_of_getElem? (i := 10) rfl) rfl, by decide +kernel, by decide +kernel, by decide +kernel⟩
-- X9_audit
def fX9_audit_236 (k224 : Nat → Int32 → Mem → Option (Int32 × Mem)) : Nat → Nat → Int32 → Int32 → Mem → Option (Int32 × Mem)
  | 0, _, _, _, _ => none
  | n + 1, l0, l2, l3, M => (gR M 9 22 l0 fun r1 => (rI M .int r1 l2 fun v2 => (if v2 ≤ l3 then k224 l0 (l2 + (1 : Int32)) M else (gR M 9 18 l0 fun r3 => (gR M 9 21 l0 fun r4 => (rI M .int r4 l2 fun v5 => (rI M .int r3 (v5 + l3) fun v6 => (gR M 9 19 l0 fun r7 => (gR M 9 21 l0 fun r8 => (rI M .int r8 l2 fun v9 => (rI M .int r7 (v9 + l3) fun v10 => (if v6 = v10 then fX9_audit_236 k224 n l0 l2 (l3 + (1 : Int32)) M else some (l2, M)))))))))))))
set_option maxHeartbeats 4000000 in
set_option maxRecDepth 100000 in
theorem jX9_audit_236 (G : Gx) (l : Launch) (k224 : Nat → Int32 → Mem → Option (Int32 × Mem)) (h224 : ∀ (l0 : Nat) (l2 : Int32) (M : Mem), J G l cX9_audit 4 RX9 (some .int) "audit" 5 117 (QM G (fun v : Int32 => some (.int v))) 224 [(0, .ref (adr G l0)), (2, .int l2)] [] M (k224 l0 l2 M)) : ∀ (n : Nat) (l0 : Nat) (l2 : Int32) (l3 : Int32) (M : Mem), J G l cX9_audit 4 RX9 (some .int) "audit" 5 117 (QM G (fun v : Int32 => some (.int v))) 236 [(0, .ref (adr G l0)), (2, .int l2), (3, .int l3)] [] M (fX9_audit_236 k224 n l0 l2 l3 M) := by
  intro n
  induction n with
  | zero => intro l0 l2 l3 M; exact J_none
  | succ n ih =>
    intro l0 l2 l3 M
    rw [fX9_audit_236]
    refine J_iload_n dX9_audit_236 2 rfl ?_
    refine J_aload_n dX9_audit_237 0 rfl ?_
    refine J_getR fd_9_22 w_490 rfl dX9_audit_238 (fun r1 => ?_)
    refine J_iload_n dX9_audit_241 1 rfl ?_
    refine J_iald dX9_audit_242 ?_
    refine J_icmp_ge (tgt := 283) dX9_audit_243 (by decide) ?_ ?_
    · refine J_iincK (z := 1) (lv' := [(2, .int _), (0, .ref _), (3, .int _)]) dX9_audit_283 1 rfl (by decide) (by decide) rfl ?_
      refine J_goto (tgt := 224) dX9_audit_286 (by decide) ?_
      refine J_sub [1, 0] rfl ?_
      exact h224 _ _ _
    · refine J_aload_n dX9_audit_246 0 rfl ?_
      refine J_getR fd_9_18 w_487 rfl dX9_audit_247 (fun r3 => ?_)
      refine J_aload_n dX9_audit_250 0 rfl ?_
      refine J_getR fd_9_21 w_489 rfl dX9_audit_251 (fun r4 => ?_)
      refine J_iload_n dX9_audit_254 1 rfl ?_
      refine J_iald dX9_audit_255 ?_
      refine J_iload_n dX9_audit_256 2 rfl ?_
      refine J_iadd dX9_audit_257 ?_
      refine J_iald dX9_audit_258 ?_
      refine J_aload_n dX9_audit_259 0 rfl ?_
      refine J_getR fd_9_19 w_488 rfl dX9_audit_260 (fun r7 => ?_)
      refine J_aload_n dX9_audit_263 0 rfl ?_
      refine J_getR fd_9_21 w_489 rfl dX9_audit_264 (fun r8 => ?_)
      refine J_iload_n dX9_audit_267 1 rfl ?_
      refine J_iald dX9_audit_268 ?_
      refine J_iload_n dX9_audit_269 2 rfl ?_
      refine J_iadd dX9_audit_270 ?_
      refine J_iald dX9_audit_271 ?_
      refine J_icmp_eq (tgt := 277) dX9_audit_272 (by decide) ?_ ?_
      · refine J_iincK (z := 1) (lv' := [(3, .int _), (0, .ref _), (2, .int _)]) dX9_audit_277 2 rfl (by decide) (by decide) rfl ?_
        refine J_goto (tgt := 236) dX9_audit_280 (by decide) ?_
        refine J_sub [1, 2, 0] rfl ?_
        exact ih _ _ _ _
      · refine J_iload_n dX9_audit_275 1 rfl ?_
        exact J_iret dX9_audit_276
def fX9_audit_224  : Nat → Nat → Int32 → Mem → Option (Int32 × Mem)
  | 0, _, _, _ => none
  | n + 1, l0, l2, M => (gR M 9 1 l0 fun r1 => (rI M .int r1 (0 : Int32) fun v2 => (if v2 ≤ l2 then some ((-1 : Int32), M) else fX9_audit_236 (fX9_audit_224  n) FU l0 l2 (0 : Int32) M)))
set_option maxHeartbeats 4000000 in
set_option maxRecDepth 100000 in
theorem jX9_audit_224 (G : Gx) (l : Launch)   : ∀ (n : Nat) (l0 : Nat) (l2 : Int32) (M : Mem), J G l cX9_audit 4 RX9 (some .int) "audit" 5 117 (QM G (fun v : Int32 => some (.int v))) 224 [(0, .ref (adr G l0)), (2, .int l2)] [] M (fX9_audit_224  n l0 l2 M) := by
  intro n
  induction n with
  | zero => intro l0 l2 M; exact J_none
  | succ n ih =>
    intro l0 l2 M
    rw [fX9_audit_224]
    refine J_iload_n dX9_audit_224 1 rfl ?_
    refine J_aload_n dX9_audit_225 0 rfl ?_
    refine J_getR fd_9_1 w_470 rfl dX9_audit_226 (fun r1 => ?_)
    refine J_iconst (v := 0) dX9_audit_229 (by decide) ?_
    refine J_iald dX9_audit_230 ?_
    refine J_icmp_ge (tgt := 289) dX9_audit_231 (by decide) ?_ ?_
    · refine J_iconst (v := -1) dX9_audit_289 (by decide) ?_
      exact J_iret dX9_audit_290
    · refine J_iconst (v := 0) dX9_audit_234 (by decide) ?_
      refine J_istore_n (lv' := [(3, .int _), (0, .ref _), (2, .int _)]) dX9_audit_235 (by decide) rfl ?_
      refine J_sub [1, 2, 0] rfl ?_
      exact jX9_audit_236 G l _ ih FU _ _ _ _
def fX9_audit_175 (k46 : Nat → Int32 → Mem → Option (Int32 × Mem)) (l0 : Nat) (l1 : Int32) (l2 : Int32) (l3 : Int32) (M : Mem) : Option (Int32 × Mem) := (if l3 = 0 then (gR M 9 1 l0 fun r6 => (rI M .int r6 (1 : Int32) fun v7 => some (v7, M))) else (cV M 9 l0 (fX9_does l0 (1 : Int32) M) fun v2 M1 => (pI M1 9 66 l0 l2 fun M3 => (cV M3 9 l0 (fX9_tells l0 l1 M3) fun v5 M4 => k46 l0 v5 M4))))
set_option maxHeartbeats 4000000 in
set_option maxRecDepth 100000 in
theorem jX9_audit_175 (G : Gx) (l : Launch) (k46 : Nat → Int32 → Mem → Option (Int32 × Mem)) (h46 : ∀ (l0 : Nat) (l1 : Int32) (M : Mem), J G l cX9_audit 4 RX9 (some .int) "audit" 5 117 (QM G (fun v : Int32 => some (.int v))) 46 [(0, .ref (adr G l0)), (1, .int l1)] [] M (k46 l0 l1 M)) (l0 : Nat) (l1 : Int32) (l2 : Int32) (l3 : Int32) (M : Mem) : J G l cX9_audit 4 RX9 (some .int) "audit" 5 117 (QM G (fun v : Int32 => some (.int v))) 175 [(0, .ref (adr G l0)), (1, .int l1), (2, .int l2), (3, .int l3)] [] M (fX9_audit_175 k46 l0 l1 l2 l3 M) := by
  unfold fX9_audit_175
  refine J_iload_n dX9_audit_175 3 rfl ?_
  refine J_if_ne (tgt := 186) dX9_audit_176 (by decide) ?_ ?_
  · refine J_aload_n dX9_audit_186 0 rfl ?_
    refine J_iconst (v := 1) dX9_audit_187 (by decide) ?_
    refine J_callVi (okX9_does G l _ _ _) mkX9_does _ _ rfl w_651 w_652 w_653 ⟨by decide, by decide⟩ rfl (Nat.le_of_ble_eq_true rfl) dX9_audit_188 (fun v2 M1 => ?_)
    refine J_pop dX9_audit_191 rfl ?_
    refine J_aload_n dX9_audit_192 0 rfl ?_
    refine J_iload_n dX9_audit_193 2 rfl ?_
    refine J_putI fd_9_66 w_780 dX9_audit_194 ?_
    refine J_aload_n dX9_audit_197 0 rfl ?_
    refine J_iload_n dX9_audit_198 1 rfl ?_
    refine J_callVi (okX9_tells G l _ _ _) mkX9_tells _ _ rfl w_793 w_794 w_795 ⟨by decide, by decide⟩ rfl (Nat.le_of_ble_eq_true rfl) dX9_audit_199 (fun v5 M4 => ?_)
    refine J_istore_n (lv' := [(1, .int _), (0, .ref _), (2, .int _), (3, .int _)]) dX9_audit_202 (by decide) rfl ?_
    refine J_goto (tgt := 46) dX9_audit_203 (by decide) ?_
    refine J_sub [1, 0] rfl ?_
    exact h46 _ _ _
  · refine J_aload_n dX9_audit_179 0 rfl ?_
    refine J_getR fd_9_1 w_470 rfl dX9_audit_180 (fun r6 => ?_)
    refine J_iconst (v := 1) dX9_audit_183 (by decide) ?_
    refine J_iald dX9_audit_184 ?_
    exact J_iret dX9_audit_185
def fX9_audit_174 (k46 : Nat → Int32 → Mem → Option (Int32 × Mem)) (l0 : Nat) (l1 : Int32) (l2 : Int32) (s0 : Int32) (M : Mem) : Option (Int32 × Mem) := fX9_audit_175 k46 l0 l1 l2 s0 M
set_option maxHeartbeats 4000000 in
set_option maxRecDepth 100000 in
theorem jX9_audit_174 (G : Gx) (l : Launch) (k46 : Nat → Int32 → Mem → Option (Int32 × Mem)) (h46 : ∀ (l0 : Nat) (l1 : Int32) (M : Mem), J G l cX9_audit 4 RX9 (some .int) "audit" 5 117 (QM G (fun v : Int32 => some (.int v))) 46 [(0, .ref (adr G l0)), (1, .int l1)] [] M (k46 l0 l1 M)) (l0 : Nat) (l1 : Int32) (l2 : Int32) (s0 : Int32) (M : Mem) : J G l cX9_audit 4 RX9 (some .int) "audit" 5 117 (QM G (fun v : Int32 => some (.int v))) 174 [(0, .ref (adr G l0)), (1, .int l1), (2, .int l2)] [.int s0] M (fX9_audit_174 k46 l0 l1 l2 s0 M) := by
  unfold fX9_audit_174
  refine J_istore_n (lv' := [(3, .int _), (0, .ref _), (1, .int _), (2, .int _)]) dX9_audit_174 (by decide) rfl ?_
  refine J_sub [1, 2, 3, 0] rfl ?_
  exact jX9_audit_175 G l _ h46 _ _ _ _ _
def fX9_audit_173 (k46 : Nat → Int32 → Mem → Option (Int32 × Mem)) (l0 : Nat) (l1 : Int32) (l2 : Int32) (M : Mem) : Option (Int32 × Mem) := fX9_audit_174 k46 l0 l1 l2 (0 : Int32) M
set_option maxHeartbeats 4000000 in
set_option maxRecDepth 100000 in
theorem jX9_audit_173 (G : Gx) (l : Launch) (k46 : Nat → Int32 → Mem → Option (Int32 × Mem)) (h46 : ∀ (l0 : Nat) (l1 : Int32) (M : Mem), J G l cX9_audit 4 RX9 (some .int) "audit" 5 117 (QM G (fun v : Int32 => some (.int v))) 46 [(0, .ref (adr G l0)), (1, .int l1)] [] M (k46 l0 l1 M)) (l0 : Nat) (l1 : Int32) (l2 : Int32) (M : Mem) : J G l cX9_audit 4 RX9 (some .int) "audit" 5 117 (QM G (fun v : Int32 => some (.int v))) 173 [(0, .ref (adr G l0)), (1, .int l1), (2, .int l2)] [] M (fX9_audit_173 k46 l0 l1 l2 M) := by
  unfold fX9_audit_173
  refine J_iconst (v := 0) dX9_audit_173 (by decide) ?_
  refine J_sub [0, 1, 2] rfl ?_
  exact jX9_audit_174 G l _ h46 _ _ _ _ _
def fX9_audit_169 (k46 : Nat → Int32 → Mem → Option (Int32 × Mem)) (l0 : Nat) (l1 : Int32) (l2 : Int32) (M : Mem) : Option (Int32 × Mem) := fX9_audit_174 k46 l0 l1 l2 (1 : Int32) M
set_option maxHeartbeats 4000000 in
set_option maxRecDepth 100000 in
theorem jX9_audit_169 (G : Gx) (l : Launch) (k46 : Nat → Int32 → Mem → Option (Int32 × Mem)) (h46 : ∀ (l0 : Nat) (l1 : Int32) (M : Mem), J G l cX9_audit 4 RX9 (some .int) "audit" 5 117 (QM G (fun v : Int32 => some (.int v))) 46 [(0, .ref (adr G l0)), (1, .int l1)] [] M (k46 l0 l1 M)) (l0 : Nat) (l1 : Int32) (l2 : Int32) (M : Mem) : J G l cX9_audit 4 RX9 (some .int) "audit" 5 117 (QM G (fun v : Int32 => some (.int v))) 169 [(0, .ref (adr G l0)), (1, .int l1), (2, .int l2)] [] M (fX9_audit_169 k46 l0 l1 l2 M) := by
  unfold fX9_audit_169
  refine J_iconst (v := 1) dX9_audit_169 (by decide) ?_
  refine J_goto (tgt := 174) dX9_audit_170 (by decide) ?_
  refine J_sub [0, 1, 2] rfl ?_
  exact jX9_audit_174 G l _ h46 _ _ _ _ _
def fX9_audit_142 (k46 : Nat → Int32 → Mem → Option (Int32 × Mem)) (l0 : Nat) (l1 : Int32) (l2 : Int32) (s0 : Int32) (M : Mem) : Option (Int32 × Mem) := fX9_audit_175 k46 l0 l1 l2 s0 M
set_option maxHeartbeats 4000000 in
set_option maxRecDepth 100000 in
theorem jX9_audit_142 (G : Gx) (l : Launch) (k46 : Nat → Int32 → Mem → Option (Int32 × Mem)) (h46 : ∀ (l0 : Nat) (l1 : Int32) (M : Mem), J G l cX9_audit 4 RX9 (some .int) "audit" 5 117 (QM G (fun v : Int32 => some (.int v))) 46 [(0, .ref (adr G l0)), (1, .int l1)] [] M (k46 l0 l1 M)) (l0 : Nat) (l1 : Int32) (l2 : Int32) (s0 : Int32) (M : Mem) : J G l cX9_audit 4 RX9 (some .int) "audit" 5 117 (QM G (fun v : Int32 => some (.int v))) 142 [(0, .ref (adr G l0)), (1, .int l1), (2, .int l2)] [.int s0] M (fX9_audit_142 k46 l0 l1 l2 s0 M) := by
  unfold fX9_audit_142
  refine J_istore_n (lv' := [(3, .int _), (0, .ref _), (1, .int _), (2, .int _)]) dX9_audit_142 (by decide) rfl ?_
  refine J_goto (tgt := 175) dX9_audit_143 (by decide) ?_
  refine J_sub [1, 2, 3, 0] rfl ?_
  exact jX9_audit_175 G l _ h46 _ _ _ _ _
def fX9_audit_141 (k46 : Nat → Int32 → Mem → Option (Int32 × Mem)) (l0 : Nat) (l1 : Int32) (l2 : Int32) (M : Mem) : Option (Int32 × Mem) := fX9_audit_142 k46 l0 l1 l2 (0 : Int32) M
set_option maxHeartbeats 4000000 in
set_option maxRecDepth 100000 in
theorem jX9_audit_141 (G : Gx) (l : Launch) (k46 : Nat → Int32 → Mem → Option (Int32 × Mem)) (h46 : ∀ (l0 : Nat) (l1 : Int32) (M : Mem), J G l cX9_audit 4 RX9 (some .int) "audit" 5 117 (QM G (fun v : Int32 => some (.int v))) 46 [(0, .ref (adr G l0)), (1, .int l1)] [] M (k46 l0 l1 M)) (l0 : Nat) (l1 : Int32) (l2 : Int32) (M : Mem) : J G l cX9_audit 4 RX9 (some .int) "audit" 5 117 (QM G (fun v : Int32 => some (.int v))) 141 [(0, .ref (adr G l0)), (1, .int l1), (2, .int l2)] [] M (fX9_audit_141 k46 l0 l1 l2 M) := by
  unfold fX9_audit_141
  refine J_iconst (v := 0) dX9_audit_141 (by decide) ?_
  refine J_sub [0, 1, 2] rfl ?_
  exact jX9_audit_142 G l _ h46 _ _ _ _ _
def fX9_audit_121 (k46 : Nat → Int32 → Mem → Option (Int32 × Mem)) (l0 : Nat) (l1 : Int32) (l2 : Int32) (M : Mem) : Option (Int32 × Mem) := (gR M 9 4 l0 fun r1 => (rI M .boolean r1 (1 : Int32) fun v2 => (if v2 = 0 then fX9_audit_141 k46 l0 l1 l2 M else (cV M 9 l0 (fX9_isTrial l0 M) fun v4 M3 => (if v4 = 0 then fX9_audit_141 k46 l0 l1 l2 M3 else fX9_audit_142 k46 l0 l1 l2 (1 : Int32) M3)))))
set_option maxHeartbeats 4000000 in
set_option maxRecDepth 100000 in
theorem jX9_audit_121 (G : Gx) (l : Launch) (k46 : Nat → Int32 → Mem → Option (Int32 × Mem)) (h46 : ∀ (l0 : Nat) (l1 : Int32) (M : Mem), J G l cX9_audit 4 RX9 (some .int) "audit" 5 117 (QM G (fun v : Int32 => some (.int v))) 46 [(0, .ref (adr G l0)), (1, .int l1)] [] M (k46 l0 l1 M)) (l0 : Nat) (l1 : Int32) (l2 : Int32) (M : Mem) : J G l cX9_audit 4 RX9 (some .int) "audit" 5 117 (QM G (fun v : Int32 => some (.int v))) 121 [(0, .ref (adr G l0)), (1, .int l1), (2, .int l2)] [] M (fX9_audit_121 k46 l0 l1 l2 M) := by
  unfold fX9_audit_121
  refine J_aload_n dX9_audit_121 0 rfl ?_
  refine J_getR fd_9_4 w_473 rfl dX9_audit_122 (fun r1 => ?_)
  refine J_iconst (v := 1) dX9_audit_125 (by decide) ?_
  refine J_zald dX9_audit_126 ?_
  refine J_if_eq (tgt := 141) dX9_audit_127 (by decide) ?_ ?_
  · refine J_sub [0, 1, 2] rfl ?_
    exact jX9_audit_141 G l _ h46 _ _ _ _
  · refine J_aload_n dX9_audit_130 0 rfl ?_
    refine J_callVi (okX9_isTrial G l _ _) mkX9_isTrial _ _ rfl w_796 w_797 w_798 ⟨by decide, by decide⟩ rfl (Nat.le_of_ble_eq_true rfl) dX9_audit_131 (fun v4 M3 => ?_)
    refine J_if_eq (tgt := 141) dX9_audit_134 (by decide) ?_ ?_
    · refine J_sub [0, 1, 2] rfl ?_
      exact jX9_audit_141 G l _ h46 _ _ _ _
    · refine J_iconst (v := 1) dX9_audit_137 (by decide) ?_
      refine J_goto (tgt := 142) dX9_audit_138 (by decide) ?_
      refine J_sub [0, 1, 2] rfl ?_
      exact jX9_audit_142 G l _ h46 _ _ _ _ _
def fX9_audit_91  (l0 : Nat) (M : Mem) : Option (Int32 × Mem) := (gR M 9 1 l0 fun r1 => (rI M .int r1 (1 : Int32) fun v2 => some (v2, M)))
set_option maxHeartbeats 4000000 in
set_option maxRecDepth 100000 in
theorem jX9_audit_91 (G : Gx) (l : Launch)   (l0 : Nat) (M : Mem) : J G l cX9_audit 4 RX9 (some .int) "audit" 5 117 (QM G (fun v : Int32 => some (.int v))) 91 [(0, .ref (adr G l0))] [] M (fX9_audit_91  l0 M) := by
  unfold fX9_audit_91
  refine J_aload_n dX9_audit_91 0 rfl ?_
  refine J_getR fd_9_1 w_470 rfl dX9_audit_92 (fun r1 => ?_)
  refine J_iconst (v := 1) dX9_audit_95 (by decide) ?_
  refine J_iald dX9_audit_96 ?_
  exact J_iret dX9_audit_97
def fX9_audit_46  : Nat → Nat → Int32 → Mem → Option (Int32 × Mem)
  | 0, _, _, _ => none
  | n + 1, l0, l1, M => (gI M 9 66 l0 fun v1 => (gI M 9 20 l0 fun v2 => (if v2 ≤ v1 then (gR M 9 4 l0 fun r3 => (rI M .boolean r3 (1 : Int32) fun v4 => (if v4 = 0 then fX9_audit_224  FU l0 (0 : Int32) M else (gR M 9 1 l0 fun r5 => (rI M .int r5 (1 : Int32) fun v6 => some (v6, M)))))) else (gI M 9 66 l0 fun v7 => (gI M 9 66 l0 fun v8 => (cV M 9 l0 (fX9_sizeOf l0 v8 M) fun v10 M9 => (gI M9 9 20 l0 fun v11 => (if v11 < (v7 + v10) then fX9_audit_91  l0 M9 else (gR M9 9 1 l0 fun r12 => (rI M9 .int r12 (1 : Int32) fun v13 => (if v13 = (200 : Int32) then fX9_audit_91  l0 M9 else (gR M9 9 4 l0 fun r14 => (rI M9 .boolean r14 (1 : Int32) fun v15 => (if v15 = 0 then (gR M9 9 18 l0 fun r16 => (gI M9 9 66 l0 fun v17 => (rI M9 .int r16 v17 fun v18 => (if v18 = (7 : Int32) then fX9_audit_121 (fX9_audit_46  n) l0 l1 (v7 + v10) M9 else (cV M9 9 l0 (fX9_reads l0 M9) fun v20 M19 => (if v20 = 0 then fX9_audit_173 (fX9_audit_46  n) l0 l1 (v7 + v10) M19 else (gI M19 9 26 l0 fun v21 => (if v21 = (1 : Int32) then fX9_audit_169 (fX9_audit_46  n) l0 l1 (v7 + v10) M19 else (cV M19 9 l0 (fX9_refused l0 (1 : Int32) M19) fun v23 M22 => (if v23 = 0 then fX9_audit_169 (fX9_audit_46  n) l0 l1 (v7 + v10) M22 else fX9_audit_173 (fX9_audit_46  n) l0 l1 (v7 + v10) M22)))))))))) else fX9_audit_121 (fX9_audit_46  n) l0 l1 (v7 + v10) M9))))))))))))))
set_option maxHeartbeats 4000000 in
set_option maxRecDepth 100000 in
theorem jX9_audit_46 (G : Gx) (l : Launch)   : ∀ (n : Nat) (l0 : Nat) (l1 : Int32) (M : Mem), J G l cX9_audit 4 RX9 (some .int) "audit" 5 117 (QM G (fun v : Int32 => some (.int v))) 46 [(0, .ref (adr G l0)), (1, .int l1)] [] M (fX9_audit_46  n l0 l1 M) := by
  intro n
  induction n with
  | zero => intro l0 l1 M; exact J_none
  | succ n ih =>
    intro l0 l1 M
    rw [fX9_audit_46]
    refine J_aload_n dX9_audit_46 0 rfl ?_
    refine J_getI fd_9_66 w_780 rfl dX9_audit_47 ?_
    refine J_aload_n dX9_audit_50 0 rfl ?_
    refine J_getI fd_9_20 w_640 rfl dX9_audit_51 ?_
    refine J_icmp_ge (tgt := 206) dX9_audit_54 (by decide) ?_ ?_
    · refine J_aload_n dX9_audit_206 0 rfl ?_
      refine J_getR fd_9_4 w_473 rfl dX9_audit_207 (fun r3 => ?_)
      refine J_iconst (v := 1) dX9_audit_210 (by decide) ?_
      refine J_zald dX9_audit_211 ?_
      refine J_if_eq (tgt := 222) dX9_audit_212 (by decide) ?_ ?_
      · refine J_iconst (v := 0) dX9_audit_222 (by decide) ?_
        refine J_istore_n (lv' := [(2, .int _), (0, .ref _), (1, .int _)]) dX9_audit_223 (by decide) rfl ?_
        refine J_sub [1, 0] rfl ?_
        exact jX9_audit_224 G l   FU _ _ _
      · refine J_aload_n dX9_audit_215 0 rfl ?_
        refine J_getR fd_9_1 w_470 rfl dX9_audit_216 (fun r5 => ?_)
        refine J_iconst (v := 1) dX9_audit_219 (by decide) ?_
        refine J_iald dX9_audit_220 ?_
        exact J_iret dX9_audit_221
    · refine J_aload_n dX9_audit_57 0 rfl ?_
      refine J_getI fd_9_66 w_780 rfl dX9_audit_58 ?_
      refine J_aload_n dX9_audit_61 0 rfl ?_
      refine J_aload_n dX9_audit_62 0 rfl ?_
      refine J_getI fd_9_66 w_780 rfl dX9_audit_63 ?_
      refine J_callVi (okX9_sizeOf G l _ _ _) mkX9_sizeOf _ _ rfl w_799 w_800 w_801 ⟨by decide, by decide⟩ rfl (Nat.le_of_ble_eq_true rfl) dX9_audit_66 (fun v10 M9 => ?_)
      refine J_iadd dX9_audit_69 ?_
      refine J_istore_n (lv' := [(2, .int _), (0, .ref _), (1, .int _)]) dX9_audit_70 (by decide) rfl ?_
      refine J_iload_n dX9_audit_71 0 rfl ?_
      refine J_aload_n dX9_audit_72 1 rfl ?_
      refine J_getI fd_9_20 w_640 rfl dX9_audit_73 ?_
      refine J_icmp_gt (tgt := 91) dX9_audit_76 (by decide) ?_ ?_
      · refine J_sub [1] rfl ?_
        exact jX9_audit_91 G l   _ _
      · refine J_aload_n dX9_audit_79 1 rfl ?_
        refine J_getR fd_9_1 w_470 rfl dX9_audit_80 (fun r12 => ?_)
        refine J_iconst (v := 1) dX9_audit_83 (by decide) ?_
        refine J_iald dX9_audit_84 ?_
        refine J_sipush (v := 200) dX9_audit_85 (by decide) ?_
        refine J_icmp_ne (tgt := 98) dX9_audit_88 (by decide) ?_ ?_
        · refine J_aload_n dX9_audit_98 1 rfl ?_
          refine J_getR fd_9_4 w_473 rfl dX9_audit_99 (fun r14 => ?_)
          refine J_iconst (v := 1) dX9_audit_102 (by decide) ?_
          refine J_zald dX9_audit_103 ?_
          refine J_if_ne (tgt := 121) dX9_audit_104 (by decide) ?_ ?_
          · refine J_sub [1, 2, 0] rfl ?_
            exact jX9_audit_121 G l _ ih _ _ _ _
          · refine J_aload_n dX9_audit_107 1 rfl ?_
            refine J_getR fd_9_18 w_487 rfl dX9_audit_108 (fun r16 => ?_)
            refine J_aload_n dX9_audit_111 1 rfl ?_
            refine J_getI fd_9_66 w_780 rfl dX9_audit_112 ?_
            refine J_iald dX9_audit_115 ?_
            refine J_bipush (v := 7) dX9_audit_116 (by decide) ?_
            refine J_icmp_ne (tgt := 146) dX9_audit_118 (by decide) ?_ ?_
            · refine J_aload_n dX9_audit_146 1 rfl ?_
              refine J_callVi (okX9_reads G l _ _) mkX9_reads _ _ rfl w_802 w_803 w_804 ⟨by decide, by decide⟩ rfl (Nat.le_of_ble_eq_true rfl) dX9_audit_147 (fun v20 M19 => ?_)
              refine J_if_eq (tgt := 173) dX9_audit_150 (by decide) ?_ ?_
              · refine J_sub [1, 2, 0] rfl ?_
                exact jX9_audit_173 G l _ ih _ _ _ _
              · refine J_aload_n dX9_audit_153 1 rfl ?_
                refine J_getI fd_9_26 w_581 rfl dX9_audit_154 ?_
                refine J_iconst (v := 1) dX9_audit_157 (by decide) ?_
                refine J_icmp_eq (tgt := 169) dX9_audit_158 (by decide) ?_ ?_
                · refine J_sub [1, 2, 0] rfl ?_
                  exact jX9_audit_169 G l _ ih _ _ _ _
                · refine J_aload_n dX9_audit_161 1 rfl ?_
                  refine J_iconst (v := 1) dX9_audit_162 (by decide) ?_
                  refine J_callVi (okX9_refused G l _ _ _) mkX9_refused _ _ rfl w_645 w_646 w_647 ⟨by decide, by decide⟩ rfl (Nat.le_of_ble_eq_true rfl) dX9_audit_163 (fun v23 M22 => ?_)
                  refine J_if_ne (tgt := 173) dX9_audit_166 (by decide) ?_ ?_
                  · refine J_sub [1, 2, 0] rfl ?_
                    exact jX9_audit_173 G l _ ih _ _ _ _
                  · refine J_sub [1, 2, 0] rfl ?_
                    exact jX9_audit_169 G l _ ih _ _ _ _
            · refine J_sub [1, 2, 0] rfl ?_
              exact jX9_audit_121 G l _ ih _ _ _ _
        · refine J_sub [1] rfl ?_
          exact jX9_audit_91 G l   _ _
def fX9_audit (l0 : Nat) (M : Mem) : Option (Int32 × Mem) := (gR M 9 0 l0 fun r1 => (wI M .int r1 (1 : Int32) (0 : Int32) fun M2 => (gR M2 9 1 l0 fun r3 => (wI M2 .int r3 (1 : Int32) (0 : Int32) fun M4 => (gR M4 9 2 l0 fun r5 => (wI M4 .int r5 (1 : Int32) (0 : Int32) fun M6 => (gR M6 9 3 l0 fun r7 => (wI M6 .int r7 (1 : Int32) (0 : Int32) fun M8 => (gR M8 9 4 l0 fun r9 => (wI M8 .boolean r9 (1 : Int32) (0 : Int32) fun M10 => (pI M10 9 66 l0 (0 : Int32) fun M11 => (cV M11 9 l0 (fX9_tells l0 (0 : Int32) M11) fun v13 M12 => fX9_audit_46  FU l0 v13 M12))))))))))))
set_option maxHeartbeats 4000000 in
set_option maxRecDepth 100000 in
theorem jX9_audit (G : Gx) (l : Launch) (l0 : Nat) (M : Mem) : J G l cX9_audit 4 RX9 (some .int) "audit" 5 117 (QM G (fun v : Int32 => some (.int v))) 0 [(0, .ref (adr G l0))] [] M (fX9_audit l0 M) := by
  unfold fX9_audit
  refine J_aload_n dX9_audit_0 0 rfl ?_
  refine J_getR fd_9_0 w_469 rfl dX9_audit_1 (fun r1 => ?_)
  refine J_iconst (v := 1) dX9_audit_4 (by decide) ?_
  refine J_iconst (v := 0) dX9_audit_5 (by decide) ?_
  refine J_iast dX9_audit_6 ?_
  refine J_aload_n dX9_audit_7 0 rfl ?_
  refine J_getR fd_9_1 w_470 rfl dX9_audit_8 (fun r3 => ?_)
  refine J_iconst (v := 1) dX9_audit_11 (by decide) ?_
  refine J_iconst (v := 0) dX9_audit_12 (by decide) ?_
  refine J_iast dX9_audit_13 ?_
  refine J_aload_n dX9_audit_14 0 rfl ?_
  refine J_getR fd_9_2 w_471 rfl dX9_audit_15 (fun r5 => ?_)
  refine J_iconst (v := 1) dX9_audit_18 (by decide) ?_
  refine J_iconst (v := 0) dX9_audit_19 (by decide) ?_
  refine J_iast dX9_audit_20 ?_
  refine J_aload_n dX9_audit_21 0 rfl ?_
  refine J_getR fd_9_3 w_472 rfl dX9_audit_22 (fun r7 => ?_)
  refine J_iconst (v := 1) dX9_audit_25 (by decide) ?_
  refine J_iconst (v := 0) dX9_audit_26 (by decide) ?_
  refine J_iast dX9_audit_27 ?_
  refine J_aload_n dX9_audit_28 0 rfl ?_
  refine J_getR fd_9_4 w_473 rfl dX9_audit_29 (fun r9 => ?_)
  refine J_iconst (v := 1) dX9_audit_32 (by decide) ?_
  refine J_iconst (v := 0) dX9_audit_33 (by decide) ?_
  refine J_zast dX9_audit_34 ?_
  refine J_aload_n dX9_audit_35 0 rfl ?_
  refine J_iconst (v := 0) dX9_audit_36 (by decide) ?_
  refine J_putI fd_9_66 w_780 dX9_audit_37 ?_
  refine J_aload_n dX9_audit_40 0 rfl ?_
  refine J_iconst (v := 0) dX9_audit_41 (by decide) ?_
  refine J_callVi (okX9_tells G l _ _ _) mkX9_tells _ _ rfl w_793 w_794 w_795 ⟨by decide, by decide⟩ rfl (Nat.le_of_ble_eq_true rfl) dX9_audit_42 (fun v13 M12 => ?_)
  refine J_istore_n (lv' := [(1, .int _), (0, .ref _)]) dX9_audit_45 (by decide) rfl ?_
  refine J_sub [1, 0] rfl ?_
  exact jX9_audit_46 G l   FU _ _ _
theorem okX9_audit (G : Gx) (l : Launch) (l0 : Nat) (M : Mem) : Con G l yX9_audit cX9_audit 4 (some .int) 5 117 (fun v : Int32 => some (.int v)) [.ref (adr G l0)] M (fX9_audit l0 M) := con_of (own := RX9) (nm := "audit") (by decide +kernel) rfl rfl (Nat.le_of_ble_eq_true rfl) (jX9_audit G l l0 M)
theorem mkX9_audit : MOk yX9_audit cX9_audit 4 (some .int) 0 := ⟨w_805, tb1 (List.mem_of_getElem? (i := 10) rfl) rfl, by decide +kernel, by decide +kernel, by decide +kernel⟩
