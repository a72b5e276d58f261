-- X8_isBelow
def fX8_isBelow_19  (s0 : Int32) (M : Mem) : Option (Int32 × Mem) := retZ s0 (some (s0, M))
set_option maxHeartbeats 4000000 in
set_option maxRecDepth 100000 in
theorem jX8_isBelow_19 (G : Gx) (l : Launch)   (s0 : Int32) (M : Mem) : J G l cX8_isBelow 4 RX8 (some .boolean) "isBelow" 0 0 (QM G (fun v : Int32 => some (.int v))) 19 [] [.int s0] M (fX8_isBelow_19  s0 M) := by
  unfold fX8_isBelow_19
  exact J_zret dX8_isBelow_19
def fX8_isBelow (l0 : Int64) (l2 : Int64) (M : Mem) : Option (Int32 × Mem) := (if (l2 ^^^ (-9223372036854775808 : Int64)) ≤ (l0 ^^^ (-9223372036854775808 : Int64)) then fX8_isBelow_19  (0 : Int32) M else fX8_isBelow_19  (1 : Int32) M)
set_option maxHeartbeats 4000000 in
set_option maxRecDepth 100000 in
theorem jX8_isBelow (G : Gx) (l : Launch) (l0 : Int64) (l2 : Int64) (M : Mem) : J G l cX8_isBelow 4 RX8 (some .boolean) "isBelow" 0 0 (QM G (fun v : Int32 => some (.int v))) 0 [(0, .long l0), (2, .long l2)] [] M (fX8_isBelow l0 l2 M) := by
  unfold fX8_isBelow
  refine J_lload_n dX8_isBelow_0 0 rfl ?_
  refine J_ldc2 (v := -9223372036854775808) dX8_isBelow_1 w_116 ?_
  refine J_lxor dX8_isBelow_4 ?_
  refine J_lload_n dX8_isBelow_5 1 rfl ?_
  refine J_ldc2 (v := -9223372036854775808) dX8_isBelow_6 w_116 ?_
  refine J_lxor dX8_isBelow_9 ?_
  refine J_lcmp_ge (tgt := 18) dX8_isBelow_10 dX8_isBelow_11 (by decide) ?_ ?_
  · refine J_iconst (v := 0) dX8_isBelow_18 (by decide) ?_
    refine J_sub [] rfl ?_
    exact jX8_isBelow_19 G l   _ _
  · refine J_iconst (v := 1) dX8_isBelow_14 (by decide) ?_
    refine J_goto (tgt := 19) dX8_isBelow_15 (by decide) ?_
    refine J_sub [] rfl ?_
    exact jX8_isBelow_19 G l   _ _
theorem okX8_isBelow (G : Gx) (l : Launch) (l0 : Int64) (l2 : Int64) (M : Mem) : Con G l yX8_isBelow cX8_isBelow 4 (some .boolean) 0 0 (fun v : Int32 => some (.int v)) [.long l0, .long l2] M (fX8_isBelow l0 l2 M) := con_of (own := RX8) (nm := "isBelow") (by decide +kernel) rfl rfl (Nat.le_of_ble_eq_true rfl) (jX8_isBelow G l l0 l2 M)
theorem mkX8_isBelow : MOk yX8_isBelow cX8_isBelow 4 (some .boolean) 2 := ⟨w_117, tb1 (List.mem_of_getElem? (i := 1) rfl) rfl, by decide +kernel, by decide +kernel, by decide +kernel⟩
-- X3_weigh
def fX3_weigh_213  (s0 : Int32) (M : Mem) : Option (Int32 × Mem) := some (s0, M)
set_option maxHeartbeats 4000000 in
set_option maxRecDepth 100000 in
theorem jX3_weigh_213 (G : Gx) (l : Launch)   (s0 : Int32) (M : Mem) : J G l cX3_weigh 10 RX3 (some .int) "weigh" 1 23 (QM G (fun v : Int32 => some (.int v))) 213 [] [.int s0] M (fX3_weigh_213  s0 M) := by
  unfold fX3_weigh_213
  exact J_iret dX3_weigh_213
def fX3_weigh_188   (M : Mem) : Option (Int32 × Mem) := some ((-6 : Int32), M)
set_option maxHeartbeats 4000000 in
set_option maxRecDepth 100000 in
theorem jX3_weigh_188 (G : Gx) (l : Launch)    (M : Mem) : J G l cX3_weigh 10 RX3 (some .int) "weigh" 1 23 (QM G (fun v : Int32 => some (.int v))) 188 [] [] M (fX3_weigh_188   M) := by
  unfold fX3_weigh_188
  refine J_bipush (v := -6) dX3_weigh_188 (by decide) ?_
  exact J_iret dX3_weigh_190
def fX3_weigh_145 (k102 : Nat → Nat → Int32 → Int64 → Int32 → Mem → Option (Int32 × Mem)) (l0 : Nat) (l1 : Nat) (l2 : Int32) (l3 : Int64) (l5 : Int32) (l6 : Int32) (s0 : Int64) (M : Mem) : Option (Int32 × Mem) := (gR M 3 3 l0 fun r1 => (rJ M r1 l6 fun v2 => (gR M 3 0 l0 fun r3 => (rJ M r3 l6 fun v4 => (if v2 < v4 then fX3_weigh_188   M else (gR M 3 3 l0 fun r5 => (rJ M r5 l6 fun v6 => (gR M 3 0 l0 fun r7 => (rJ M r7 l6 fun v8 => (bd (fX8_isBelow (v6 - v8) s0 M) fun v10 M9 => (if v10 = 0 then k102 l0 l1 l2 l3 (l5 + (1 : Int32)) M9 else fX3_weigh_188   M9)))))))))))
set_option maxHeartbeats 4000000 in
set_option maxRecDepth 100000 in
theorem jX3_weigh_145 (G : Gx) (l : Launch) (k102 : Nat → Nat → Int32 → Int64 → Int32 → Mem → Option (Int32 × Mem)) (h102 : ∀ (l0 : Nat) (l1 : Nat) (l2 : Int32) (l3 : Int64) (l5 : Int32) (M : Mem), J G l cX3_weigh 10 RX3 (some .int) "weigh" 1 23 (QM G (fun v : Int32 => some (.int v))) 102 [(0, .ref (adr G l0)), (1, .ref (adr G l1)), (2, .int l2), (3, .long l3), (5, .int l5)] [] M (k102 l0 l1 l2 l3 l5 M)) (l0 : Nat) (l1 : Nat) (l2 : Int32) (l3 : Int64) (l5 : Int32) (l6 : Int32) (s0 : Int64) (M : Mem) : J G l cX3_weigh 10 RX3 (some .int) "weigh" 1 23 (QM G (fun v : Int32 => some (.int v))) 145 [(0, .ref (adr G l0)), (1, .ref (adr G l1)), (2, .int l2), (3, .long l3), (5, .int l5), (6, .int l6)] [.long s0] M (fX3_weigh_145 k102 l0 l1 l2 l3 l5 l6 s0 M) := by
  unfold fX3_weigh_145
  refine J_lstore (lv' := [(7, .long _), (0, .ref _), (1, .ref _), (2, .int _), (3, .long _), (5, .int _), (6, .int _)]) dX3_weigh_145 (by decide) rfl ?_
  refine J_aload_n dX3_weigh_147 1 rfl ?_
  refine J_getR fd_3_3 w_9 rfl dX3_weigh_148 (fun r1 => ?_)
  refine J_iload dX3_weigh_151 6 rfl ?_
  refine J_lald dX3_weigh_153 ?_
  refine J_aload_n dX3_weigh_154 1 rfl ?_
  refine J_getR fd_3_0 w_6 rfl dX3_weigh_155 (fun r3 => ?_)
  refine J_iload dX3_weigh_158 6 rfl ?_
  refine J_lald dX3_weigh_160 ?_
  refine J_lcmp_lt (tgt := 188) dX3_weigh_161 dX3_weigh_162 (by decide) ?_ ?_
  · refine J_sub [] rfl ?_
    exact jX3_weigh_188 G l    _
  · refine J_aload_n dX3_weigh_165 1 rfl ?_
    refine J_getR fd_3_3 w_9 rfl dX3_weigh_166 (fun r5 => ?_)
    refine J_iload dX3_weigh_169 6 rfl ?_
    refine J_lald dX3_weigh_171 ?_
    refine J_aload_n dX3_weigh_172 1 rfl ?_
    refine J_getR fd_3_0 w_6 rfl dX3_weigh_173 (fun r7 => ?_)
    refine J_iload dX3_weigh_176 6 rfl ?_
    refine J_lald dX3_weigh_178 ?_
    refine J_lsub dX3_weigh_179 ?_
    refine J_lload dX3_weigh_180 0 rfl ?_
    refine J_callSNi (host := "ChainBooks") (okX8_isBelow G l _ _ _) mkX8_isBelow (List.mem_of_getElem? (i := 13) rfl) w_118 ⟨by decide, by decide⟩ rfl (Nat.le_of_ble_eq_true rfl) dX3_weigh_182 (fun v10 M9 => ?_)
    refine J_if_eq (tgt := 191) dX3_weigh_185 (by decide) ?_ ?_
    · refine J_iincK (z := 1) (lv' := [(5, .int _), (7, .long _), (0, .ref _), (1, .ref _), (2, .int _), (3, .long _), (6, .int _)]) dX3_weigh_191 5 rfl (by decide) (by decide) rfl ?_
      refine J_goto (tgt := 102) dX3_weigh_194 (by decide) ?_
      refine J_sub [2, 3, 4, 5, 0] rfl ?_
      exact h102 _ _ _ _ _ _
    · refine J_sub [] rfl ?_
      exact jX3_weigh_188 G l    _
def fX3_weigh_102  : Nat → Nat → Nat → Int32 → Int64 → Int32 → Mem → Option (Int32 × Mem)
  | 0, _, _, _, _, _, _ => none
  | n + 1, l0, l1, l2, l3, l5, M => (gI M 4 2 l1 fun v1 => (if v1 ≤ l5 then (gI M 3 12 l0 fun v2 => (if v2 < (200 : Int32) then fX3_weigh_213  (0 : Int32) M else fX3_weigh_213  (-8 : Int32) M)) else (gR M 4 0 l1 fun r3 => (rI M .int r3 l5 fun v4 => (if v4 = l2 then (gR M 3 2 l0 fun r7 => (rJ M r7 v4 fun v8 => fX3_weigh_145 (fX3_weigh_102  n) l0 l1 l2 l3 l5 v4 (v8 - l3) M)) else (gR M 3 2 l0 fun r5 => (rJ M r5 v4 fun v6 => fX3_weigh_145 (fX3_weigh_102  n) l0 l1 l2 l3 l5 v4 v6 M)))))))
set_option maxHeartbeats 4000000 in
set_option maxRecDepth 100000 in
theorem jX3_weigh_102 (G : Gx) (l : Launch)   : ∀ (n : Nat) (l0 : Nat) (l1 : Nat) (l2 : Int32) (l3 : Int64) (l5 : Int32) (M : Mem), J G l cX3_weigh 10 RX3 (some .int) "weigh" 1 23 (QM G (fun v : Int32 => some (.int v))) 102 [(0, .ref (adr G l0)), (1, .ref (adr G l1)), (2, .int l2), (3, .long l3), (5, .int l5)] [] M (fX3_weigh_102  n l0 l1 l2 l3 l5 M) := by
  intro n
  induction n with
  | zero => intro l0 l1 l2 l3 l5 M; exact J_none
  | succ n ih =>
    intro l0 l1 l2 l3 l5 M
    rw [fX3_weigh_102]
    refine J_iload dX3_weigh_102 4 rfl ?_
    refine J_aload_n dX3_weigh_104 1 rfl ?_
    refine J_getI fd_4_2 w_97 rfl dX3_weigh_105 ?_
    refine J_icmp_ge (tgt := 197) dX3_weigh_108 (by decide) ?_ ?_
    · refine J_aload_n dX3_weigh_197 0 rfl ?_
      refine J_getI fd_3_12 w_58 rfl dX3_weigh_198 ?_
      refine J_sipush (v := 200) dX3_weigh_201 (by decide) ?_
      refine J_icmp_lt (tgt := 212) dX3_weigh_204 (by decide) ?_ ?_
      · refine J_iconst (v := 0) dX3_weigh_212 (by decide) ?_
        refine J_sub [] rfl ?_
        exact jX3_weigh_213 G l   _ _
      · refine J_bipush (v := -8) dX3_weigh_207 (by decide) ?_
        refine J_goto (tgt := 213) dX3_weigh_209 (by decide) ?_
        refine J_sub [] rfl ?_
        exact jX3_weigh_213 G l   _ _
    · refine J_aload_n dX3_weigh_111 1 rfl ?_
      refine J_getR fd_4_0 w_106 rfl dX3_weigh_112 (fun r3 => ?_)
      refine J_iload dX3_weigh_115 4 rfl ?_
      refine J_iald dX3_weigh_117 ?_
      refine J_istore (lv' := [(6, .int _), (0, .ref _), (1, .ref _), (2, .int _), (3, .long _), (5, .int _)]) dX3_weigh_118 (by decide) rfl ?_
      refine J_iload dX3_weigh_120 0 rfl ?_
      refine J_iload_n dX3_weigh_122 3 rfl ?_
      refine J_icmp_ne (tgt := 138) dX3_weigh_123 (by decide) ?_ ?_
      · refine J_aload_n dX3_weigh_138 1 rfl ?_
        refine J_getR fd_3_2 w_8 rfl dX3_weigh_139 (fun r5 => ?_)
        refine J_iload dX3_weigh_142 0 rfl ?_
        refine J_lald dX3_weigh_144 ?_
        refine J_sub [1, 2, 3, 4, 5, 0] rfl ?_
        exact jX3_weigh_145 G l _ ih _ _ _ _ _ _ _ _
      · refine J_aload_n dX3_weigh_126 1 rfl ?_
        refine J_getR fd_3_2 w_8 rfl dX3_weigh_127 (fun r7 => ?_)
        refine J_iload dX3_weigh_130 0 rfl ?_
        refine J_lald dX3_weigh_132 ?_
        refine J_lload_n dX3_weigh_133 4 rfl ?_
        refine J_lsub dX3_weigh_134 ?_
        refine J_goto (tgt := 145) dX3_weigh_135 (by decide) ?_
        refine J_sub [1, 2, 3, 4, 5, 0] rfl ?_
        exact jX3_weigh_145 G l _ ih _ _ _ _ _ _ _ _
def fX3_weigh_20  : Nat → Nat → Nat → Int32 → Int64 → Int32 → Mem → Option (Int32 × Mem)
  | 0, _, _, _, _, _, _ => none
  | n + 1, l0, l1, l2, l3, l5, M => (gI M 4 2 l1 fun v1 => (if v1 ≤ l5 then fX3_weigh_102  FU l0 l1 l2 l3 (0 : Int32) M else (gR M 3 3 l0 fun r2 => (gR M 4 0 l1 fun r3 => (rI M .int r3 l5 fun v4 => (rJ M r2 v4 fun v5 => (gR M 4 1 l1 fun r6 => (rJ M r6 l5 fun v7 => (gR M 4 1 l1 fun r8 => (rJ M r8 l5 fun v9 => (if (0 : Int64) ≤ ((v5 ^^^ (v5 + v7)) &&& (v9 ^^^ (v5 + v7))) then (gR M 3 3 l0 fun r10 => (gR M 4 0 l1 fun r11 => (rI M .int r11 l5 fun v12 => (wJ M r10 v12 (v5 + v7) fun M13 => fX3_weigh_20  n l0 l1 l2 l3 (l5 + (1 : Int32)) M13)))) else some ((-5 : Int32), M))))))))))))
set_option maxHeartbeats 4000000 in
set_option maxRecDepth 100000 in
theorem jX3_weigh_20 (G : Gx) (l : Launch)   : ∀ (n : Nat) (l0 : Nat) (l1 : Nat) (l2 : Int32) (l3 : Int64) (l5 : Int32) (M : Mem), J G l cX3_weigh 10 RX3 (some .int) "weigh" 1 23 (QM G (fun v : Int32 => some (.int v))) 20 [(0, .ref (adr G l0)), (1, .ref (adr G l1)), (2, .int l2), (3, .long l3), (5, .int l5)] [] M (fX3_weigh_20  n l0 l1 l2 l3 l5 M) := by
  intro n
  induction n with
  | zero => intro l0 l1 l2 l3 l5 M; exact J_none
  | succ n ih =>
    intro l0 l1 l2 l3 l5 M
    rw [fX3_weigh_20]
    refine J_iload dX3_weigh_20 4 rfl ?_
    refine J_aload_n dX3_weigh_22 1 rfl ?_
    refine J_getI fd_4_2 w_97 rfl dX3_weigh_23 ?_
    refine J_icmp_ge (tgt := 99) dX3_weigh_26 (by decide) ?_ ?_
    · refine J_iconst (v := 0) dX3_weigh_99 (by decide) ?_
      refine J_istore (lv' := [(5, .int _), (0, .ref _), (1, .ref _), (2, .int _), (3, .long _)]) dX3_weigh_100 (by decide) rfl ?_
      refine J_sub [1, 2, 3, 4, 0] rfl ?_
      exact jX3_weigh_102 G l   FU _ _ _ _ _ _
    · refine J_aload_n dX3_weigh_29 0 rfl ?_
      refine J_getR fd_3_3 w_9 rfl dX3_weigh_30 (fun r2 => ?_)
      refine J_aload_n dX3_weigh_33 1 rfl ?_
      refine J_getR fd_4_0 w_106 rfl dX3_weigh_34 (fun r3 => ?_)
      refine J_iload dX3_weigh_37 4 rfl ?_
      refine J_iald dX3_weigh_39 ?_
      refine J_lald dX3_weigh_40 ?_
      refine J_lstore (lv' := [(6, .long _), (0, .ref _), (1, .ref _), (2, .int _), (3, .long _), (5, .int _)]) dX3_weigh_41 (by decide) rfl ?_
      refine J_lload dX3_weigh_43 0 rfl ?_
      refine J_aload_n dX3_weigh_45 2 rfl ?_
      refine J_getR fd_4_1 w_119 rfl dX3_weigh_46 (fun r6 => ?_)
      refine J_iload dX3_weigh_49 5 rfl ?_
      refine J_lald dX3_weigh_51 ?_
      refine J_ladd dX3_weigh_52 ?_
      refine J_lstore (lv' := [(8, .long _), (6, .long _), (0, .ref _), (1, .ref _), (2, .int _), (3, .long _), (5, .int _)]) dX3_weigh_53 (by decide) rfl ?_
      refine J_lload dX3_weigh_55 1 rfl ?_
      refine J_lload dX3_weigh_57 0 rfl ?_
      refine J_lxor dX3_weigh_59 ?_
      refine J_aload_n dX3_weigh_60 3 rfl ?_
      refine J_getR fd_4_1 w_119 rfl dX3_weigh_61 (fun r8 => ?_)
      refine J_iload dX3_weigh_64 6 rfl ?_
      refine J_lald dX3_weigh_66 ?_
      refine J_lload dX3_weigh_67 0 rfl ?_
      refine J_lxor dX3_weigh_69 ?_
      refine J_land dX3_weigh_70 ?_
      refine J_lconst (v := 0) dX3_weigh_71 (by decide) ?_
      refine J_lcmp_ge (tgt := 79) dX3_weigh_72 dX3_weigh_73 (by decide) ?_ ?_
      · refine J_aload_n dX3_weigh_79 2 rfl ?_
        refine J_getR fd_3_3 w_9 rfl dX3_weigh_80 (fun r10 => ?_)
        refine J_aload_n dX3_weigh_83 3 rfl ?_
        refine J_getR fd_4_0 w_106 rfl dX3_weigh_84 (fun r11 => ?_)
        refine J_iload dX3_weigh_87 6 rfl ?_
        refine J_iald dX3_weigh_89 ?_
        refine J_lload dX3_weigh_90 0 rfl ?_
        refine J_last dX3_weigh_92 ?_
        refine J_iincK (z := 1) (lv' := [(5, .int _), (8, .long _), (6, .long _), (0, .ref _), (1, .ref _), (2, .int _), (3, .long _)]) dX3_weigh_93 6 rfl (by decide) (by decide) rfl ?_
        refine J_goto (tgt := 20) dX3_weigh_96 (by decide) ?_
        refine J_sub [3, 4, 5, 6, 0] rfl ?_
        exact ih _ _ _ _ _ _
      · refine J_bipush (v := -5) dX3_weigh_76 (by decide) ?_
        exact J_iret dX3_weigh_78
def fX3_weigh (l0 : Nat) (l1 : Nat) (l2 : Int32) (l3 : Int64) (M : Mem) : Option (Int32 × Mem) := (gR M 3 1 l0 fun r1 => (gR M 3 3 l0 fun r2 => (gI M 3 4 l0 fun v3 => (cpJ M r1 (0 : Int32) r2 (0 : Int32) v3 fun M4 => fX3_weigh_20  FU l0 l1 l2 l3 (0 : Int32) M4))))
set_option maxHeartbeats 4000000 in
set_option maxRecDepth 100000 in
theorem jX3_weigh (G : Gx) (l : Launch) (l0 : Nat) (l1 : Nat) (l2 : Int32) (l3 : Int64) (M : Mem) : J G l cX3_weigh 10 RX3 (some .int) "weigh" 1 23 (QM G (fun v : Int32 => some (.int v))) 0 [(0, .ref (adr G l0)), (1, .ref (adr G l1)), (2, .int l2), (3, .long l3)] [] M (fX3_weigh l0 l1 l2 l3 M) := by
  unfold fX3_weigh
  refine J_aload_n dX3_weigh_0 0 rfl ?_
  refine J_getR fd_3_1 w_7 rfl dX3_weigh_1 (fun r1 => ?_)
  refine J_iconst (v := 0) dX3_weigh_4 (by decide) ?_
  refine J_aload_n dX3_weigh_5 0 rfl ?_
  refine J_getR fd_3_3 w_9 rfl dX3_weigh_6 (fun r2 => ?_)
  refine J_iconst (v := 0) dX3_weigh_9 (by decide) ?_
  refine J_aload_n dX3_weigh_10 0 rfl ?_
  refine J_getI fd_3_4 w_59 rfl dX3_weigh_11 ?_
  refine J_copyJ w_72 w_73 w_74 w_75 ⟨by decide, Nat.le_of_ble_eq_true rfl⟩ dX3_weigh_14 ?_
  refine J_iconst (v := 0) dX3_weigh_17 (by decide) ?_
  refine J_istore (lv' := [(5, .int _), (0, .ref _), (1, .ref _), (2, .int _), (3, .long _)]) dX3_weigh_18 (by decide) rfl ?_
  refine J_sub [1, 2, 3, 4, 0] rfl ?_
  exact jX3_weigh_20 G l   FU _ _ _ _ _ _
theorem okX3_weigh (G : Gx) (l : Launch) (l0 : Nat) (l1 : Nat) (l2 : Int32) (l3 : Int64) (M : Mem) : Con G l yX3_weigh cX3_weigh 10 (some .int) 1 23 (fun v : Int32 => some (.int v)) [.ref (adr G l0), .ref (adr G l1), .int l2, .long l3] M (fX3_weigh l0 l1 l2 l3 M) := con_of (own := RX3) (nm := "weigh") (by decide +kernel) rfl rfl (Nat.le_of_ble_eq_true rfl) (jX3_weigh G l l0 l1 l2 l3 M)
theorem mkX3_weigh : MOk yX3_weigh cX3_weigh 10 (some .int) 3 := ⟨w_120, tb1 (List.mem_of_getElem? (i := 2) rfl) rfl, by decide +kernel, by decide +kernel, by decide +kernel⟩
-- X3_addTrial
def fX3_addTrial_60 (k7 : Nat → Int64 → Int64 → Int32 → Mem → Option (Unit × Mem)) (l0 : Nat) (l1 : Int64) (l3 : Int64) (l5 : Int32) (M : Mem) : Option (Unit × Mem) := k7 l0 l1 l3 (l5 + (1 : Int32)) M
set_option maxHeartbeats 4000000 in
set_option maxRecDepth 100000 in
theorem jX3_addTrial_60 (G : Gx) (l : Launch) (k7 : Nat → Int64 → Int64 → Int32 → Mem → Option (Unit × Mem)) (h7 : ∀ (l0 : Nat) (l1 : Int64) (l3 : Int64) (l5 : Int32) (M : Mem), J G l cX3_addTrial 6 RX3 none "addTrial" 2 45 (QM G (fun _ : Unit => none)) 7 [(0, .ref (adr G l0)), (1, .long l1), (3, .long l3), (5, .int l5)] [] M (k7 l0 l1 l3 l5 M)) (l0 : Nat) (l1 : Int64) (l3 : Int64) (l5 : Int32) (M : Mem) : J G l cX3_addTrial 6 RX3 none "addTrial" 2 45 (QM G (fun _ : Unit => none)) 60 [(0, .ref (adr G l0)), (1, .long l1), (3, .long l3), (5, .int l5)] [] M (fX3_addTrial_60 k7 l0 l1 l3 l5 M) := by
  unfold fX3_addTrial_60
  refine J_iincK (z := 1) (lv' := [(5, .int _), (0, .ref _), (1, .long _), (3, .long _)]) dX3_addTrial_60 3 rfl (by decide) (by decide) rfl ?_
  refine J_goto (tgt := 7) dX3_addTrial_63 (by decide) ?_
  refine J_sub [1, 2, 3, 0] rfl ?_
  exact h7 _ _ _ _ _
def fX3_addTrial_58 (k7 : Nat → Int64 → Int64 → Int32 → Mem → Option (Unit × Mem)) (l0 : Nat) (l3 : Int64) (l5 : Int32) (s0 : Int64) (s1 : Int64) (M : Mem) : Option (Unit × Mem) := fX3_addTrial_60 k7 l0 (s1 + s0) l3 l5 M
set_option maxHeartbeats 4000000 in
set_option maxRecDepth 100000 in
theorem jX3_addTrial_58 (G : Gx) (l : Launch) (k7 : Nat → Int64 → Int64 → Int32 → Mem → Option (Unit × Mem)) (h7 : ∀ (l0 : Nat) (l1 : Int64) (l3 : Int64) (l5 : Int32) (M : Mem), J G l cX3_addTrial 6 RX3 none "addTrial" 2 45 (QM G (fun _ : Unit => none)) 7 [(0, .ref (adr G l0)), (1, .long l1), (3, .long l3), (5, .int l5)] [] M (k7 l0 l1 l3 l5 M)) (l0 : Nat) (l3 : Int64) (l5 : Int32) (s0 : Int64) (s1 : Int64) (M : Mem) : J G l cX3_addTrial 6 RX3 none "addTrial" 2 45 (QM G (fun _ : Unit => none)) 58 [(0, .ref (adr G l0)), (3, .long l3), (5, .int l5)] [.long s0, .long s1] M (fX3_addTrial_58 k7 l0 l3 l5 s0 s1 M) := by
  unfold fX3_addTrial_58
  refine J_ladd dX3_addTrial_58 ?_
  refine J_lstore_n (lv' := [(1, .long _), (0, .ref _), (3, .long _), (5, .int _)]) dX3_addTrial_59 (by decide) rfl ?_
  refine J_sub [1, 0, 2, 3] rfl ?_
  exact jX3_addTrial_60 G l _ h7 _ _ _ _ _
def fX3_addTrial_7  : Nat → Nat → Int64 → Int64 → Int32 → Mem → Option (Unit × Mem)
  | 0, _, _, _, _, _ => none
  | n + 1, l0, l1, l3, l5, M => (gI M 3 4 l0 fun v1 => (if v1 ≤ l5 then (gR M 3 13 l0 fun r2 => (cV M 1 r2 (fX1_begin r2 (7 : Int32) M) fun _u4 M3 => (gR M3 3 13 l0 fun r5 => (gI M3 3 4 l0 fun v6 => (cV M3 1 r5 (fX1_add r5 v6.toInt64 (1 : Int32) M3) fun _u8 M7 => (gR M7 3 13 l0 fun r9 => (cV M7 1 r9 (fX1_add r9 l1 (8 : Int32) M7) fun _u11 M10 => (gR M10 3 13 l0 fun r12 => (cV M10 1 r12 (fX1_add r12 l3 (8 : Int32) M10) fun _u14 M13 => (cV M13 3 l0 (fX3_append l0 (0 : Int64) M13) fun v16 M15 => (pI M15 3 17 l0 (0 : Int32) fun M17 => some ((), M17)))))))))))) else (gR M 3 1 l0 fun r18 => (rJ M r18 l5 fun v19 => (if v19 ≤ (0 : Int64) then fX3_addTrial_60 (fX3_addTrial_7  n) l0 l1 l3 l5 M else (gR M 3 1 l0 fun r20 => (rJ M r20 l5 fun v21 => (gR M 3 1 l0 fun r22 => (rJ M r22 l5 fun v23 => (bd (fX8_isBelow (l3 + v21) v23 M) fun v25 M24 => (if v25 = 0 then fX3_addTrial_58 (fX3_addTrial_7  n) l0 (l3 + v21) l5 (0 : Int64) l1 M24 else fX3_addTrial_58 (fX3_addTrial_7  n) l0 (l3 + v21) l5 (1 : Int64) l1 M24)))))))))))
set_option maxHeartbeats 4000000 in
set_option maxRecDepth 100000 in
theorem jX3_addTrial_7 (G : Gx) (l : Launch)   : ∀ (n : Nat) (l0 : Nat) (l1 : Int64) (l3 : Int64) (l5 : Int32) (M : Mem), J G l cX3_addTrial 6 RX3 none "addTrial" 2 45 (QM G (fun _ : Unit => none)) 7 [(0, .ref (adr G l0)), (1, .long l1), (3, .long l3), (5, .int l5)] [] M (fX3_addTrial_7  n l0 l1 l3 l5 M) := by
  intro n
  induction n with
  | zero => intro l0 l1 l3 l5 M; exact J_none
  | succ n ih =>
    intro l0 l1 l3 l5 M
    rw [fX3_addTrial_7]
    refine J_iload dX3_addTrial_7 3 rfl ?_
    refine J_aload_n dX3_addTrial_9 0 rfl ?_
    refine J_getI fd_3_4 w_59 rfl dX3_addTrial_10 ?_
    refine J_icmp_ge (tgt := 66) dX3_addTrial_13 (by decide) ?_ ?_
    · refine J_aload_n dX3_addTrial_66 0 rfl ?_
      refine J_getR fd_3_13 w_24 rfl dX3_addTrial_67 (fun r2 => ?_)
      refine J_bipush (v := 7) dX3_addTrial_70 (by decide) ?_
      refine J_callVv (okX1_begin G l _ _ _) mkX1_begin _ _ rfl w_66 w_67 w_68 ⟨by decide, by decide⟩ rfl (Nat.le_of_ble_eq_true rfl) dX3_addTrial_72 (fun _u4 M3 => ?_)
      refine J_aload_n dX3_addTrial_75 0 rfl ?_
      refine J_getR fd_3_13 w_24 rfl dX3_addTrial_76 (fun r5 => ?_)
      refine J_aload_n dX3_addTrial_79 0 rfl ?_
      refine J_getI fd_3_4 w_59 rfl dX3_addTrial_80 ?_
      refine J_i2l dX3_addTrial_83 ?_
      refine J_iconst (v := 1) dX3_addTrial_84 (by decide) ?_
      refine J_callVv (okX1_add G l _ _ _ _) mkX1_add _ _ rfl w_69 w_63 w_64 ⟨by decide, by decide⟩ rfl (Nat.le_of_ble_eq_true rfl) dX3_addTrial_85 (fun _u8 M7 => ?_)
      refine J_aload_n dX3_addTrial_88 0 rfl ?_
      refine J_getR fd_3_13 w_24 rfl dX3_addTrial_89 (fun r9 => ?_)
      refine J_lload_n dX3_addTrial_92 1 rfl ?_
      refine J_bipush (v := 8) dX3_addTrial_93 (by decide) ?_
      refine J_callVv (okX1_add G l _ _ _ _) mkX1_add _ _ rfl w_69 w_63 w_64 ⟨by decide, by decide⟩ rfl (Nat.le_of_ble_eq_true rfl) dX3_addTrial_95 (fun _u11 M10 => ?_)
      refine J_aload_n dX3_addTrial_98 0 rfl ?_
      refine J_getR fd_3_13 w_24 rfl dX3_addTrial_99 (fun r12 => ?_)
      refine J_lload_n dX3_addTrial_102 2 rfl ?_
      refine J_bipush (v := 8) dX3_addTrial_103 (by decide) ?_
      refine J_callVv (okX1_add G l _ _ _ _) mkX1_add _ _ rfl w_69 w_63 w_64 ⟨by decide, by decide⟩ rfl (Nat.le_of_ble_eq_true rfl) dX3_addTrial_105 (fun _u14 M13 => ?_)
      refine J_aload_n dX3_addTrial_108 0 rfl ?_
      refine J_lconst (v := 0) dX3_addTrial_109 (by decide) ?_
      refine J_callVi (okX3_append G l _ _ _) mkX3_append _ _ rfl w_77 w_78 w_79 ⟨by decide, by decide⟩ rfl (Nat.le_of_ble_eq_true rfl) dX3_addTrial_110 (fun v16 M15 => ?_)
      refine J_pop dX3_addTrial_113 rfl ?_
      refine J_aload_n dX3_addTrial_114 0 rfl ?_
      refine J_iconst (v := 0) dX3_addTrial_115 (by decide) ?_
      refine J_putI fd_3_17 w_124 dX3_addTrial_116 ?_
      exact J_vret dX3_addTrial_119
    · refine J_aload_n dX3_addTrial_16 0 rfl ?_
      refine J_getR fd_3_1 w_7 rfl dX3_addTrial_17 (fun r18 => ?_)
      refine J_iload dX3_addTrial_20 3 rfl ?_
      refine J_lald dX3_addTrial_22 ?_
      refine J_lconst (v := 0) dX3_addTrial_23 (by decide) ?_
      refine J_lcmp_le (tgt := 60) dX3_addTrial_24 dX3_addTrial_25 (by decide) ?_ ?_
      · refine J_sub [0, 1, 2, 3] rfl ?_
        exact jX3_addTrial_60 G l _ ih _ _ _ _ _
      · refine J_lload_n dX3_addTrial_28 2 rfl ?_
        refine J_aload_n dX3_addTrial_29 0 rfl ?_
        refine J_getR fd_3_1 w_7 rfl dX3_addTrial_30 (fun r20 => ?_)
        refine J_iload dX3_addTrial_33 3 rfl ?_
        refine J_lald dX3_addTrial_35 ?_
        refine J_ladd dX3_addTrial_36 ?_
        refine J_lstore_n (lv' := [(3, .long _), (0, .ref _), (1, .long _), (5, .int _)]) dX3_addTrial_37 (by decide) rfl ?_
        refine J_lload_n dX3_addTrial_38 2 rfl ?_
        refine J_lload_n dX3_addTrial_39 0 rfl ?_
        refine J_aload_n dX3_addTrial_40 1 rfl ?_
        refine J_getR fd_3_1 w_7 rfl dX3_addTrial_41 (fun r22 => ?_)
        refine J_iload dX3_addTrial_44 3 rfl ?_
        refine J_lald dX3_addTrial_46 ?_
        refine J_callSNi (host := "ChainBooks") (okX8_isBelow G l _ _ _) mkX8_isBelow (List.mem_of_getElem? (i := 13) rfl) w_118 ⟨by decide, by decide⟩ rfl (Nat.le_of_ble_eq_true rfl) dX3_addTrial_47 (fun v25 M24 => ?_)
        refine J_if_eq (tgt := 57) dX3_addTrial_50 (by decide) ?_ ?_
        · refine J_lconst (v := 0) dX3_addTrial_57 (by decide) ?_
          refine J_sub [1, 0, 3] rfl ?_
          exact jX3_addTrial_58 G l _ ih _ _ _ _ _ _
        · refine J_lconst (v := 1) dX3_addTrial_53 (by decide) ?_
          refine J_goto (tgt := 58) dX3_addTrial_54 (by decide) ?_
          refine J_sub [1, 0, 3] rfl ?_
          exact jX3_addTrial_58 G l _ ih _ _ _ _ _ _
def fX3_addTrial (l0 : Nat) (M : Mem) : Option (Unit × Mem) := fX3_addTrial_7  FU l0 (0 : Int64) (0 : Int64) (0 : Int32) M
set_option maxHeartbeats 4000000 in
set_option maxRecDepth 100000 in
theorem jX3_addTrial (G : Gx) (l : Launch) (l0 : Nat) (M : Mem) : J G l cX3_addTrial 6 RX3 none "addTrial" 2 45 (QM G (fun _ : Unit => none)) 0 [(0, .ref (adr G l0))] [] M (fX3_addTrial l0 M) := by
  unfold fX3_addTrial
  refine J_lconst (v := 0) dX3_addTrial_0 (by decide) ?_
  refine J_lstore_n (lv' := [(1, .long _), (0, .ref _)]) dX3_addTrial_1 (by decide) rfl ?_
  refine J_lconst (v := 0) dX3_addTrial_2 (by decide) ?_
  refine J_lstore_n (lv' := [(3, .long _), (1, .long _), (0, .ref _)]) dX3_addTrial_3 (by decide) rfl ?_
  refine J_iconst (v := 0) dX3_addTrial_4 (by decide) ?_
  refine J_istore (lv' := [(5, .int _), (3, .long _), (1, .long _), (0, .ref _)]) dX3_addTrial_5 (by decide) rfl ?_
  refine J_sub [3, 2, 1, 0] rfl ?_
  exact jX3_addTrial_7 G l   FU _ _ _ _ _
theorem okX3_addTrial (G : Gx) (l : Launch) (l0 : Nat) (M : Mem) : Con G l yX3_addTrial cX3_addTrial 6 none 2 45 (fun _ : Unit => none) [.ref (adr G l0)] M (fX3_addTrial l0 M) := con_of (own := RX3) (nm := "addTrial") (by decide +kernel) rfl rfl (Nat.le_of_ble_eq_true rfl) (jX3_addTrial G l l0 M)
theorem mkX3_addTrial : MOk yX3_addTrial cX3_addTrial 6 none 0 := ⟨w_126, tb1 (List.mem_of_getElem? (i := 2) rfl) rfl, by decide +kernel, by decide +kernel, by decide +kernel⟩
-- X3_move
def fX3_move_135  (l4 : Int32) (M : Mem) : Option (Int32 × Mem) := some (l4, M)
set_option maxHeartbeats 4000000 in
set_option maxRecDepth 100000 in
theorem jX3_move_135 (G : Gx) (l : Launch)   (l4 : Int32) (M : Mem) : J G l cX3_move 6 RX3 (some .int) "move" 3 70 (QM G (fun v : Int32 => some (.int v))) 135 [(4, .int l4)] [] M (fX3_move_135  l4 M) := by
  unfold fX3_move_135
  refine J_iload dX3_move_135 0 rfl ?_
  exact J_iret dX3_move_137
def fX3_move_38  : Nat → Nat → Nat → Int32 → Int32 → Mem → Option (Int32 × Mem)
  | 0, _, _, _, _, _ => none
  | n + 1, l0, l3, l4, l5, M => (gI M 4 2 l3 fun v1 => (if v1 ≤ l5 then (gI M 3 17 l0 fun v2 => (pI M 3 17 l0 (v2 + (1 : Int32)) fun M3 => (gI M3 3 16 l0 fun v4 => (if v4 ≤ 0 then fX3_move_135  l4 M3 else (gI M3 3 17 l0 fun v5 => (gI M3 3 16 l0 fun v6 => (if v5 < v6 then fX3_move_135  l4 M3 else (gI M3 3 12 l0 fun v7 => (if (200 : Int32) ≤ v7 then fX3_move_135  l4 M3 else (cV M3 3 l0 (fX3_addTrial l0 M3) fun _u9 M8 => fX3_move_135  l4 M8)))))))))) else (gR M 3 10 l0 fun r10 => (gR M 4 0 l3 fun r11 => (rI M .int r11 l5 fun v12 => (wI M .int r10 ((l4 * (8 : Int32)) + l5) v12 fun M13 => (gR M13 3 11 l0 fun r14 => (gR M13 4 1 l3 fun r15 => (rJ M13 r15 l5 fun v16 => (wJ M13 r14 ((l4 * (8 : Int32)) + l5) v16 fun M17 => fX3_move_38  n l0 l3 l4 (l5 + (1 : Int32)) M17))))))))))
set_option maxHeartbeats 4000000 in
set_option maxRecDepth 100000 in
theorem jX3_move_38 (G : Gx) (l : Launch)   : ∀ (n : Nat) (l0 : Nat) (l3 : Nat) (l4 : Int32) (l5 : Int32) (M : Mem), J G l cX3_move 6 RX3 (some .int) "move" 3 70 (QM G (fun v : Int32 => some (.int v))) 38 [(0, .ref (adr G l0)), (3, .ref (adr G l3)), (4, .int l4), (5, .int l5)] [] M (fX3_move_38  n l0 l3 l4 l5 M) := by
  intro n
  induction n with
  | zero => intro l0 l3 l4 l5 M; exact J_none
  | succ n ih =>
    intro l0 l3 l4 l5 M
    rw [fX3_move_38]
    refine J_iload dX3_move_38 3 rfl ?_
    refine J_aload_n dX3_move_40 1 rfl ?_
    refine J_getI fd_4_2 w_97 rfl dX3_move_41 ?_
    refine J_icmp_ge (tgt := 93) dX3_move_44 (by decide) ?_ ?_
    · refine J_aload_n dX3_move_93 0 rfl ?_
      refine J_dup dX3_move_94 rfl ?_
      refine J_getI fd_3_17 w_124 rfl dX3_move_95 ?_
      refine J_iconst (v := 1) dX3_move_98 (by decide) ?_
      refine J_iadd dX3_move_99 ?_
      refine J_putI fd_3_17 w_124 dX3_move_100 ?_
      refine J_aload_n dX3_move_103 0 rfl ?_
      refine J_getI fd_3_16 w_125 rfl dX3_move_104 ?_
      refine J_if_le (tgt := 135) dX3_move_107 (by decide) ?_ ?_
      · refine J_sub [2] rfl ?_
        exact jX3_move_135 G l   _ _
      · refine J_aload_n dX3_move_110 0 rfl ?_
        refine J_getI fd_3_17 w_124 rfl dX3_move_111 ?_
        refine J_aload_n dX3_move_114 0 rfl ?_
        refine J_getI fd_3_16 w_125 rfl dX3_move_115 ?_
        refine J_icmp_lt (tgt := 135) dX3_move_118 (by decide) ?_ ?_
        · refine J_sub [2] rfl ?_
          exact jX3_move_135 G l   _ _
        · refine J_aload_n dX3_move_121 0 rfl ?_
          refine J_getI fd_3_12 w_58 rfl dX3_move_122 ?_
          refine J_sipush (v := 200) dX3_move_125 (by decide) ?_
          refine J_icmp_ge (tgt := 135) dX3_move_128 (by decide) ?_ ?_
          · refine J_sub [2] rfl ?_
            exact jX3_move_135 G l   _ _
          · refine J_aload_n dX3_move_131 0 rfl ?_
            refine J_callVv (okX3_addTrial G l _ _) mkX3_addTrial _ _ rfl w_127 w_128 w_129 ⟨by decide, by decide⟩ rfl (Nat.le_of_ble_eq_true rfl) dX3_move_132 (fun _u9 M8 => ?_)
            refine J_sub [2] rfl ?_
            exact jX3_move_135 G l   _ _
    · refine J_aload_n dX3_move_47 0 rfl ?_
      refine J_getR fd_3_10 w_17 rfl dX3_move_48 (fun r10 => ?_)
      refine J_iload dX3_move_51 2 rfl ?_
      refine J_bipush (v := 8) dX3_move_53 (by decide) ?_
      refine J_imul dX3_move_55 ?_
      refine J_iload dX3_move_56 3 rfl ?_
      refine J_iadd dX3_move_58 ?_
      refine J_aload_n dX3_move_59 1 rfl ?_
      refine J_getR fd_4_0 w_106 rfl dX3_move_60 (fun r11 => ?_)
      refine J_iload dX3_move_63 3 rfl ?_
      refine J_iald dX3_move_65 ?_
      refine J_iast dX3_move_66 ?_
      refine J_aload_n dX3_move_67 0 rfl ?_
      refine J_getR fd_3_11 w_18 rfl dX3_move_68 (fun r14 => ?_)
      refine J_iload dX3_move_71 2 rfl ?_
      refine J_bipush (v := 8) dX3_move_73 (by decide) ?_
      refine J_imul dX3_move_75 ?_
      refine J_iload dX3_move_76 3 rfl ?_
      refine J_iadd dX3_move_78 ?_
      refine J_aload_n dX3_move_79 1 rfl ?_
      refine J_getR fd_4_1 w_119 rfl dX3_move_80 (fun r15 => ?_)
      refine J_iload dX3_move_83 3 rfl ?_
      refine J_lald dX3_move_85 ?_
      refine J_last dX3_move_86 ?_
      refine J_iincK (z := 1) (lv' := [(5, .int _), (0, .ref _), (3, .ref _), (4, .int _)]) dX3_move_87 3 rfl (by decide) (by decide) rfl ?_
      refine J_goto (tgt := 38) dX3_move_90 (by decide) ?_
      refine J_sub [1, 2, 3, 0] rfl ?_
      exact ih _ _ _ _ _
def fX3_move (l0 : Nat) (l1 : Int64) (l3 : Nat) (M : Mem) : Option (Int32 × Mem) := (gR M 3 3 l0 fun r1 => (gR M 3 1 l0 fun r2 => (gI M 3 4 l0 fun v3 => (cpJ M r1 (0 : Int32) r2 (0 : Int32) v3 fun M4 => (cV M4 3 l0 (fX3_append l0 l1 M4) fun v6 M5 => (gR M5 3 9 l0 fun r7 => (gI M5 4 2 l3 fun v8 => (wI M5 .int r7 v6 v8 fun M9 => fX3_move_38  FU l0 l3 v6 (0 : Int32) M9))))))))
set_option maxHeartbeats 4000000 in
set_option maxRecDepth 100000 in
theorem jX3_move (G : Gx) (l : Launch) (l0 : Nat) (l1 : Int64) (l3 : Nat) (M : Mem) : J G l cX3_move 6 RX3 (some .int) "move" 3 70 (QM G (fun v : Int32 => some (.int v))) 0 [(0, .ref (adr G l0)), (1, .long l1), (3, .ref (adr G l3))] [] M (fX3_move l0 l1 l3 M) := by
  unfold fX3_move
  refine J_aload_n dX3_move_0 0 rfl ?_
  refine J_getR fd_3_3 w_9 rfl dX3_move_1 (fun r1 => ?_)
  refine J_iconst (v := 0) dX3_move_4 (by decide) ?_
  refine J_aload_n dX3_move_5 0 rfl ?_
  refine J_getR fd_3_1 w_7 rfl dX3_move_6 (fun r2 => ?_)
  refine J_iconst (v := 0) dX3_move_9 (by decide) ?_
  refine J_aload_n dX3_move_10 0 rfl ?_
  refine J_getI fd_3_4 w_59 rfl dX3_move_11 ?_
  refine J_copyJ w_72 w_73 w_74 w_75 ⟨by decide, Nat.le_of_ble_eq_true rfl⟩ dX3_move_14 ?_
  refine J_aload_n dX3_move_17 0 rfl ?_
  refine J_lload_n dX3_move_18 1 rfl ?_
  refine J_callVi (okX3_append G l _ _ _) mkX3_append _ _ rfl w_77 w_78 w_79 ⟨by decide, by decide⟩ rfl (Nat.le_of_ble_eq_true rfl) dX3_move_19 (fun v6 M5 => ?_)
  refine J_istore (lv' := [(4, .int _), (0, .ref _), (1, .long _), (3, .ref _)]) dX3_move_22 (by decide) rfl ?_
  refine J_aload_n dX3_move_24 1 rfl ?_
  refine J_getR fd_3_9 w_16 rfl dX3_move_25 (fun r7 => ?_)
  refine J_iload dX3_move_28 0 rfl ?_
  refine J_aload_n dX3_move_30 3 rfl ?_
  refine J_getI fd_4_2 w_97 rfl dX3_move_31 ?_
  refine J_iast dX3_move_34 ?_
  refine J_iconst (v := 0) dX3_move_35 (by decide) ?_
  refine J_istore (lv' := [(5, .int _), (4, .int _), (0, .ref _), (1, .long _), (3, .ref _)]) dX3_move_36 (by decide) rfl ?_
  refine J_sub [2, 4, 1, 0] rfl ?_
  exact jX3_move_38 G l   FU _ _ _ _ _
theorem okX3_move (G : Gx) (l : Launch) (l0 : Nat) (l1 : Int64) (l3 : Nat) (M : Mem) : Con G l yX3_move cX3_move 6 (some .int) 3 70 (fun v : Int32 => some (.int v)) [.ref (adr G l0), .long l1, .ref (adr G l3)] M (fX3_move l0 l1 l3 M) := con_of (own := RX3) (nm := "move") (by decide +kernel) rfl rfl (Nat.le_of_ble_eq_true rfl) (jX3_move G l l0 l1 l3 M)
theorem mkX3_move : MOk yX3_move cX3_move 6 (some .int) 2 := ⟨w_130, tb1 (List.mem_of_getElem? (i := 2) rfl) rfl, by decide +kernel, by decide +kernel, by decide +kernel⟩
-- X1_beginKeyed
def fX1_beginKeyed (l0 : Nat) (l1 : Int32) (l2 : Int64) (M : Mem) : Option (Unit × Mem) := (cV M 1 l0 (fX1_begin l0 l1 M) fun _u2 M1 => (cV M1 1 l0 (fX1_add l0 l2 (8 : Int32) M1) fun _u4 M3 => some ((), M3)))
set_option maxHeartbeats 4000000 in
set_option maxRecDepth 100000 in
theorem jX1_beginKeyed (G : Gx) (l : Launch) (l0 : Nat) (l1 : Int32) (l2 : Int64) (M : Mem) : J G l cX1_beginKeyed 4 RX1 none "beginKeyed" 2 45 (QM G (fun _ : Unit => none)) 0 [(0, .ref (adr G l0)), (1, .int l1), (2, .long l2)] [] M (fX1_beginKeyed l0 l1 l2 M) := by
  unfold fX1_beginKeyed
  refine J_aload_n dX1_beginKeyed_0 0 rfl ?_
  refine J_iload_n dX1_beginKeyed_1 1 rfl ?_
  refine J_callVv (okX1_begin G l _ _ _) mkX1_begin _ _ rfl w_134 w_67 w_68 ⟨by decide, by decide⟩ rfl (Nat.le_of_ble_eq_true rfl) dX1_beginKeyed_2 (fun _u2 M1 => ?_)
  refine J_aload_n dX1_beginKeyed_5 0 rfl ?_
  refine J_lload_n dX1_beginKeyed_6 2 rfl ?_
  refine J_bipush (v := 8) dX1_beginKeyed_7 (by decide) ?_
  refine J_callVv (okX1_add G l _ _ _ _) mkX1_add _ _ rfl w_62 w_63 w_64 ⟨by decide, by decide⟩ rfl (Nat.le_of_ble_eq_true rfl) dX1_beginKeyed_9 (fun _u4 M3 => ?_)
  exact J_vret dX1_beginKeyed_12
theorem okX1_beginKeyed (G : Gx) (l : Launch) (l0 : Nat) (l1 : Int32) (l2 : Int64) (M : Mem) : Con G l yX1_beginKeyed cX1_beginKeyed 4 none 2 45 (fun _ : Unit => none) [.ref (adr G l0), .int l1, .long l2] M (fX1_beginKeyed l0 l1 l2 M) := con_of (own := RX1) (nm := "beginKeyed") (by decide +kernel) rfl rfl (Nat.le_of_ble_eq_true rfl) (jX1_beginKeyed G l l0 l1 l2 M)
theorem mkX1_beginKeyed : MOk yX1_beginKeyed cX1_beginKeyed 4 none 2 := ⟨w_135, tb1 (List.mem_of_getElem? (i := 3) rfl) rfl, by decide +kernel, by decide +kernel, by decide +kernel⟩
-- X3_addPost
def fX3_addPost_149  (s0 : Int32) (M : Mem) : Option (Int32 × Mem) := some (s0, M)
set_option maxHeartbeats 4000000 in
set_option maxRecDepth 100000 in
theorem jX3_addPost_149 (G : Gx) (l : Launch)   (s0 : Int32) (M : Mem) : J G l cX3_addPost 6 RX3 (some .int) "addPost" 4 95 (QM G (fun v : Int32 => some (.int v))) 149 [] [.int s0] M (fX3_addPost_149  s0 M) := by
  unfold fX3_addPost_149
  exact J_iret dX3_addPost_149
def fX3_addPost_40  : Nat → Nat → Int64 → Nat → Int32 → Mem → Option (Int32 × Mem)
  | 0, _, _, _, _, _ => none
  | n + 1, l0, l1, l3, l4, M => (gI M 4 2 l3 fun v1 => (if v1 ≤ l4 then (cV M 3 l0 (fX3_answeredBefore l0 l1 M) fun v3 M2 => (if v3 = (-1 : Int32) then (cV M2 3 l0 (fX3_areThere l0 l3 M2) fun v5 M4 => (if v5 = 0 then some ((-2 : Int32), M4) else (cV M4 4 l3 (fX4_comeToNothing l3 M4) fun v7 M6 => (if v7 = 0 then some ((-3 : Int32), M6) else (cV M6 3 l0 (fX3_weigh l0 l3 (-1 : Int32) (0 : Int64) M6) fun v9 M8 => (if v9 = 0 then (cV M8 3 l0 (fX3_move l0 l1 l3 M8) fun v11 M10 => fX3_addPost_149  v11 M10) else fX3_addPost_149  v9 M8)))))) else some (v3, M2))) else (gR M 3 13 l0 fun r12 => (gR M 4 0 l3 fun r13 => (rI M .int r13 l4 fun v14 => (cV M 1 r12 (fX1_add r12 v14.toInt64 (1 : Int32) M) fun _u16 M15 => (gR M15 3 13 l0 fun r17 => (gR M15 4 1 l3 fun r18 => (rJ M15 r18 l4 fun v19 => (cV M15 1 r17 (fX1_add r17 v19 (8 : Int32) M15) fun _u21 M20 => fX3_addPost_40  n l0 l1 l3 (l4 + (1 : Int32)) M20))))))))))
set_option maxHeartbeats 4000000 in
set_option maxRecDepth 100000 in
theorem jX3_addPost_40 (G : Gx) (l : Launch)   : ∀ (n : Nat) (l0 : Nat) (l1 : Int64) (l3 : Nat) (l4 : Int32) (M : Mem), J G l cX3_addPost 6 RX3 (some .int) "addPost" 4 95 (QM G (fun v : Int32 => some (.int v))) 40 [(0, .ref (adr G l0)), (1, .long l1), (3, .ref (adr G l3)), (4, .int l4)] [] M (fX3_addPost_40  n l0 l1 l3 l4 M) := by
  intro n
  induction n with
  | zero => intro l0 l1 l3 l4 M; exact J_none
  | succ n ih =>
    intro l0 l1 l3 l4 M
    rw [fX3_addPost_40]
    refine J_iload dX3_addPost_40 3 rfl ?_
    refine J_aload_n dX3_addPost_42 2 rfl ?_
    refine J_getI fd_4_2 w_97 rfl dX3_addPost_43 ?_
    refine J_icmp_ge (tgt := 87) dX3_addPost_46 (by decide) ?_ ?_
    · refine J_aload_n dX3_addPost_87 0 rfl ?_
      refine J_lload_n dX3_addPost_88 1 rfl ?_
      refine J_callVi (okX3_answeredBefore G l _ _ _) mkX3_answeredBefore _ _ rfl w_103 w_104 w_105 ⟨by decide, by decide⟩ rfl (Nat.le_of_ble_eq_true rfl) dX3_addPost_89 (fun v3 M2 => ?_)
      refine J_istore (lv' := [(4, .int _), (0, .ref _), (1, .long _), (3, .ref _)]) dX3_addPost_92 (by decide) rfl ?_
      refine J_iload dX3_addPost_94 0 rfl ?_
      refine J_iconst (v := -1) dX3_addPost_96 (by decide) ?_
      refine J_icmp_eq (tgt := 103) dX3_addPost_97 (by decide) ?_ ?_
      · refine J_aload_n dX3_addPost_103 1 rfl ?_
        refine J_aload_n dX3_addPost_104 3 rfl ?_
        refine J_callVi (okX3_areThere G l _ _ _) mkX3_areThere _ _ rfl w_108 w_109 w_110 ⟨by decide, by decide⟩ rfl (Nat.le_of_ble_eq_true rfl) dX3_addPost_105 (fun v5 M4 => ?_)
        refine J_if_ne (tgt := 114) dX3_addPost_108 (by decide) ?_ ?_
        · refine J_aload_n dX3_addPost_114 3 rfl ?_
          refine J_callVi (okX4_comeToNothing G l _ _) mkX4_comeToNothing _ _ rfl w_113 w_114 w_115 ⟨by decide, by decide⟩ rfl (Nat.le_of_ble_eq_true rfl) dX3_addPost_115 (fun v7 M6 => ?_)
          refine J_if_ne (tgt := 124) dX3_addPost_118 (by decide) ?_ ?_
          · refine J_aload_n dX3_addPost_124 1 rfl ?_
            refine J_aload_n dX3_addPost_125 3 rfl ?_
            refine J_iconst (v := -1) dX3_addPost_126 (by decide) ?_
            refine J_lconst (v := 0) dX3_addPost_127 (by decide) ?_
            refine J_callVi (okX3_weigh G l _ _ _ _ _) mkX3_weigh _ _ rfl w_121 w_122 w_123 ⟨by decide, by decide⟩ rfl (Nat.le_of_ble_eq_true rfl) dX3_addPost_128 (fun v9 M8 => ?_)
            refine J_istore (lv' := [(5, .int _), (4, .int _), (0, .ref _), (1, .long _), (3, .ref _)]) dX3_addPost_131 (by decide) rfl ?_
            refine J_iload dX3_addPost_133 0 rfl ?_
            refine J_if_ne (tgt := 147) dX3_addPost_135 (by decide) ?_ ?_
            · refine J_iload dX3_addPost_147 0 rfl ?_
              refine J_sub [] rfl ?_
              exact jX3_addPost_149 G l   _ _
            · refine J_aload_n dX3_addPost_138 2 rfl ?_
              refine J_lload_n dX3_addPost_139 3 rfl ?_
              refine J_aload_n dX3_addPost_140 4 rfl ?_
              refine J_callVi (okX3_move G l _ _ _ _) mkX3_move _ _ rfl w_131 w_132 w_133 ⟨by decide, by decide⟩ rfl (Nat.le_of_ble_eq_true rfl) dX3_addPost_141 (fun v11 M10 => ?_)
              refine J_goto (tgt := 149) dX3_addPost_144 (by decide) ?_
              refine J_sub [] rfl ?_
              exact jX3_addPost_149 G l   _ _
          · refine J_bipush (v := -3) dX3_addPost_121 (by decide) ?_
            exact J_iret dX3_addPost_123
        · refine J_bipush (v := -2) dX3_addPost_111 (by decide) ?_
          exact J_iret dX3_addPost_113
      · refine J_iload dX3_addPost_100 0 rfl ?_
        exact J_iret dX3_addPost_102
    · refine J_aload_n dX3_addPost_49 0 rfl ?_
      refine J_getR fd_3_13 w_24 rfl dX3_addPost_50 (fun r12 => ?_)
      refine J_aload_n dX3_addPost_53 2 rfl ?_
      refine J_getR fd_4_0 w_106 rfl dX3_addPost_54 (fun r13 => ?_)
      refine J_iload dX3_addPost_57 3 rfl ?_
      refine J_iald dX3_addPost_59 ?_
      refine J_i2l dX3_addPost_60 ?_
      refine J_iconst (v := 1) dX3_addPost_61 (by decide) ?_
      refine J_callVv (okX1_add G l _ _ _ _) mkX1_add _ _ rfl w_69 w_63 w_64 ⟨by decide, by decide⟩ rfl (Nat.le_of_ble_eq_true rfl) dX3_addPost_62 (fun _u16 M15 => ?_)
      refine J_aload_n dX3_addPost_65 0 rfl ?_
      refine J_getR fd_3_13 w_24 rfl dX3_addPost_66 (fun r17 => ?_)
      refine J_aload_n dX3_addPost_69 2 rfl ?_
      refine J_getR fd_4_1 w_119 rfl dX3_addPost_70 (fun r18 => ?_)
      refine J_iload dX3_addPost_73 3 rfl ?_
      refine J_lald dX3_addPost_75 ?_
      refine J_bipush (v := 8) dX3_addPost_76 (by decide) ?_
      refine J_callVv (okX1_add G l _ _ _ _) mkX1_add _ _ rfl w_69 w_63 w_64 ⟨by decide, by decide⟩ rfl (Nat.le_of_ble_eq_true rfl) dX3_addPost_78 (fun _u21 M20 => ?_)
      refine J_iincK (z := 1) (lv' := [(4, .int _), (0, .ref _), (1, .long _), (3, .ref _)]) dX3_addPost_81 3 rfl (by decide) (by decide) rfl ?_
      refine J_goto (tgt := 40) dX3_addPost_84 (by decide) ?_
      refine J_sub [1, 2, 3, 0] rfl ?_
      exact ih _ _ _ _ _
def fX3_addPost_13   (M : Mem) : Option (Int32 × Mem) := some ((-1 : Int32), M)
set_option maxHeartbeats 4000000 in
set_option maxRecDepth 100000 in
theorem jX3_addPost_13 (G : Gx) (l : Launch)    (M : Mem) : J G l cX3_addPost 6 RX3 (some .int) "addPost" 4 95 (QM G (fun v : Int32 => some (.int v))) 13 [] [] M (fX3_addPost_13   M) := by
  unfold fX3_addPost_13
  refine J_iconst (v := -1) dX3_addPost_13 (by decide) ?_
  exact J_iret dX3_addPost_14
def fX3_addPost (l0 : Nat) (l1 : Int64) (l3 : Nat) (M : Mem) : Option (Int32 × Mem) := (gI M 4 2 l3 fun v1 => (if v1 = 0 then fX3_addPost_13   M else (if l1 = (0 : Int64) then fX3_addPost_13   M else (gR M 3 13 l0 fun r2 => (cV M 1 r2 (fX1_beginKeyed r2 (2 : Int32) l1 M) fun _u4 M3 => (gR M3 3 13 l0 fun r5 => (gI M3 4 2 l3 fun v6 => (cV M3 1 r5 (fX1_add r5 v6.toInt64 (1 : Int32) M3) fun _u8 M7 => fX3_addPost_40  FU l0 l1 l3 (0 : Int32) M7))))))))
set_option maxHeartbeats 4000000 in
set_option maxRecDepth 100000 in
theorem jX3_addPost (G : Gx) (l : Launch) (l0 : Nat) (l1 : Int64) (l3 : Nat) (M : Mem) : J G l cX3_addPost 6 RX3 (some .int) "addPost" 4 95 (QM G (fun v : Int32 => some (.int v))) 0 [(0, .ref (adr G l0)), (1, .long l1), (3, .ref (adr G l3))] [] M (fX3_addPost l0 l1 l3 M) := by
  unfold fX3_addPost
  refine J_aload_n dX3_addPost_0 2 rfl ?_
  refine J_getI fd_4_2 w_97 rfl dX3_addPost_1 ?_
  refine J_if_eq (tgt := 13) dX3_addPost_4 (by decide) ?_ ?_
  · refine J_sub [] rfl ?_
    exact jX3_addPost_13 G l    _
  · refine J_lload_n dX3_addPost_7 1 rfl ?_
    refine J_lconst (v := 0) dX3_addPost_8 (by decide) ?_
    refine J_lcmp_ne (tgt := 15) dX3_addPost_9 dX3_addPost_10 (by decide) ?_ ?_
    · refine J_aload_n dX3_addPost_15 0 rfl ?_
      refine J_getR fd_3_13 w_24 rfl dX3_addPost_16 (fun r2 => ?_)
      refine J_iconst (v := 2) dX3_addPost_19 (by decide) ?_
      refine J_lload_n dX3_addPost_20 1 rfl ?_
      refine J_callVv (okX1_beginKeyed G l _ _ _ _) mkX1_beginKeyed _ _ rfl w_136 w_137 w_138 ⟨by decide, by decide⟩ rfl (Nat.le_of_ble_eq_true rfl) dX3_addPost_21 (fun _u4 M3 => ?_)
      refine J_aload_n dX3_addPost_24 0 rfl ?_
      refine J_getR fd_3_13 w_24 rfl dX3_addPost_25 (fun r5 => ?_)
      refine J_aload_n dX3_addPost_28 2 rfl ?_
      refine J_getI fd_4_2 w_97 rfl dX3_addPost_29 ?_
      refine J_i2l dX3_addPost_32 ?_
      refine J_iconst (v := 1) dX3_addPost_33 (by decide) ?_
      refine J_callVv (okX1_add G l _ _ _ _) mkX1_add _ _ rfl w_69 w_63 w_64 ⟨by decide, by decide⟩ rfl (Nat.le_of_ble_eq_true rfl) dX3_addPost_34 (fun _u8 M7 => ?_)
      refine J_iconst (v := 0) dX3_addPost_37 (by decide) ?_
      refine J_istore (lv' := [(4, .int _), (0, .ref _), (1, .long _), (3, .ref _)]) dX3_addPost_38 (by decide) rfl ?_
      refine J_sub [1, 2, 3, 0] rfl ?_
      exact jX3_addPost_40 G l   FU _ _ _ _ _
    · refine J_sub [] rfl ?_
      exact jX3_addPost_13 G l    _
theorem okX3_addPost (G : Gx) (l : Launch) (l0 : Nat) (l1 : Int64) (l3 : Nat) (M : Mem) : Con G l yX3_addPost cX3_addPost 6 (some .int) 4 95 (fun v : Int32 => some (.int v)) [.ref (adr G l0), .long l1, .ref (adr G l3)] M (fX3_addPost l0 l1 l3 M) := con_of (own := RX3) (nm := "addPost") (by decide +kernel) rfl rfl (Nat.le_of_ble_eq_true rfl) (jX3_addPost G l l0 l1 l3 M)
theorem mkX3_addPost : MOk yX3_addPost cX3_addPost 6 (some .int) 2 := ⟨w_139, tb1 (List.mem_of_getElem? (i := 2) rfl) rfl, by decide +kernel, by decide +kernel, by decide +kernel⟩
-- X3_addHold
def fX3_addHold_20   (M : Mem) : Option (Int32 × Mem) := some ((-1 : Int32), M)
set_option maxHeartbeats 4000000 in
set_option maxRecDepth 100000 in
theorem jX3_addHold_20 (G : Gx) (l : Launch)    (M : Mem) : J G l cX3_addHold 7 RX3 (some .int) "addHold" 3 68 (QM G (fun v : Int32 => some (.int v))) 20 [] [] M (fX3_addHold_20   M) := by
  unfold fX3_addHold_20
  refine J_iconst (v := -1) dX3_addHold_20 (by decide) ?_
  exact J_iret dX3_addHold_21
def fX3_addHold (l0 : Nat) (l1 : Int64) (l3 : Int32) (l4 : Int64) (M : Mem) : Option (Int32 × Mem) := (if l1 = (0 : Int64) then fX3_addHold_20   M else (bd (fX8_isByte l3 M) fun v2 M1 => (if v2 = 0 then fX3_addHold_20   M1 else (if (0 : Int64) < l4 then (gR M1 3 13 l0 fun r3 => (cV M1 1 r3 (fX1_beginKeyed r3 (3 : Int32) l1 M1) fun _u5 M4 => (gR M4 3 13 l0 fun r6 => (cV M4 1 r6 (fX1_add r6 l3.toInt64 (1 : Int32) M4) fun _u8 M7 => (gR M7 3 13 l0 fun r9 => (cV M7 1 r9 (fX1_add r9 l4 (8 : Int32) M7) fun _u11 M10 => (cV M10 3 l0 (fX3_answeredBefore l0 l1 M10) fun v13 M12 => (if v13 = (-1 : Int32) then (gI M12 3 4 l0 fun v14 => (if l3 < v14 then (gR M12 3 1 l0 fun r15 => (rJ M12 r15 l3 fun v16 => (gR M12 3 0 l0 fun r17 => (rJ M12 r17 l3 fun v18 => (gR M12 3 2 l0 fun r19 => (rJ M12 r19 l3 fun v20 => (bd (fX8_isBelow ((v16 - v18) - v20) l4 M12) fun v22 M21 => (if v22 = 0 then (gI M21 3 12 l0 fun v23 => (if v23 < (200 : Int32) then (gR M21 3 2 l0 fun r24 => (rJ M21 r24 l3 fun v25 => (wJ M21 r24 l3 (v25 + l4) fun M26 => (gI M26 3 15 l0 fun v27 => (pI M26 3 15 l0 (v27 + (1 : Int32)) fun M28 => (cV M28 3 l0 (fX3_append l0 l1 M28) fun v30 M29 => some (v30, M29))))))) else some ((-8 : Int32), M21))) else some ((-6 : Int32), M21))))))))) else some ((-2 : Int32), M12))) else some (v13, M12))))))))) else fX3_addHold_20   M1))))
set_option maxHeartbeats 4000000 in
set_option maxRecDepth 100000 in
theorem jX3_addHold (G : Gx) (l : Launch) (l0 : Nat) (l1 : Int64) (l3 : Int32) (l4 : Int64) (M : Mem) : J G l cX3_addHold 7 RX3 (some .int) "addHold" 3 68 (QM G (fun v : Int32 => some (.int v))) 0 [(0, .ref (adr G l0)), (1, .long l1), (3, .int l3), (4, .long l4)] [] M (fX3_addHold l0 l1 l3 l4 M) := by
  unfold fX3_addHold
  refine J_lload_n dX3_addHold_0 1 rfl ?_
  refine J_lconst (v := 0) dX3_addHold_1 (by decide) ?_
  refine J_lcmp_eq (tgt := 20) dX3_addHold_2 dX3_addHold_3 (by decide) ?_ ?_
  · refine J_sub [] rfl ?_
    exact jX3_addHold_20 G l    _
  · refine J_iload_n dX3_addHold_6 2 rfl ?_
    refine J_callSNi (host := "ChainBooks") (okX8_isByte G l _ _) mkX8_isByte (List.mem_of_getElem? (i := 14) rfl) w_86 ⟨by decide, by decide⟩ rfl (Nat.le_of_ble_eq_true rfl) dX3_addHold_7 (fun v2 M1 => ?_)
    refine J_if_eq (tgt := 20) dX3_addHold_10 (by decide) ?_ ?_
    · refine J_sub [] rfl ?_
      exact jX3_addHold_20 G l    _
    · refine J_lload dX3_addHold_13 3 rfl ?_
      refine J_lconst (v := 0) dX3_addHold_15 (by decide) ?_
      refine J_lcmp_gt (tgt := 22) dX3_addHold_16 dX3_addHold_17 (by decide) ?_ ?_
      · refine J_aload_n dX3_addHold_22 0 rfl ?_
        refine J_getR fd_3_13 w_24 rfl dX3_addHold_23 (fun r3 => ?_)
        refine J_iconst (v := 3) dX3_addHold_26 (by decide) ?_
        refine J_lload_n dX3_addHold_27 1 rfl ?_
        refine J_callVv (okX1_beginKeyed G l _ _ _ _) mkX1_beginKeyed _ _ rfl w_136 w_137 w_138 ⟨by decide, by decide⟩ rfl (Nat.le_of_ble_eq_true rfl) dX3_addHold_28 (fun _u5 M4 => ?_)
        refine J_aload_n dX3_addHold_31 0 rfl ?_
        refine J_getR fd_3_13 w_24 rfl dX3_addHold_32 (fun r6 => ?_)
        refine J_iload_n dX3_addHold_35 2 rfl ?_
        refine J_i2l dX3_addHold_36 ?_
        refine J_iconst (v := 1) dX3_addHold_37 (by decide) ?_
        refine J_callVv (okX1_add G l _ _ _ _) mkX1_add _ _ rfl w_69 w_63 w_64 ⟨by decide, by decide⟩ rfl (Nat.le_of_ble_eq_true rfl) dX3_addHold_38 (fun _u8 M7 => ?_)
        refine J_aload_n dX3_addHold_41 0 rfl ?_
        refine J_getR fd_3_13 w_24 rfl dX3_addHold_42 (fun r9 => ?_)
        refine J_lload dX3_addHold_45 3 rfl ?_
        refine J_bipush (v := 8) dX3_addHold_47 (by decide) ?_
        refine J_callVv (okX1_add G l _ _ _ _) mkX1_add _ _ rfl w_69 w_63 w_64 ⟨by decide, by decide⟩ rfl (Nat.le_of_ble_eq_true rfl) dX3_addHold_49 (fun _u11 M10 => ?_)
        refine J_aload_n dX3_addHold_52 0 rfl ?_
        refine J_lload_n dX3_addHold_53 1 rfl ?_
        refine J_callVi (okX3_answeredBefore G l _ _ _) mkX3_answeredBefore _ _ rfl w_103 w_104 w_105 ⟨by decide, by decide⟩ rfl (Nat.le_of_ble_eq_true rfl) dX3_addHold_54 (fun v13 M12 => ?_)
        refine J_istore (lv' := [(6, .int _), (0, .ref _), (1, .long _), (3, .int _), (4, .long _)]) dX3_addHold_57 (by decide) rfl ?_
        refine J_iload dX3_addHold_59 0 rfl ?_
        refine J_iconst (v := -1) dX3_addHold_61 (by decide) ?_
        refine J_icmp_eq (tgt := 68) dX3_addHold_62 (by decide) ?_ ?_
        · refine J_iload_n dX3_addHold_68 3 rfl ?_
          refine J_aload_n dX3_addHold_69 1 rfl ?_
          refine J_getI fd_3_4 w_59 rfl dX3_addHold_70 ?_
          refine J_icmp_lt (tgt := 79) dX3_addHold_73 (by decide) ?_ ?_
          · refine J_aload_n dX3_addHold_79 1 rfl ?_
            refine J_getR fd_3_1 w_7 rfl dX3_addHold_80 (fun r15 => ?_)
            refine J_iload_n dX3_addHold_83 3 rfl ?_
            refine J_lald dX3_addHold_84 ?_
            refine J_aload_n dX3_addHold_85 1 rfl ?_
            refine J_getR fd_3_0 w_6 rfl dX3_addHold_86 (fun r17 => ?_)
            refine J_iload_n dX3_addHold_89 3 rfl ?_
            refine J_lald dX3_addHold_90 ?_
            refine J_lsub dX3_addHold_91 ?_
            refine J_aload_n dX3_addHold_92 1 rfl ?_
            refine J_getR fd_3_2 w_8 rfl dX3_addHold_93 (fun r19 => ?_)
            refine J_iload_n dX3_addHold_96 3 rfl ?_
            refine J_lald dX3_addHold_97 ?_
            refine J_lsub dX3_addHold_98 ?_
            refine J_lload dX3_addHold_99 4 rfl ?_
            refine J_callSNi (host := "ChainBooks") (okX8_isBelow G l _ _ _) mkX8_isBelow (List.mem_of_getElem? (i := 13) rfl) w_118 ⟨by decide, by decide⟩ rfl (Nat.le_of_ble_eq_true rfl) dX3_addHold_101 (fun v22 M21 => ?_)
            refine J_if_eq (tgt := 110) dX3_addHold_104 (by decide) ?_ ?_
            · refine J_aload_n dX3_addHold_110 1 rfl ?_
              refine J_getI fd_3_12 w_58 rfl dX3_addHold_111 ?_
              refine J_sipush (v := 200) dX3_addHold_114 (by decide) ?_
              refine J_icmp_lt (tgt := 123) dX3_addHold_117 (by decide) ?_ ?_
              · refine J_aload_n dX3_addHold_123 1 rfl ?_
                refine J_getR fd_3_2 w_8 rfl dX3_addHold_124 (fun r24 => ?_)
                refine J_iload_n dX3_addHold_127 3 rfl ?_
                refine J_dup2 dX3_addHold_128 rfl rfl ?_
                refine J_lald dX3_addHold_129 ?_
                refine J_lload dX3_addHold_130 4 rfl ?_
                refine J_ladd dX3_addHold_132 ?_
                refine J_last dX3_addHold_133 ?_
                refine J_aload_n dX3_addHold_134 1 rfl ?_
                refine J_dup dX3_addHold_135 rfl ?_
                refine J_getI fd_3_15 w_143 rfl dX3_addHold_136 ?_
                refine J_iconst (v := 1) dX3_addHold_139 (by decide) ?_
                refine J_iadd dX3_addHold_140 ?_
                refine J_putI fd_3_15 w_143 dX3_addHold_141 ?_
                refine J_aload_n dX3_addHold_144 1 rfl ?_
                refine J_lload_n dX3_addHold_145 2 rfl ?_
                refine J_callVi (okX3_append G l _ _ _) mkX3_append _ _ rfl w_77 w_78 w_79 ⟨by decide, by decide⟩ rfl (Nat.le_of_ble_eq_true rfl) dX3_addHold_146 (fun v30 M29 => ?_)
                exact J_iret dX3_addHold_149
              · refine J_bipush (v := -8) dX3_addHold_120 (by decide) ?_
                exact J_iret dX3_addHold_122
            · refine J_bipush (v := -6) dX3_addHold_107 (by decide) ?_
              exact J_iret dX3_addHold_109
          · refine J_bipush (v := -2) dX3_addHold_76 (by decide) ?_
            exact J_iret dX3_addHold_78
        · refine J_iload dX3_addHold_65 0 rfl ?_
          exact J_iret dX3_addHold_67
      · refine J_sub [] rfl ?_
        exact jX3_addHold_20 G l    _
theorem okX3_addHold (G : Gx) (l : Launch) (l0 : Nat) (l1 : Int64) (l3 : Int32) (l4 : Int64) (M : Mem) : Con G l yX3_addHold cX3_addHold 7 (some .int) 3 68 (fun v : Int32 => some (.int v)) [.ref (adr G l0), .long l1, .int l3, .long l4] M (fX3_addHold l0 l1 l3 l4 M) := con_of (own := RX3) (nm := "addHold") (by decide +kernel) rfl rfl (Nat.le_of_ble_eq_true rfl) (jX3_addHold G l l0 l1 l3 l4 M)
theorem mkX3_addHold : MOk yX3_addHold cX3_addHold 7 (some .int) 3 := ⟨w_144, tb1 (List.mem_of_getElem? (i := 2) rfl) rfl, by decide +kernel, by decide +kernel, by decide +kernel⟩
-- X8_canBeEntry
def fX8_canBeEntry_16  (s0 : Int32) (M : Mem) : Option (Int32 × Mem) := retZ s0 (some (s0, M))
set_option maxHeartbeats 4000000 in
set_option maxRecDepth 100000 in
theorem jX8_canBeEntry_16 (G : Gx) (l : Launch)   (s0 : Int32) (M : Mem) : J G l cX8_canBeEntry 1 RX8 (some .boolean) "canBeEntry" 0 0 (QM G (fun v : Int32 => some (.int v))) 16 [] [.int s0] M (fX8_canBeEntry_16  s0 M) := by
  unfold fX8_canBeEntry_16
  exact J_zret dX8_canBeEntry_16
def fX8_canBeEntry_15   (M : Mem) : Option (Int32 × Mem) := fX8_canBeEntry_16  (0 : Int32) M
set_option maxHeartbeats 4000000 in
set_option maxRecDepth 100000 in
theorem jX8_canBeEntry_15 (G : Gx) (l : Launch)    (M : Mem) : J G l cX8_canBeEntry 1 RX8 (some .boolean) "canBeEntry" 0 0 (QM G (fun v : Int32 => some (.int v))) 15 [] [] M (fX8_canBeEntry_15   M) := by
  unfold fX8_canBeEntry_15
  refine J_iconst (v := 0) dX8_canBeEntry_15 (by decide) ?_
  refine J_sub [] rfl ?_
  exact jX8_canBeEntry_16 G l   _ _
def fX8_canBeEntry (l0 : Int32) (M : Mem) : Option (Int32 × Mem) := (if l0 < 0 then fX8_canBeEntry_15   M else (if (200 : Int32) ≤ l0 then fX8_canBeEntry_15   M else fX8_canBeEntry_16  (1 : Int32) M))
set_option maxHeartbeats 4000000 in
set_option maxRecDepth 100000 in
theorem jX8_canBeEntry (G : Gx) (l : Launch) (l0 : Int32) (M : Mem) : J G l cX8_canBeEntry 1 RX8 (some .boolean) "canBeEntry" 0 0 (QM G (fun v : Int32 => some (.int v))) 0 [(0, .int l0)] [] M (fX8_canBeEntry l0 M) := by
  unfold fX8_canBeEntry
  refine J_iload_n dX8_canBeEntry_0 0 rfl ?_
  refine J_if_lt (tgt := 15) dX8_canBeEntry_1 (by decide) ?_ ?_
  · refine J_sub [] rfl ?_
    exact jX8_canBeEntry_15 G l    _
  · refine J_iload_n dX8_canBeEntry_4 0 rfl ?_
    refine J_sipush (v := 200) dX8_canBeEntry_5 (by decide) ?_
    refine J_icmp_ge (tgt := 15) dX8_canBeEntry_8 (by decide) ?_ ?_
    · refine J_sub [] rfl ?_
      exact jX8_canBeEntry_15 G l    _
    · refine J_iconst (v := 1) dX8_canBeEntry_11 (by decide) ?_
      refine J_goto (tgt := 16) dX8_canBeEntry_12 (by decide) ?_
      refine J_sub [] rfl ?_
      exact jX8_canBeEntry_16 G l   _ _
theorem okX8_canBeEntry (G : Gx) (l : Launch) (l0 : Int32) (M : Mem) : Con G l yX8_canBeEntry cX8_canBeEntry 1 (some .boolean) 0 0 (fun v : Int32 => some (.int v)) [.int l0] M (fX8_canBeEntry l0 M) := con_of (own := RX8) (nm := "canBeEntry") (by decide +kernel) rfl rfl (Nat.le_of_ble_eq_true rfl) (jX8_canBeEntry G l l0 M)
theorem mkX8_canBeEntry : MOk yX8_canBeEntry cX8_canBeEntry 1 (some .boolean) 1 := ⟨w_148, tb1 (List.mem_of_getElem? (i := 1) rfl) rfl, by decide +kernel, by decide +kernel, by decide +kernel⟩
-- X3_kindOf
def fX3_kindOf (l0 : Nat) (l1 : Int32) (M : Mem) : Option (Int32 × Mem) := (gR M 3 5 l0 fun r1 => (gR M 3 6 l0 fun r2 => (rI M .int r2 l1 fun v3 => (rI M .byte r1 v3 fun v4 => some (v4, M)))))
set_option maxHeartbeats 4000000 in
set_option maxRecDepth 100000 in
theorem jX3_kindOf (G : Gx) (l : Launch) (l0 : Nat) (l1 : Int32) (M : Mem) : J G l cX3_kindOf 2 RX3 (some .int) "kindOf" 0 0 (QM G (fun v : Int32 => some (.int v))) 0 [(0, .ref (adr G l0)), (1, .int l1)] [] M (fX3_kindOf l0 l1 M) := by
  unfold fX3_kindOf
  refine J_aload_n dX3_kindOf_0 0 rfl ?_
  refine J_getR fd_3_5 w_11 rfl dX3_kindOf_1 (fun r1 => ?_)
  refine J_aload_n dX3_kindOf_4 0 rfl ?_
  refine J_getR fd_3_6 w_13 rfl dX3_kindOf_5 (fun r2 => ?_)
  refine J_iload_n dX3_kindOf_8 1 rfl ?_
  refine J_iald dX3_kindOf_9 ?_
  refine J_bald dX3_kindOf_10 ?_
  exact J_iret dX3_kindOf_11
theorem okX3_kindOf (G : Gx) (l : Launch) (l0 : Nat) (l1 : Int32) (M : Mem) : Con G l yX3_kindOf cX3_kindOf 2 (some .int) 0 0 (fun v : Int32 => some (.int v)) [.ref (adr G l0), .int l1] M (fX3_kindOf l0 l1 M) := con_of (own := RX3) (nm := "kindOf") (by decide +kernel) rfl rfl (Nat.le_of_ble_eq_true rfl) (jX3_kindOf G l l0 l1 M)
theorem mkX3_kindOf : MOk yX3_kindOf cX3_kindOf 2 (some .int) 1 := ⟨w_150, tb1 (List.mem_of_getElem? (i := 2) rfl) rfl, by decide +kernel, by decide +kernel, by decide +kernel⟩
-- X3_isHoldThere
def fX3_isHoldThere_32  (s0 : Int32) (M : Mem) : Option (Int32 × Mem) := retZ s0 (some (s0, M))
set_option maxHeartbeats 4000000 in
set_option maxRecDepth 100000 in
theorem jX3_isHoldThere_32 (G : Gx) (l : Launch)   (s0 : Int32) (M : Mem) : J G l cX3_isHoldThere 2 RX3 (some .boolean) "isHoldThere" 1 21 (QM G (fun v : Int32 => some (.int v))) 32 [] [.int s0] M (fX3_isHoldThere_32  s0 M) := by
  unfold fX3_isHoldThere_32
  exact J_zret dX3_isHoldThere_32
def fX3_isHoldThere_31   (M : Mem) : Option (Int32 × Mem) := fX3_isHoldThere_32  (0 : Int32) M
set_option maxHeartbeats 4000000 in
set_option maxRecDepth 100000 in
theorem jX3_isHoldThere_31 (G : Gx) (l : Launch)    (M : Mem) : J G l cX3_isHoldThere 2 RX3 (some .boolean) "isHoldThere" 1 21 (QM G (fun v : Int32 => some (.int v))) 31 [] [] M (fX3_isHoldThere_31   M) := by
  unfold fX3_isHoldThere_31
  refine J_iconst (v := 0) dX3_isHoldThere_31 (by decide) ?_
  refine J_sub [] rfl ?_
  exact jX3_isHoldThere_32 G l   _ _
def fX3_isHoldThere (l0 : Nat) (l1 : Int32) (M : Mem) : Option (Int32 × Mem) := (gI M 3 12 l0 fun v1 => (if v1 ≤ l1 then fX3_isHoldThere_31   M else (cV M 3 l0 (fX3_kindOf l0 l1 M) fun v3 M2 => (if v3 = (3 : Int32) then (gR M2 3 8 l0 fun r4 => (rI M2 .int r4 l1 fun v5 => (if v5 = (-1 : Int32) then fX3_isHoldThere_32  (1 : Int32) M2 else fX3_isHoldThere_31   M2))) else fX3_isHoldThere_31   M2))))
set_option maxHeartbeats 4000000 in
set_option maxRecDepth 100000 in
theorem jX3_isHoldThere (G : Gx) (l : Launch) (l0 : Nat) (l1 : Int32) (M : Mem) : J G l cX3_isHoldThere 2 RX3 (some .boolean) "isHoldThere" 1 21 (QM G (fun v : Int32 => some (.int v))) 0 [(0, .ref (adr G l0)), (1, .int l1)] [] M (fX3_isHoldThere l0 l1 M) := by
  unfold fX3_isHoldThere
  refine J_iload_n dX3_isHoldThere_0 1 rfl ?_
  refine J_aload_n dX3_isHoldThere_1 0 rfl ?_
  refine J_getI fd_3_12 w_58 rfl dX3_isHoldThere_2 ?_
  refine J_icmp_ge (tgt := 31) dX3_isHoldThere_5 (by decide) ?_ ?_
  · refine J_sub [] rfl ?_
    exact jX3_isHoldThere_31 G l    _
  · refine J_aload_n dX3_isHoldThere_8 0 rfl ?_
    refine J_iload_n dX3_isHoldThere_9 1 rfl ?_
    refine J_callVi (okX3_kindOf G l _ _ _) mkX3_kindOf _ _ rfl w_151 w_152 w_153 ⟨by decide, by decide⟩ rfl (Nat.le_of_ble_eq_true rfl) dX3_isHoldThere_10 (fun v3 M2 => ?_)
    refine J_iconst (v := 3) dX3_isHoldThere_13 (by decide) ?_
    refine J_icmp_ne (tgt := 31) dX3_isHoldThere_14 (by decide) ?_ ?_
    · refine J_sub [] rfl ?_
      exact jX3_isHoldThere_31 G l    _
    · refine J_aload_n dX3_isHoldThere_17 0 rfl ?_
      refine J_getR fd_3_8 w_15 rfl dX3_isHoldThere_18 (fun r4 => ?_)
      refine J_iload_n dX3_isHoldThere_21 1 rfl ?_
      refine J_iald dX3_isHoldThere_22 ?_
      refine J_iconst (v := -1) dX3_isHoldThere_23 (by decide) ?_
      refine J_icmp_ne (tgt := 31) dX3_isHoldThere_24 (by decide) ?_ ?_
      · refine J_sub [] rfl ?_
        exact jX3_isHoldThere_31 G l    _
      · refine J_iconst (v := 1) dX3_isHoldThere_27 (by decide) ?_
        refine J_goto (tgt := 32) dX3_isHoldThere_28 (by decide) ?_
        refine J_sub [] rfl ?_
        exact jX3_isHoldThere_32 G l   _ _
theorem okX3_isHoldThere (G : Gx) (l : Launch) (l0 : Nat) (l1 : Int32) (M : Mem) : Con G l yX3_isHoldThere cX3_isHoldThere 2 (some .boolean) 1 21 (fun v : Int32 => some (.int v)) [.ref (adr G l0), .int l1] M (fX3_isHoldThere l0 l1 M) := con_of (own := RX3) (nm := "isHoldThere") (by decide +kernel) rfl rfl (Nat.le_of_ble_eq_true rfl) (jX3_isHoldThere G l l0 l1 M)
theorem mkX3_isHoldThere : MOk yX3_isHoldThere cX3_isHoldThere 2 (some .boolean) 1 := ⟨w_154, tb1 (List.mem_of_getElem? (i := 2) rfl) rfl, by decide +kernel, by decide +kernel, by decide +kernel⟩
-- X3_accountHeld
def fX3_accountHeld (l0 : Nat) (l1 : Int32) (M : Mem) : Option (Int32 × Mem) := (gR M 3 5 l0 fun r1 => (gR M 3 6 l0 fun r2 => (rI M .int r2 l1 fun v3 => (rI M .byte r1 (v3 + (9 : Int32)) fun v4 => some ((v4 &&& (255 : Int32)), M)))))
set_option maxHeartbeats 4000000 in
set_option maxRecDepth 100000 in
theorem jX3_accountHeld (G : Gx) (l : Launch) (l0 : Nat) (l1 : Int32) (M : Mem) : J G l cX3_accountHeld 2 RX3 (some .int) "accountHeld" 0 0 (QM G (fun v : Int32 => some (.int v))) 0 [(0, .ref (adr G l0)), (1, .int l1)] [] M (fX3_accountHeld l0 l1 M) := by
  unfold fX3_accountHeld
  refine J_aload_n dX3_accountHeld_0 0 rfl ?_
  refine J_getR fd_3_5 w_11 rfl dX3_accountHeld_1 (fun r1 => ?_)
  refine J_aload_n dX3_accountHeld_4 0 rfl ?_
  refine J_getR fd_3_6 w_13 rfl dX3_accountHeld_5 (fun r2 => ?_)
  refine J_iload_n dX3_accountHeld_8 1 rfl ?_
  refine J_iald dX3_accountHeld_9 ?_
  refine J_bipush (v := 9) dX3_accountHeld_10 (by decide) ?_
  refine J_iadd dX3_accountHeld_12 ?_
  refine J_bald dX3_accountHeld_13 ?_
  refine J_sipush (v := 255) dX3_accountHeld_14 (by decide) ?_
  refine J_iand dX3_accountHeld_17 ?_
  exact J_iret dX3_accountHeld_18
theorem okX3_accountHeld (G : Gx) (l : Launch) (l0 : Nat) (l1 : Int32) (M : Mem) : Con G l yX3_accountHeld cX3_accountHeld 2 (some .int) 0 0 (fun v : Int32 => some (.int v)) [.ref (adr G l0), .int l1] M (fX3_accountHeld l0 l1 M) := con_of (own := RX3) (nm := "accountHeld") (by decide +kernel) rfl rfl (Nat.le_of_ble_eq_true rfl) (jX3_accountHeld G l l0 l1 M)
theorem mkX3_accountHeld : MOk yX3_accountHeld cX3_accountHeld 2 (some .int) 1 := ⟨w_158, tb1 (List.mem_of_getElem? (i := 2) rfl) rfl, by decide +kernel, by decide +kernel, by decide +kernel⟩
-- X3_amountHeld
def fX3_amountHeld_6  : Nat → Nat → Int32 → Int64 → Int32 → Mem → Option (Int64 × Mem)
  | 0, _, _, _, _, _ => none
  | n + 1, l0, l1, l2, l4, M => (if (18 : Int32) ≤ l4 then some (l2, M) else (gR M 3 5 l0 fun r1 => (gR M 3 6 l0 fun r2 => (rI M .int r2 l1 fun v3 => (rI M .byte r1 (v3 + l4) fun v4 => fX3_amountHeld_6  n l0 l1 ((yshl l2 (8 : Int32)) ||| (v4 &&& (255 : Int32)).toInt64) (l4 + (1 : Int32)) M)))))
set_option maxHeartbeats 4000000 in
set_option maxRecDepth 100000 in
theorem jX3_amountHeld_6 (G : Gx) (l : Launch)   : ∀ (n : Nat) (l0 : Nat) (l1 : Int32) (l2 : Int64) (l4 : Int32) (M : Mem), J G l cX3_amountHeld 5 RX3 (some .long) "amountHeld" 0 0 (QM G (fun v : Int64 => some (.long v))) 6 [(0, .ref (adr G l0)), (1, .int l1), (2, .long l2), (4, .int l4)] [] M (fX3_amountHeld_6  n l0 l1 l2 l4 M) := by
  intro n
  induction n with
  | zero => intro l0 l1 l2 l4 M; exact J_none
  | succ n ih =>
    intro l0 l1 l2 l4 M
    rw [fX3_amountHeld_6]
    refine J_iload dX3_amountHeld_6 3 rfl ?_
    refine J_bipush (v := 18) dX3_amountHeld_8 (by decide) ?_
    refine J_icmp_ge (tgt := 44) dX3_amountHeld_10 (by decide) ?_ ?_
    · refine J_lload_n dX3_amountHeld_44 2 rfl ?_
      exact J_lret dX3_amountHeld_45
    · refine J_lload_n dX3_amountHeld_13 2 rfl ?_
      refine J_bipush (v := 8) dX3_amountHeld_14 (by decide) ?_
      refine J_lshlK dX3_amountHeld_16 ?_
      refine J_aload_n dX3_amountHeld_17 0 rfl ?_
      refine J_getR fd_3_5 w_11 rfl dX3_amountHeld_18 (fun r1 => ?_)
      refine J_aload_n dX3_amountHeld_21 0 rfl ?_
      refine J_getR fd_3_6 w_13 rfl dX3_amountHeld_22 (fun r2 => ?_)
      refine J_iload_n dX3_amountHeld_25 1 rfl ?_
      refine J_iald dX3_amountHeld_26 ?_
      refine J_iload dX3_amountHeld_27 3 rfl ?_
      refine J_iadd dX3_amountHeld_29 ?_
      refine J_bald dX3_amountHeld_30 ?_
      refine J_sipush (v := 255) dX3_amountHeld_31 (by decide) ?_
      refine J_iand dX3_amountHeld_34 ?_
      refine J_i2l dX3_amountHeld_35 ?_
      refine J_lor dX3_amountHeld_36 ?_
      refine J_lstore_n (lv' := [(2, .long _), (0, .ref _), (1, .int _), (4, .int _)]) dX3_amountHeld_37 (by decide) rfl ?_
      refine J_iincK (z := 1) (lv' := [(4, .int _), (2, .long _), (0, .ref _), (1, .int _)]) dX3_amountHeld_38 3 rfl (by decide) (by decide) rfl ?_
      refine J_goto (tgt := 6) dX3_amountHeld_41 (by decide) ?_
      refine J_sub [2, 3, 1, 0] rfl ?_
      exact ih _ _ _ _ _
def fX3_amountHeld (l0 : Nat) (l1 : Int32) (M : Mem) : Option (Int64 × Mem) := fX3_amountHeld_6  FU l0 l1 (0 : Int64) (10 : Int32) M
set_option maxHeartbeats 4000000 in
set_option maxRecDepth 100000 in
theorem jX3_amountHeld (G : Gx) (l : Launch) (l0 : Nat) (l1 : Int32) (M : Mem) : J G l cX3_amountHeld 5 RX3 (some .long) "amountHeld" 0 0 (QM G (fun v : Int64 => some (.long v))) 0 [(0, .ref (adr G l0)), (1, .int l1)] [] M (fX3_amountHeld l0 l1 M) := by
  unfold fX3_amountHeld
  refine J_lconst (v := 0) dX3_amountHeld_0 (by decide) ?_
  refine J_lstore_n (lv' := [(2, .long _), (0, .ref _), (1, .int _)]) dX3_amountHeld_1 (by decide) rfl ?_
  refine J_bipush (v := 10) dX3_amountHeld_2 (by decide) ?_
  refine J_istore (lv' := [(4, .int _), (2, .long _), (0, .ref _), (1, .int _)]) dX3_amountHeld_4 (by decide) rfl ?_
  refine J_sub [2, 3, 1, 0] rfl ?_
  exact jX3_amountHeld_6 G l   FU _ _ _ _ _
theorem okX3_amountHeld (G : Gx) (l : Launch) (l0 : Nat) (l1 : Int32) (M : Mem) : Con G l yX3_amountHeld cX3_amountHeld 5 (some .long) 0 0 (fun v : Int64 => some (.long v)) [.ref (adr G l0), .int l1] M (fX3_amountHeld l0 l1 M) := con_of (own := RX3) (nm := "amountHeld") (by decide +kernel) rfl rfl (Nat.le_of_ble_eq_true rfl) (jX3_amountHeld G l l0 l1 M)
theorem mkX3_amountHeld : MOk yX3_amountHeld cX3_amountHeld 5 (some .long) 1 := ⟨w_162, tb1 (List.mem_of_getElem? (i := 2) rfl) rfl, by decide +kernel, by decide +kernel, by decide +kernel⟩
-- X3_endHold
def fX3_endHold (l0 : Nat) (l1 : Int32) (l2 : Int32) (M : Mem) : Option (Unit × Mem) := (gR M 3 2 l0 fun r1 => (cV M 3 l0 (fX3_accountHeld l0 l1 M) fun v3 M2 => (rJ M2 r1 v3 fun v4 => (cV M2 3 l0 (fX3_amountHeld l0 l1 M2) fun v6 M5 => (wJ M5 r1 v3 (v4 - v6) fun M7 => (gI M7 3 15 l0 fun v8 => (pI M7 3 15 l0 (v8 - (1 : Int32)) fun M9 => (gR M9 3 8 l0 fun r10 => (wI M9 .int r10 l1 l2 fun M11 => some ((), M11))))))))))
set_option maxHeartbeats 4000000 in
set_option maxRecDepth 100000 in
theorem jX3_endHold (G : Gx) (l : Launch) (l0 : Nat) (l1 : Int32) (l2 : Int32) (M : Mem) : J G l cX3_endHold 3 RX3 none "endHold" 1 24 (QM G (fun _ : Unit => none)) 0 [(0, .ref (adr G l0)), (1, .int l1), (2, .int l2)] [] M (fX3_endHold l0 l1 l2 M) := by
  unfold fX3_endHold
  refine J_aload_n dX3_endHold_0 0 rfl ?_
  refine J_getR fd_3_2 w_8 rfl dX3_endHold_1 (fun r1 => ?_)
  refine J_aload_n dX3_endHold_4 0 rfl ?_
  refine J_iload_n dX3_endHold_5 1 rfl ?_
  refine J_callVi (okX3_accountHeld G l _ _ _) mkX3_accountHeld _ _ rfl w_159 w_160 w_161 ⟨by decide, by decide⟩ rfl (Nat.le_of_ble_eq_true rfl) dX3_endHold_6 (fun v3 M2 => ?_)
  refine J_dup2 dX3_endHold_9 rfl rfl ?_
  refine J_lald dX3_endHold_10 ?_
  refine J_aload_n dX3_endHold_11 0 rfl ?_
  refine J_iload_n dX3_endHold_12 1 rfl ?_
  refine J_callVl (okX3_amountHeld G l _ _ _) mkX3_amountHeld _ _ rfl w_163 w_164 w_165 ⟨by decide, by decide⟩ rfl (Nat.le_of_ble_eq_true rfl) dX3_endHold_13 (fun v6 M5 => ?_)
  refine J_lsub dX3_endHold_16 ?_
  refine J_last dX3_endHold_17 ?_
  refine J_aload_n dX3_endHold_18 0 rfl ?_
  refine J_dup dX3_endHold_19 rfl ?_
  refine J_getI fd_3_15 w_143 rfl dX3_endHold_20 ?_
  refine J_iconst (v := 1) dX3_endHold_23 (by decide) ?_
  refine J_isub dX3_endHold_24 ?_
  refine J_putI fd_3_15 w_143 dX3_endHold_25 ?_
  refine J_aload_n dX3_endHold_28 0 rfl ?_
  refine J_getR fd_3_8 w_15 rfl dX3_endHold_29 (fun r10 => ?_)
  refine J_iload_n dX3_endHold_32 1 rfl ?_
  refine J_iload_n dX3_endHold_33 2 rfl ?_
  refine J_iast dX3_endHold_34 ?_
  exact J_vret dX3_endHold_35
theorem okX3_endHold (G : Gx) (l : Launch) (l0 : Nat) (l1 : Int32) (l2 : Int32) (M : Mem) : Con G l yX3_endHold cX3_endHold 3 none 1 24 (fun _ : Unit => none) [.ref (adr G l0), .int l1, .int l2] M (fX3_endHold l0 l1 l2 M) := con_of (own := RX3) (nm := "endHold") (by decide +kernel) rfl rfl (Nat.le_of_ble_eq_true rfl) (jX3_endHold G l l0 l1 l2 M)
theorem mkX3_endHold : MOk yX3_endHold cX3_endHold 3 none 2 := ⟨w_166, tb1 (List.mem_of_getElem? (i := 2) rfl) rfl, by decide +kernel, by decide +kernel, by decide +kernel⟩
