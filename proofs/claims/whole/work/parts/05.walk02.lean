-- X3_addRelease
def fX3_addRelease (l0 : Nat) (l1 : Int32) (M : Mem) : Option (Int32 × Mem) := (bd (fX8_canBeEntry l1 M) fun v2 M1 => (if v2 = 0 then some ((-1 : Int32), M1) else (cV M1 3 l0 (fX3_isHoldThere l0 l1 M1) fun v4 M3 => (if v4 = 0 then some ((-2 : Int32), M3) else (gI M3 3 12 l0 fun v5 => (if v5 < (200 : Int32) then (gR M3 3 13 l0 fun r6 => (cV M3 1 r6 (fX1_begin r6 (4 : Int32) M3) fun _u8 M7 => (gR M7 3 13 l0 fun r9 => (cV M7 1 r9 (fX1_add r9 l1.toInt64 (2 : Int32) M7) fun _u11 M10 => (gI M10 3 12 l0 fun v12 => (cV M10 3 l0 (fX3_endHold l0 l1 v12 M10) fun _u14 M13 => (cV M13 3 l0 (fX3_append l0 (0 : Int64) M13) fun v16 M15 => some (v16, M15)))))))) else some ((-8 : Int32), M3)))))))
set_option maxHeartbeats 4000000 in
set_option maxRecDepth 100000 in
theorem jX3_addRelease (G : Gx) (l : Launch) (l0 : Nat) (l1 : Int32) (M : Mem) : J G l cX3_addRelease 2 RX3 (some .int) "addRelease" 2 46 (QM G (fun v : Int32 => some (.int v))) 0 [(0, .ref (adr G l0)), (1, .int l1)] [] M (fX3_addRelease l0 l1 M) := by
  unfold fX3_addRelease
  refine J_iload_n dX3_addRelease_0 1 rfl ?_
  refine J_callSNi (host := "ChainBooks") (okX8_canBeEntry G l _ _) mkX8_canBeEntry (List.mem_of_getElem? (i := 15) rfl) w_149 ⟨by decide, by decide⟩ rfl (Nat.le_of_ble_eq_true rfl) dX3_addRelease_1 (fun v2 M1 => ?_)
  refine J_if_ne (tgt := 9) dX3_addRelease_4 (by decide) ?_ ?_
  · refine J_aload_n dX3_addRelease_9 0 rfl ?_
    refine J_iload_n dX3_addRelease_10 1 rfl ?_
    refine J_callVi (okX3_isHoldThere G l _ _ _) mkX3_isHoldThere _ _ rfl w_155 w_156 w_157 ⟨by decide, by decide⟩ rfl (Nat.le_of_ble_eq_true rfl) dX3_addRelease_11 (fun v4 M3 => ?_)
    refine J_if_ne (tgt := 20) dX3_addRelease_14 (by decide) ?_ ?_
    · refine J_aload_n dX3_addRelease_20 0 rfl ?_
      refine J_getI fd_3_12 w_58 rfl dX3_addRelease_21 ?_
      refine J_sipush (v := 200) dX3_addRelease_24 (by decide) ?_
      refine J_icmp_lt (tgt := 33) dX3_addRelease_27 (by decide) ?_ ?_
      · refine J_aload_n dX3_addRelease_33 0 rfl ?_
        refine J_getR fd_3_13 w_24 rfl dX3_addRelease_34 (fun r6 => ?_)
        refine J_iconst (v := 4) dX3_addRelease_37 (by decide) ?_
        refine J_callVv (okX1_begin G l _ _ _) mkX1_begin _ _ rfl w_66 w_67 w_68 ⟨by decide, by decide⟩ rfl (Nat.le_of_ble_eq_true rfl) dX3_addRelease_38 (fun _u8 M7 => ?_)
        refine J_aload_n dX3_addRelease_41 0 rfl ?_
        refine J_getR fd_3_13 w_24 rfl dX3_addRelease_42 (fun r9 => ?_)
        refine J_iload_n dX3_addRelease_45 1 rfl ?_
        refine J_i2l dX3_addRelease_46 ?_
        refine J_iconst (v := 2) dX3_addRelease_47 (by decide) ?_
        refine J_callVv (okX1_add G l _ _ _ _) mkX1_add _ _ rfl w_69 w_63 w_64 ⟨by decide, by decide⟩ rfl (Nat.le_of_ble_eq_true rfl) dX3_addRelease_48 (fun _u11 M10 => ?_)
        refine J_aload_n dX3_addRelease_51 0 rfl ?_
        refine J_iload_n dX3_addRelease_52 1 rfl ?_
        refine J_aload_n dX3_addRelease_53 0 rfl ?_
        refine J_getI fd_3_12 w_58 rfl dX3_addRelease_54 ?_
        refine J_callVv (okX3_endHold G l _ _ _ _) mkX3_endHold _ _ rfl w_167 w_168 w_169 ⟨by decide, by decide⟩ rfl (Nat.le_of_ble_eq_true rfl) dX3_addRelease_57 (fun _u14 M13 => ?_)
        refine J_aload_n dX3_addRelease_60 0 rfl ?_
        refine J_lconst (v := 0) dX3_addRelease_61 (by decide) ?_
        refine J_callVi (okX3_append G l _ _ _) mkX3_append _ _ rfl w_77 w_78 w_79 ⟨by decide, by decide⟩ rfl (Nat.le_of_ble_eq_true rfl) dX3_addRelease_62 (fun v16 M15 => ?_)
        exact J_iret dX3_addRelease_65
      · refine J_bipush (v := -8) dX3_addRelease_30 (by decide) ?_
        exact J_iret dX3_addRelease_32
    · refine J_bipush (v := -2) dX3_addRelease_17 (by decide) ?_
      exact J_iret dX3_addRelease_19
  · refine J_iconst (v := -1) dX3_addRelease_7 (by decide) ?_
    exact J_iret dX3_addRelease_8
theorem okX3_addRelease (G : Gx) (l : Launch) (l0 : Nat) (l1 : Int32) (M : Mem) : Con G l yX3_addRelease cX3_addRelease 2 (some .int) 2 46 (fun v : Int32 => some (.int v)) [.ref (adr G l0), .int l1] M (fX3_addRelease l0 l1 M) := con_of (own := RX3) (nm := "addRelease") (by decide +kernel) rfl rfl (Nat.le_of_ble_eq_true rfl) (jX3_addRelease G l l0 l1 M)
theorem mkX3_addRelease : MOk yX3_addRelease cX3_addRelease 2 (some .int) 1 := ⟨w_170, tb1 (List.mem_of_getElem? (i := 2) rfl) rfl, by decide +kernel, by decide +kernel, by decide +kernel⟩
-- X3_addCapture
def fX3_addCapture_115   (M : Mem) : Option (Int32 × Mem) := some ((-2 : Int32), M)
set_option maxHeartbeats 4000000 in
set_option maxRecDepth 100000 in
theorem jX3_addCapture_115 (G : Gx) (l : Launch)    (M : Mem) : J G l cX3_addCapture 9 RX3 (some .int) "addCapture" 4 95 (QM G (fun v : Int32 => some (.int v))) 115 [] [] M (fX3_addCapture_115   M) := by
  unfold fX3_addCapture_115
  refine J_bipush (v := -2) dX3_addCapture_115 (by decide) ?_
  exact J_iret dX3_addCapture_117
def fX3_addCapture_28   (M : Mem) : Option (Int32 × Mem) := some ((-1 : Int32), M)
set_option maxHeartbeats 4000000 in
set_option maxRecDepth 100000 in
theorem jX3_addCapture_28 (G : Gx) (l : Launch)    (M : Mem) : J G l cX3_addCapture 9 RX3 (some .int) "addCapture" 4 95 (QM G (fun v : Int32 => some (.int v))) 28 [] [] M (fX3_addCapture_28   M) := by
  unfold fX3_addCapture_28
  refine J_iconst (v := -1) dX3_addCapture_28 (by decide) ?_
  exact J_iret dX3_addCapture_29
def fX3_addCapture (l0 : Nat) (l1 : Int64) (l3 : Int32) (l4 : Int32) (l5 : Int64) (M : Mem) : Option (Int32 × Mem) := (if l1 = (0 : Int64) then fX3_addCapture_28   M else (bd (fX8_canBeEntry l3 M) fun v2 M1 => (if v2 = 0 then fX3_addCapture_28   M1 else (bd (fX8_isByte l4 M1) fun v4 M3 => (if v4 = 0 then fX3_addCapture_28   M3 else (if (0 : Int64) < l5 then (gR M3 3 13 l0 fun r5 => (cV M3 1 r5 (fX1_beginKeyed r5 (5 : Int32) l1 M3) fun _u7 M6 => (gR M6 3 13 l0 fun r8 => (cV M6 1 r8 (fX1_add r8 l3.toInt64 (2 : Int32) M6) fun _u10 M9 => (gR M9 3 13 l0 fun r11 => (cV M9 1 r11 (fX1_add r11 l4.toInt64 (1 : Int32) M9) fun _u13 M12 => (gR M12 3 13 l0 fun r14 => (cV M12 1 r14 (fX1_add r14 l5 (8 : Int32) M12) fun _u16 M15 => (cV M15 3 l0 (fX3_answeredBefore l0 l1 M15) fun v18 M17 => (if v18 = (-1 : Int32) then (cV M17 3 l0 (fX3_isHoldThere l0 l3 M17) fun v20 M19 => (if v20 = 0 then fX3_addCapture_115   M19 else (gI M19 3 4 l0 fun v21 => (if v21 ≤ l4 then fX3_addCapture_115   M19 else (cV M19 3 l0 (fX3_amountHeld l0 l3 M19) fun v23 M22 => (if l5 ≤ v23 then (gR M22 3 14 l0 fun r24 => (pI M22 4 2 r24 (0 : Int32) fun M25 => (gR M25 3 14 l0 fun r26 => (cV M25 3 l0 (fX3_accountHeld l0 l3 M25) fun v28 M27 => (cV M27 4 r26 (fX4_add r26 v28 (0 - l5) M27) fun v30 M29 => (gR M29 3 14 l0 fun r31 => (cV M29 4 r31 (fX4_add r31 l4 l5 M29) fun v33 M32 => (gR M32 3 14 l0 fun r34 => (cV M32 3 l0 (fX3_accountHeld l0 l3 M32) fun v36 M35 => (cV M35 3 l0 (fX3_amountHeld l0 l3 M35) fun v38 M37 => (cV M37 3 l0 (fX3_weigh l0 r34 v36 v38 M37) fun v40 M39 => (if v40 = 0 then (gI M39 3 12 l0 fun v41 => (cV M39 3 l0 (fX3_endHold l0 l3 v41 M39) fun _u43 M42 => (gR M42 3 14 l0 fun r44 => (cV M42 3 l0 (fX3_move l0 l1 r44 M42) fun v46 M45 => some (v46, M45))))) else some (v40, M39))))))))))))) else fX3_addCapture_115   M22)))))) else some (v18, M17))))))))))) else fX3_addCapture_28   M3))))))
set_option maxHeartbeats 4000000 in
set_option maxRecDepth 100000 in
theorem jX3_addCapture (G : Gx) (l : Launch) (l0 : Nat) (l1 : Int64) (l3 : Int32) (l4 : Int32) (l5 : Int64) (M : Mem) : J G l cX3_addCapture 9 RX3 (some .int) "addCapture" 4 95 (QM G (fun v : Int32 => some (.int v))) 0 [(0, .ref (adr G l0)), (1, .long l1), (3, .int l3), (4, .int l4), (5, .long l5)] [] M (fX3_addCapture l0 l1 l3 l4 l5 M) := by
  unfold fX3_addCapture
  refine J_lload_n dX3_addCapture_0 1 rfl ?_
  refine J_lconst (v := 0) dX3_addCapture_1 (by decide) ?_
  refine J_lcmp_eq (tgt := 28) dX3_addCapture_2 dX3_addCapture_3 (by decide) ?_ ?_
  · refine J_sub [] rfl ?_
    exact jX3_addCapture_28 G l    _
  · refine J_iload_n dX3_addCapture_6 2 rfl ?_
    refine J_callSNi (host := "ChainBooks") (okX8_canBeEntry G l _ _) mkX8_canBeEntry (List.mem_of_getElem? (i := 15) rfl) w_149 ⟨by decide, by decide⟩ rfl (Nat.le_of_ble_eq_true rfl) dX3_addCapture_7 (fun v2 M1 => ?_)
    refine J_if_eq (tgt := 28) dX3_addCapture_10 (by decide) ?_ ?_
    · refine J_sub [] rfl ?_
      exact jX3_addCapture_28 G l    _
    · refine J_iload dX3_addCapture_13 3 rfl ?_
      refine J_callSNi (host := "ChainBooks") (okX8_isByte G l _ _) mkX8_isByte (List.mem_of_getElem? (i := 14) rfl) w_86 ⟨by decide, by decide⟩ rfl (Nat.le_of_ble_eq_true rfl) dX3_addCapture_15 (fun v4 M3 => ?_)
      refine J_if_eq (tgt := 28) dX3_addCapture_18 (by decide) ?_ ?_
      · refine J_sub [] rfl ?_
        exact jX3_addCapture_28 G l    _
      · refine J_lload dX3_addCapture_21 4 rfl ?_
        refine J_lconst (v := 0) dX3_addCapture_23 (by decide) ?_
        refine J_lcmp_gt (tgt := 30) dX3_addCapture_24 dX3_addCapture_25 (by decide) ?_ ?_
        · refine J_aload_n dX3_addCapture_30 0 rfl ?_
          refine J_getR fd_3_13 w_24 rfl dX3_addCapture_31 (fun r5 => ?_)
          refine J_iconst (v := 5) dX3_addCapture_34 (by decide) ?_
          refine J_lload_n dX3_addCapture_35 1 rfl ?_
          refine J_callVv (okX1_beginKeyed G l _ _ _ _) mkX1_beginKeyed _ _ rfl w_136 w_137 w_138 ⟨by decide, by decide⟩ rfl (Nat.le_of_ble_eq_true rfl) dX3_addCapture_36 (fun _u7 M6 => ?_)
          refine J_aload_n dX3_addCapture_39 0 rfl ?_
          refine J_getR fd_3_13 w_24 rfl dX3_addCapture_40 (fun r8 => ?_)
          refine J_iload_n dX3_addCapture_43 2 rfl ?_
          refine J_i2l dX3_addCapture_44 ?_
          refine J_iconst (v := 2) dX3_addCapture_45 (by decide) ?_
          refine J_callVv (okX1_add G l _ _ _ _) mkX1_add _ _ rfl w_69 w_63 w_64 ⟨by decide, by decide⟩ rfl (Nat.le_of_ble_eq_true rfl) dX3_addCapture_46 (fun _u10 M9 => ?_)
          refine J_aload_n dX3_addCapture_49 0 rfl ?_
          refine J_getR fd_3_13 w_24 rfl dX3_addCapture_50 (fun r11 => ?_)
          refine J_iload dX3_addCapture_53 3 rfl ?_
          refine J_i2l dX3_addCapture_55 ?_
          refine J_iconst (v := 1) dX3_addCapture_56 (by decide) ?_
          refine J_callVv (okX1_add G l _ _ _ _) mkX1_add _ _ rfl w_69 w_63 w_64 ⟨by decide, by decide⟩ rfl (Nat.le_of_ble_eq_true rfl) dX3_addCapture_57 (fun _u13 M12 => ?_)
          refine J_aload_n dX3_addCapture_60 0 rfl ?_
          refine J_getR fd_3_13 w_24 rfl dX3_addCapture_61 (fun r14 => ?_)
          refine J_lload dX3_addCapture_64 4 rfl ?_
          refine J_bipush (v := 8) dX3_addCapture_66 (by decide) ?_
          refine J_callVv (okX1_add G l _ _ _ _) mkX1_add _ _ rfl w_69 w_63 w_64 ⟨by decide, by decide⟩ rfl (Nat.le_of_ble_eq_true rfl) dX3_addCapture_68 (fun _u16 M15 => ?_)
          refine J_aload_n dX3_addCapture_71 0 rfl ?_
          refine J_lload_n dX3_addCapture_72 1 rfl ?_
          refine J_callVi (okX3_answeredBefore G l _ _ _) mkX3_answeredBefore _ _ rfl w_103 w_104 w_105 ⟨by decide, by decide⟩ rfl (Nat.le_of_ble_eq_true rfl) dX3_addCapture_73 (fun v18 M17 => ?_)
          refine J_istore (lv' := [(7, .int _), (0, .ref _), (1, .long _), (3, .int _), (4, .int _), (5, .long _)]) dX3_addCapture_76 (by decide) rfl ?_
          refine J_iload dX3_addCapture_78 0 rfl ?_
          refine J_iconst (v := -1) dX3_addCapture_80 (by decide) ?_
          refine J_icmp_eq (tgt := 87) dX3_addCapture_81 (by decide) ?_ ?_
          · refine J_aload_n dX3_addCapture_87 1 rfl ?_
            refine J_iload_n dX3_addCapture_88 3 rfl ?_
            refine J_callVi (okX3_isHoldThere G l _ _ _) mkX3_isHoldThere _ _ rfl w_155 w_156 w_157 ⟨by decide, by decide⟩ rfl (Nat.le_of_ble_eq_true rfl) dX3_addCapture_89 (fun v20 M19 => ?_)
            refine J_if_eq (tgt := 115) dX3_addCapture_92 (by decide) ?_ ?_
            · refine J_sub [] rfl ?_
              exact jX3_addCapture_115 G l    _
            · refine J_iload dX3_addCapture_95 4 rfl ?_
              refine J_aload_n dX3_addCapture_97 1 rfl ?_
              refine J_getI fd_3_4 w_59 rfl dX3_addCapture_98 ?_
              refine J_icmp_ge (tgt := 115) dX3_addCapture_101 (by decide) ?_ ?_
              · refine J_sub [] rfl ?_
                exact jX3_addCapture_115 G l    _
              · refine J_lload dX3_addCapture_104 5 rfl ?_
                refine J_aload_n dX3_addCapture_106 1 rfl ?_
                refine J_iload_n dX3_addCapture_107 3 rfl ?_
                refine J_callVl (okX3_amountHeld G l _ _ _) mkX3_amountHeld _ _ rfl w_163 w_164 w_165 ⟨by decide, by decide⟩ rfl (Nat.le_of_ble_eq_true rfl) dX3_addCapture_108 (fun v23 M22 => ?_)
                refine J_lcmp_le (tgt := 118) dX3_addCapture_111 dX3_addCapture_112 (by decide) ?_ ?_
                · refine J_aload_n dX3_addCapture_118 1 rfl ?_
                  refine J_getR fd_3_14 w_31 rfl dX3_addCapture_119 (fun r24 => ?_)
                  refine J_iconst (v := 0) dX3_addCapture_122 (by decide) ?_
                  refine J_putI fd_4_2 w_97 dX3_addCapture_123 ?_
                  refine J_aload_n dX3_addCapture_126 1 rfl ?_
                  refine J_getR fd_3_14 w_31 rfl dX3_addCapture_127 (fun r26 => ?_)
                  refine J_aload_n dX3_addCapture_130 1 rfl ?_
                  refine J_iload_n dX3_addCapture_131 3 rfl ?_
                  refine J_callVi (okX3_accountHeld G l _ _ _) mkX3_accountHeld _ _ rfl w_159 w_160 w_161 ⟨by decide, by decide⟩ rfl (Nat.le_of_ble_eq_true rfl) dX3_addCapture_132 (fun v28 M27 => ?_)
                  refine J_lload dX3_addCapture_135 5 rfl ?_
                  refine J_lneg dX3_addCapture_137 ?_
                  refine J_callVi (okX4_add G l _ _ _ _) mkX4_add _ _ rfl w_174 w_90 w_91 ⟨by decide, by decide⟩ rfl (Nat.le_of_ble_eq_true rfl) dX3_addCapture_138 (fun v30 M29 => ?_)
                  refine J_pop dX3_addCapture_141 rfl ?_
                  refine J_aload_n dX3_addCapture_142 1 rfl ?_
                  refine J_getR fd_3_14 w_31 rfl dX3_addCapture_143 (fun r31 => ?_)
                  refine J_iload dX3_addCapture_146 4 rfl ?_
                  refine J_lload dX3_addCapture_148 5 rfl ?_
                  refine J_callVi (okX4_add G l _ _ _ _) mkX4_add _ _ rfl w_174 w_90 w_91 ⟨by decide, by decide⟩ rfl (Nat.le_of_ble_eq_true rfl) dX3_addCapture_150 (fun v33 M32 => ?_)
                  refine J_pop dX3_addCapture_153 rfl ?_
                  refine J_aload_n dX3_addCapture_154 1 rfl ?_
                  refine J_aload_n dX3_addCapture_155 1 rfl ?_
                  refine J_getR fd_3_14 w_31 rfl dX3_addCapture_156 (fun r34 => ?_)
                  refine J_aload_n dX3_addCapture_159 1 rfl ?_
                  refine J_iload_n dX3_addCapture_160 3 rfl ?_
                  refine J_callVi (okX3_accountHeld G l _ _ _) mkX3_accountHeld _ _ rfl w_159 w_160 w_161 ⟨by decide, by decide⟩ rfl (Nat.le_of_ble_eq_true rfl) dX3_addCapture_161 (fun v36 M35 => ?_)
                  refine J_aload_n dX3_addCapture_164 1 rfl ?_
                  refine J_iload_n dX3_addCapture_165 3 rfl ?_
                  refine J_callVl (okX3_amountHeld G l _ _ _) mkX3_amountHeld _ _ rfl w_163 w_164 w_165 ⟨by decide, by decide⟩ rfl (Nat.le_of_ble_eq_true rfl) dX3_addCapture_166 (fun v38 M37 => ?_)
                  refine J_callVi (okX3_weigh G l _ _ _ _ _) mkX3_weigh _ _ rfl w_121 w_122 w_123 ⟨by decide, by decide⟩ rfl (Nat.le_of_ble_eq_true rfl) dX3_addCapture_169 (fun v40 M39 => ?_)
                  refine J_istore (lv' := [(8, .int _), (7, .int _), (0, .ref _), (1, .long _), (3, .int _), (4, .int _), (5, .long _)]) dX3_addCapture_172 (by decide) rfl ?_
                  refine J_iload dX3_addCapture_174 0 rfl ?_
                  refine J_if_eq (tgt := 182) dX3_addCapture_176 (by decide) ?_ ?_
                  · refine J_aload_n dX3_addCapture_182 2 rfl ?_
                    refine J_iload_n dX3_addCapture_183 4 rfl ?_
                    refine J_aload_n dX3_addCapture_184 2 rfl ?_
                    refine J_getI fd_3_12 w_58 rfl dX3_addCapture_185 ?_
                    refine J_callVv (okX3_endHold G l _ _ _ _) mkX3_endHold _ _ rfl w_167 w_168 w_169 ⟨by decide, by decide⟩ rfl (Nat.le_of_ble_eq_true rfl) dX3_addCapture_188 (fun _u43 M42 => ?_)
                    refine J_aload_n dX3_addCapture_191 2 rfl ?_
                    refine J_lload_n dX3_addCapture_192 3 rfl ?_
                    refine J_aload_n dX3_addCapture_193 2 rfl ?_
                    refine J_getR fd_3_14 w_31 rfl dX3_addCapture_194 (fun r44 => ?_)
                    refine J_callVi (okX3_move G l _ _ _ _) mkX3_move _ _ rfl w_131 w_132 w_133 ⟨by decide, by decide⟩ rfl (Nat.le_of_ble_eq_true rfl) dX3_addCapture_197 (fun v46 M45 => ?_)
                    exact J_iret dX3_addCapture_200
                  · refine J_iload dX3_addCapture_179 0 rfl ?_
                    exact J_iret dX3_addCapture_181
                · refine J_sub [] rfl ?_
                  exact jX3_addCapture_115 G l    _
          · refine J_iload dX3_addCapture_84 0 rfl ?_
            exact J_iret dX3_addCapture_86
        · refine J_sub [] rfl ?_
          exact jX3_addCapture_28 G l    _
theorem okX3_addCapture (G : Gx) (l : Launch) (l0 : Nat) (l1 : Int64) (l3 : Int32) (l4 : Int32) (l5 : Int64) (M : Mem) : Con G l yX3_addCapture cX3_addCapture 9 (some .int) 4 95 (fun v : Int32 => some (.int v)) [.ref (adr G l0), .long l1, .int l3, .int l4, .long l5] M (fX3_addCapture l0 l1 l3 l4 l5 M) := con_of (own := RX3) (nm := "addCapture") (by decide +kernel) rfl rfl (Nat.le_of_ble_eq_true rfl) (jX3_addCapture G l l0 l1 l3 l4 l5 M)
theorem mkX3_addCapture : MOk yX3_addCapture cX3_addCapture 9 (some .int) 4 := ⟨w_175, tb1 (List.mem_of_getElem? (i := 2) rfl) rfl, by decide +kernel, by decide +kernel, by decide +kernel⟩
-- X3_addReversal
def fX3_addReversal_95  : Nat → Nat → Int64 → Int32 → Int32 → Mem → Option (Int32 × Mem)
  | 0, _, _, _, _, _ => none
  | n + 1, l0, l1, l3, l5, M => (gR M 3 9 l0 fun r1 => (rI M .int r1 l3 fun v2 => (if v2 ≤ l5 then (gR M 3 14 l0 fun r3 => (cV M 3 l0 (fX3_weigh l0 r3 (-1 : Int32) (0 : Int64) M) fun v5 M4 => (if v5 = 0 then (gR M4 3 8 l0 fun r6 => (gI M4 3 12 l0 fun v7 => (wI M4 .int r6 l3 v7 fun M8 => (gR M8 3 14 l0 fun r9 => (cV M8 3 l0 (fX3_move l0 l1 r9 M8) fun v11 M10 => some (v11, M10)))))) else some (v5, M4)))) else (gR M 3 14 l0 fun r12 => (gR M 3 10 l0 fun r13 => (rI M .int r13 ((l3 * (8 : Int32)) + l5) fun v14 => (gR M 3 11 l0 fun r15 => (rJ M r15 ((l3 * (8 : Int32)) + l5) fun v16 => (cV M 4 r12 (fX4_add r12 v14 (0 - v16) M) fun v18 M17 => fX3_addReversal_95  n l0 l1 l3 (l5 + (1 : Int32)) M17)))))))))
set_option maxHeartbeats 4000000 in
set_option maxRecDepth 100000 in
theorem jX3_addReversal_95 (G : Gx) (l : Launch)   : ∀ (n : Nat) (l0 : Nat) (l1 : Int64) (l3 : Int32) (l5 : Int32) (M : Mem), J G l cX3_addReversal 6 RX3 (some .int) "addReversal" 4 95 (QM G (fun v : Int32 => some (.int v))) 95 [(0, .ref (adr G l0)), (1, .long l1), (3, .int l3), (5, .int l5)] [] M (fX3_addReversal_95  n l0 l1 l3 l5 M) := by
  intro n
  induction n with
  | zero => intro l0 l1 l3 l5 M; exact J_none
  | succ n ih =>
    intro l0 l1 l3 l5 M
    rw [fX3_addReversal_95]
    refine J_iload dX3_addReversal_95 3 rfl ?_
    refine J_aload_n dX3_addReversal_97 0 rfl ?_
    refine J_getR fd_3_9 w_16 rfl dX3_addReversal_98 (fun r1 => ?_)
    refine J_iload_n dX3_addReversal_101 2 rfl ?_
    refine J_iald dX3_addReversal_102 ?_
    refine J_icmp_ge (tgt := 145) dX3_addReversal_103 (by decide) ?_ ?_
    · refine J_aload_n dX3_addReversal_145 0 rfl ?_
      refine J_aload_n dX3_addReversal_146 0 rfl ?_
      refine J_getR fd_3_14 w_31 rfl dX3_addReversal_147 (fun r3 => ?_)
      refine J_iconst (v := -1) dX3_addReversal_150 (by decide) ?_
      refine J_lconst (v := 0) dX3_addReversal_151 (by decide) ?_
      refine J_callVi (okX3_weigh G l _ _ _ _ _) mkX3_weigh _ _ rfl w_121 w_122 w_123 ⟨by decide, by decide⟩ rfl (Nat.le_of_ble_eq_true rfl) dX3_addReversal_152 (fun v5 M4 => ?_)
      refine J_istore (lv' := [(5, .int _), (0, .ref _), (1, .long _), (3, .int _)]) dX3_addReversal_155 (by decide) rfl ?_
      refine J_iload dX3_addReversal_157 0 rfl ?_
      refine J_if_eq (tgt := 165) dX3_addReversal_159 (by decide) ?_ ?_
      · refine J_aload_n dX3_addReversal_165 1 rfl ?_
        refine J_getR fd_3_8 w_15 rfl dX3_addReversal_166 (fun r6 => ?_)
        refine J_iload_n dX3_addReversal_169 3 rfl ?_
        refine J_aload_n dX3_addReversal_170 1 rfl ?_
        refine J_getI fd_3_12 w_58 rfl dX3_addReversal_171 ?_
        refine J_iast dX3_addReversal_174 ?_
        refine J_aload_n dX3_addReversal_175 1 rfl ?_
        refine J_lload_n dX3_addReversal_176 2 rfl ?_
        refine J_aload_n dX3_addReversal_177 1 rfl ?_
        refine J_getR fd_3_14 w_31 rfl dX3_addReversal_178 (fun r9 => ?_)
        refine J_callVi (okX3_move G l _ _ _ _) mkX3_move _ _ rfl w_131 w_132 w_133 ⟨by decide, by decide⟩ rfl (Nat.le_of_ble_eq_true rfl) dX3_addReversal_181 (fun v11 M10 => ?_)
        exact J_iret dX3_addReversal_184
      · refine J_iload dX3_addReversal_162 0 rfl ?_
        exact J_iret dX3_addReversal_164
    · refine J_aload_n dX3_addReversal_106 0 rfl ?_
      refine J_getR fd_3_14 w_31 rfl dX3_addReversal_107 (fun r12 => ?_)
      refine J_aload_n dX3_addReversal_110 0 rfl ?_
      refine J_getR fd_3_10 w_17 rfl dX3_addReversal_111 (fun r13 => ?_)
      refine J_iload_n dX3_addReversal_114 2 rfl ?_
      refine J_bipush (v := 8) dX3_addReversal_115 (by decide) ?_
      refine J_imul dX3_addReversal_117 ?_
      refine J_iload dX3_addReversal_118 3 rfl ?_
      refine J_iadd dX3_addReversal_120 ?_
      refine J_iald dX3_addReversal_121 ?_
      refine J_aload_n dX3_addReversal_122 0 rfl ?_
      refine J_getR fd_3_11 w_18 rfl dX3_addReversal_123 (fun r15 => ?_)
      refine J_iload_n dX3_addReversal_126 2 rfl ?_
      refine J_bipush (v := 8) dX3_addReversal_127 (by decide) ?_
      refine J_imul dX3_addReversal_129 ?_
      refine J_iload dX3_addReversal_130 3 rfl ?_
      refine J_iadd dX3_addReversal_132 ?_
      refine J_lald dX3_addReversal_133 ?_
      refine J_lneg dX3_addReversal_134 ?_
      refine J_callVi (okX4_add G l _ _ _ _) mkX4_add _ _ rfl w_174 w_90 w_91 ⟨by decide, by decide⟩ rfl (Nat.le_of_ble_eq_true rfl) dX3_addReversal_135 (fun v18 M17 => ?_)
      refine J_pop dX3_addReversal_138 rfl ?_
      refine J_iincK (z := 1) (lv' := [(5, .int _), (0, .ref _), (1, .long _), (3, .int _)]) dX3_addReversal_139 3 rfl (by decide) (by decide) rfl ?_
      refine J_goto (tgt := 95) dX3_addReversal_142 (by decide) ?_
      refine J_sub [1, 2, 3, 0] rfl ?_
      exact ih _ _ _ _ _
def fX3_addReversal_68   (M : Mem) : Option (Int32 × Mem) := some ((-2 : Int32), M)
set_option maxHeartbeats 4000000 in
set_option maxRecDepth 100000 in
theorem jX3_addReversal_68 (G : Gx) (l : Launch)    (M : Mem) : J G l cX3_addReversal 6 RX3 (some .int) "addReversal" 4 95 (QM G (fun v : Int32 => some (.int v))) 68 [] [] M (fX3_addReversal_68   M) := by
  unfold fX3_addReversal_68
  refine J_bipush (v := -2) dX3_addReversal_68 (by decide) ?_
  exact J_iret dX3_addReversal_70
def fX3_addReversal_13   (M : Mem) : Option (Int32 × Mem) := some ((-1 : Int32), M)
set_option maxHeartbeats 4000000 in
set_option maxRecDepth 100000 in
theorem jX3_addReversal_13 (G : Gx) (l : Launch)    (M : Mem) : J G l cX3_addReversal 6 RX3 (some .int) "addReversal" 4 95 (QM G (fun v : Int32 => some (.int v))) 13 [] [] M (fX3_addReversal_13   M) := by
  unfold fX3_addReversal_13
  refine J_iconst (v := -1) dX3_addReversal_13 (by decide) ?_
  exact J_iret dX3_addReversal_14
def fX3_addReversal (l0 : Nat) (l1 : Int64) (l3 : Int32) (M : Mem) : Option (Int32 × Mem) := (if l1 = (0 : Int64) then fX3_addReversal_13   M else (bd (fX8_canBeEntry l3 M) fun v2 M1 => (if v2 = 0 then fX3_addReversal_13   M1 else (gR M1 3 13 l0 fun r3 => (cV M1 1 r3 (fX1_beginKeyed r3 (6 : Int32) l1 M1) fun _u5 M4 => (gR M4 3 13 l0 fun r6 => (cV M4 1 r6 (fX1_add r6 l3.toInt64 (2 : Int32) M4) fun _u8 M7 => (cV M7 3 l0 (fX3_answeredBefore l0 l1 M7) fun v10 M9 => (if v10 = (-1 : Int32) then (gI M9 3 12 l0 fun v11 => (if v11 ≤ l3 then fX3_addReversal_68   M9 else (gR M9 3 9 l0 fun r12 => (rI M9 .int r12 l3 fun v13 => (if v13 = 0 then fX3_addReversal_68   M9 else (gR M9 3 8 l0 fun r14 => (rI M9 .int r14 l3 fun v15 => (if v15 = (-1 : Int32) then (gR M9 3 14 l0 fun r16 => (pI M9 4 2 r16 (0 : Int32) fun M17 => fX3_addReversal_95  FU l0 l1 l3 (0 : Int32) M17)) else some ((-7 : Int32), M9))))))))) else some (v10, M9))))))))))
set_option maxHeartbeats 4000000 in
set_option maxRecDepth 100000 in
theorem jX3_addReversal (G : Gx) (l : Launch) (l0 : Nat) (l1 : Int64) (l3 : Int32) (M : Mem) : J G l cX3_addReversal 6 RX3 (some .int) "addReversal" 4 95 (QM G (fun v : Int32 => some (.int v))) 0 [(0, .ref (adr G l0)), (1, .long l1), (3, .int l3)] [] M (fX3_addReversal l0 l1 l3 M) := by
  unfold fX3_addReversal
  refine J_lload_n dX3_addReversal_0 1 rfl ?_
  refine J_lconst (v := 0) dX3_addReversal_1 (by decide) ?_
  refine J_lcmp_eq (tgt := 13) dX3_addReversal_2 dX3_addReversal_3 (by decide) ?_ ?_
  · refine J_sub [] rfl ?_
    exact jX3_addReversal_13 G l    _
  · refine J_iload_n dX3_addReversal_6 2 rfl ?_
    refine J_callSNi (host := "ChainBooks") (okX8_canBeEntry G l _ _) mkX8_canBeEntry (List.mem_of_getElem? (i := 15) rfl) w_149 ⟨by decide, by decide⟩ rfl (Nat.le_of_ble_eq_true rfl) dX3_addReversal_7 (fun v2 M1 => ?_)
    refine J_if_ne (tgt := 15) dX3_addReversal_10 (by decide) ?_ ?_
    · refine J_aload_n dX3_addReversal_15 0 rfl ?_
      refine J_getR fd_3_13 w_24 rfl dX3_addReversal_16 (fun r3 => ?_)
      refine J_bipush (v := 6) dX3_addReversal_19 (by decide) ?_
      refine J_lload_n dX3_addReversal_21 1 rfl ?_
      refine J_callVv (okX1_beginKeyed G l _ _ _ _) mkX1_beginKeyed _ _ rfl w_136 w_137 w_138 ⟨by decide, by decide⟩ rfl (Nat.le_of_ble_eq_true rfl) dX3_addReversal_22 (fun _u5 M4 => ?_)
      refine J_aload_n dX3_addReversal_25 0 rfl ?_
      refine J_getR fd_3_13 w_24 rfl dX3_addReversal_26 (fun r6 => ?_)
      refine J_iload_n dX3_addReversal_29 2 rfl ?_
      refine J_i2l dX3_addReversal_30 ?_
      refine J_iconst (v := 2) dX3_addReversal_31 (by decide) ?_
      refine J_callVv (okX1_add G l _ _ _ _) mkX1_add _ _ rfl w_69 w_63 w_64 ⟨by decide, by decide⟩ rfl (Nat.le_of_ble_eq_true rfl) dX3_addReversal_32 (fun _u8 M7 => ?_)
      refine J_aload_n dX3_addReversal_35 0 rfl ?_
      refine J_lload_n dX3_addReversal_36 1 rfl ?_
      refine J_callVi (okX3_answeredBefore G l _ _ _) mkX3_answeredBefore _ _ rfl w_103 w_104 w_105 ⟨by decide, by decide⟩ rfl (Nat.le_of_ble_eq_true rfl) dX3_addReversal_37 (fun v10 M9 => ?_)
      refine J_istore (lv' := [(4, .int _), (0, .ref _), (1, .long _), (3, .int _)]) dX3_addReversal_40 (by decide) rfl ?_
      refine J_iload dX3_addReversal_42 0 rfl ?_
      refine J_iconst (v := -1) dX3_addReversal_44 (by decide) ?_
      refine J_icmp_eq (tgt := 51) dX3_addReversal_45 (by decide) ?_ ?_
      · refine J_iload_n dX3_addReversal_51 3 rfl ?_
        refine J_aload_n dX3_addReversal_52 1 rfl ?_
        refine J_getI fd_3_12 w_58 rfl dX3_addReversal_53 ?_
        refine J_icmp_ge (tgt := 68) dX3_addReversal_56 (by decide) ?_ ?_
        · refine J_sub [] rfl ?_
          exact jX3_addReversal_68 G l    _
        · refine J_aload_n dX3_addReversal_59 1 rfl ?_
          refine J_getR fd_3_9 w_16 rfl dX3_addReversal_60 (fun r12 => ?_)
          refine J_iload_n dX3_addReversal_63 3 rfl ?_
          refine J_iald dX3_addReversal_64 ?_
          refine J_if_ne (tgt := 71) dX3_addReversal_65 (by decide) ?_ ?_
          · refine J_aload_n dX3_addReversal_71 1 rfl ?_
            refine J_getR fd_3_8 w_15 rfl dX3_addReversal_72 (fun r14 => ?_)
            refine J_iload_n dX3_addReversal_75 3 rfl ?_
            refine J_iald dX3_addReversal_76 ?_
            refine J_iconst (v := -1) dX3_addReversal_77 (by decide) ?_
            refine J_icmp_eq (tgt := 84) dX3_addReversal_78 (by decide) ?_ ?_
            · refine J_aload_n dX3_addReversal_84 1 rfl ?_
              refine J_getR fd_3_14 w_31 rfl dX3_addReversal_85 (fun r16 => ?_)
              refine J_iconst (v := 0) dX3_addReversal_88 (by decide) ?_
              refine J_putI fd_4_2 w_97 dX3_addReversal_89 ?_
              refine J_iconst (v := 0) dX3_addReversal_92 (by decide) ?_
              refine J_istore (lv' := [(5, .int _), (4, .int _), (0, .ref _), (1, .long _), (3, .int _)]) dX3_addReversal_93 (by decide) rfl ?_
              refine J_sub [2, 3, 4, 0] rfl ?_
              exact jX3_addReversal_95 G l   FU _ _ _ _ _
            · refine J_bipush (v := -7) dX3_addReversal_81 (by decide) ?_
              exact J_iret dX3_addReversal_83
          · refine J_sub [] rfl ?_
            exact jX3_addReversal_68 G l    _
      · refine J_iload dX3_addReversal_48 0 rfl ?_
        exact J_iret dX3_addReversal_50
    · refine J_sub [] rfl ?_
      exact jX3_addReversal_13 G l    _
theorem okX3_addReversal (G : Gx) (l : Launch) (l0 : Nat) (l1 : Int64) (l3 : Int32) (M : Mem) : Con G l yX3_addReversal cX3_addReversal 6 (some .int) 4 95 (fun v : Int32 => some (.int v)) [.ref (adr G l0), .long l1, .int l3] M (fX3_addReversal l0 l1 l3 M) := con_of (own := RX3) (nm := "addReversal") (by decide +kernel) rfl rfl (Nat.le_of_ble_eq_true rfl) (jX3_addReversal G l l0 l1 l3 M)
theorem mkX3_addReversal : MOk yX3_addReversal cX3_addReversal 6 (some .int) 2 := ⟨w_179, tb1 (List.mem_of_getElem? (i := 2) rfl) rfl, by decide +kernel, by decide +kernel, by decide +kernel⟩
-- X0_callAgain
def fX0_callAgain_212   (M : Mem) : Option (Unit × Mem) := some ((), M)
set_option maxHeartbeats 4000000 in
set_option maxRecDepth 100000 in
theorem jX0_callAgain_212 (G : Gx) (l : Launch)    (M : Mem) : J G l cX0_callAgain 7 RX0 none "callAgain" 5 123 (QM G (fun _ : Unit => none)) 212 [] [] M (fX0_callAgain_212   M) := by
  unfold fX0_callAgain_212
  exact J_vret dX0_callAgain_212
def fX0_callAgain (l0 : Nat) (l1 : Nat) (l2 : Int32) (M : Mem) : Option (Unit × Mem) := (cV M 5 l1 (fX5_number l1 (l2 + (1 : Int32)) (8 : Int32) M) fun v2 M1 => (cV M1 5 l1 (fX5_number l1 (l2 + (9 : Int32)) (1 : Int32) M1) fun v4 M3 => (cV M3 5 l1 (fX5_number l1 (l2 + (9 : Int32)) (2 : Int32) M3) fun v6 M5 => (cV M5 5 l1 (fX5_number l1 l2 (1 : Int32) M5) fun v8 M7 => (if v8.toInt32 = 1 then (gR M7 0 0 l0 fun r9 => (cV M7 3 r9 (fX3_addAccount r9 v2 M7) fun v11 M10 => fX0_callAgain_212   M10)) else if v8.toInt32 = 2 then (cV M7 0 l0 (fX0_readLegs l0 l1 (l2 + (9 : Int32)) M7) fun v13 M12 => (if v13 = 0 then fX0_callAgain_212   M12 else (gR M12 0 0 l0 fun r14 => (gR M12 0 1 l0 fun r15 => (cV M12 3 r14 (fX3_addPost r14 v2 r15 M12) fun v17 M16 => fX0_callAgain_212   M16))))) else if v8.toInt32 = 3 then (gR M7 0 0 l0 fun r18 => (cV M7 5 l1 (fX5_number l1 (l2 + (10 : Int32)) (8 : Int32) M7) fun v20 M19 => (cV M19 3 r18 (fX3_addHold r18 v2 v4.toInt32 v20 M19) fun v22 M21 => fX0_callAgain_212   M21))) else if v8.toInt32 = 4 then (gR M7 0 0 l0 fun r23 => (cV M7 5 l1 (fX5_number l1 (l2 + (1 : Int32)) (2 : Int32) M7) fun v25 M24 => (cV M24 3 r23 (fX3_addRelease r23 v25.toInt32 M24) fun v27 M26 => fX0_callAgain_212   M26))) else if v8.toInt32 = 5 then (gR M7 0 0 l0 fun r28 => (cV M7 5 l1 (fX5_number l1 (l2 + (11 : Int32)) (1 : Int32) M7) fun v30 M29 => (cV M29 5 l1 (fX5_number l1 (l2 + (12 : Int32)) (8 : Int32) M29) fun v32 M31 => (cV M31 3 r28 (fX3_addCapture r28 v2 v6.toInt32 v30.toInt32 v32 M31) fun v34 M33 => fX0_callAgain_212   M33)))) else if v8.toInt32 = 6 then (gR M7 0 0 l0 fun r35 => (cV M7 3 r35 (fX3_addReversal r35 v2 v6.toInt32 M7) fun v37 M36 => fX0_callAgain_212   M36)) else fX0_callAgain_212   M7)))))
set_option maxHeartbeats 4000000 in
set_option maxRecDepth 100000 in
theorem jX0_callAgain (G : Gx) (l : Launch) (l0 : Nat) (l1 : Nat) (l2 : Int32) (M : Mem) : J G l cX0_callAgain 7 RX0 none "callAgain" 5 123 (QM G (fun _ : Unit => none)) 0 [(0, .ref (adr G l0)), (1, .ref (adr G l1)), (2, .int l2)] [] M (fX0_callAgain l0 l1 l2 M) := by
  unfold fX0_callAgain
  refine J_aload_n dX0_callAgain_0 1 rfl ?_
  refine J_iload_n dX0_callAgain_1 2 rfl ?_
  refine J_iconst (v := 1) dX0_callAgain_2 (by decide) ?_
  refine J_iadd dX0_callAgain_3 ?_
  refine J_bipush (v := 8) dX0_callAgain_4 (by decide) ?_
  refine J_callVl (okX5_number G l _ _ _ _) mkX5_number _ _ rfl w_55 w_56 w_57 ⟨by decide, by decide⟩ rfl (Nat.le_of_ble_eq_true rfl) dX0_callAgain_6 (fun v2 M1 => ?_)
  refine J_lstore_n (lv' := [(3, .long _), (0, .ref _), (1, .ref _), (2, .int _)]) dX0_callAgain_9 (by decide) rfl ?_
  refine J_aload_n dX0_callAgain_10 2 rfl ?_
  refine J_iload_n dX0_callAgain_11 3 rfl ?_
  refine J_bipush (v := 9) dX0_callAgain_12 (by decide) ?_
  refine J_iadd dX0_callAgain_14 ?_
  refine J_iconst (v := 1) dX0_callAgain_15 (by decide) ?_
  refine J_callVl (okX5_number G l _ _ _ _) mkX5_number _ _ rfl w_55 w_56 w_57 ⟨by decide, by decide⟩ rfl (Nat.le_of_ble_eq_true rfl) dX0_callAgain_16 (fun v4 M3 => ?_)
  refine J_l2i dX0_callAgain_19 ?_
  refine J_istore (lv' := [(5, .int _), (3, .long _), (0, .ref _), (1, .ref _), (2, .int _)]) dX0_callAgain_20 (by decide) rfl ?_
  refine J_aload_n dX0_callAgain_22 3 rfl ?_
  refine J_iload_n dX0_callAgain_23 4 rfl ?_
  refine J_bipush (v := 9) dX0_callAgain_24 (by decide) ?_
  refine J_iadd dX0_callAgain_26 ?_
  refine J_iconst (v := 2) dX0_callAgain_27 (by decide) ?_
  refine J_callVl (okX5_number G l _ _ _ _) mkX5_number _ _ rfl w_55 w_56 w_57 ⟨by decide, by decide⟩ rfl (Nat.le_of_ble_eq_true rfl) dX0_callAgain_28 (fun v6 M5 => ?_)
  refine J_l2i dX0_callAgain_31 ?_
  refine J_istore (lv' := [(6, .int _), (5, .int _), (3, .long _), (0, .ref _), (1, .ref _), (2, .int _)]) dX0_callAgain_32 (by decide) rfl ?_
  refine J_aload_n dX0_callAgain_34 4 rfl ?_
  refine J_iload_n dX0_callAgain_35 5 rfl ?_
  refine J_iconst (v := 1) dX0_callAgain_36 (by decide) ?_
  refine J_callVl (okX5_number G l _ _ _ _) mkX5_number _ _ rfl w_55 w_56 w_57 ⟨by decide, by decide⟩ rfl (Nat.le_of_ble_eq_true rfl) dX0_callAgain_37 (fun v8 M7 => ?_)
  refine J_l2i dX0_callAgain_40 ?_
  refine J_ite (fun h41_0 => ?_) (fun h41_0 => ?_)
  · refine J_tabI (off := 39) (tgt := 80) dX0_callAgain_41 (by rw [h41_0]; decide) (by rw [h41_0]; decide) (by rw [h41_0]; decide) (by decide) ?_
    refine J_aload_n dX0_callAgain_80 3 rfl ?_
    refine J_getR fd_0_0 w_34 rfl dX0_callAgain_81 (fun r9 => ?_)
    refine J_lload_n dX0_callAgain_84 2 rfl ?_
    refine J_callVi (okX3_addAccount G l _ _ _) mkX3_addAccount _ _ rfl w_81 w_82 w_83 ⟨by decide, by decide⟩ rfl (Nat.le_of_ble_eq_true rfl) dX0_callAgain_85 (fun v11 M10 => ?_)
    refine J_pop dX0_callAgain_88 rfl ?_
    refine J_goto (tgt := 212) dX0_callAgain_89 (by decide) ?_
    refine J_sub [] rfl ?_
    exact jX0_callAgain_212 G l    _
  refine J_ite (fun h41_1 => ?_) (fun h41_1 => ?_)
  · refine J_tabI (off := 51) (tgt := 92) dX0_callAgain_41 (by rw [h41_1]; decide) (by rw [h41_1]; decide) (by rw [h41_1]; decide) (by decide) ?_
    refine J_aload_n dX0_callAgain_92 3 rfl ?_
    refine J_aload_n dX0_callAgain_93 4 rfl ?_
    refine J_iload_n dX0_callAgain_94 5 rfl ?_
    refine J_bipush (v := 9) dX0_callAgain_95 (by decide) ?_
    refine J_iadd dX0_callAgain_97 ?_
    refine J_callVi (okX0_readLegs G l _ _ _ _) mkX0_readLegs _ _ rfl w_94 w_95 w_96 ⟨by decide, by decide⟩ rfl (Nat.le_of_ble_eq_true rfl) dX0_callAgain_98 (fun v13 M12 => ?_)
    refine J_if_eq (tgt := 212) dX0_callAgain_101 (by decide) ?_ ?_
    · refine J_sub [] rfl ?_
      exact jX0_callAgain_212 G l    _
    · refine J_aload_n dX0_callAgain_104 3 rfl ?_
      refine J_getR fd_0_0 w_34 rfl dX0_callAgain_105 (fun r14 => ?_)
      refine J_lload_n dX0_callAgain_108 2 rfl ?_
      refine J_aload_n dX0_callAgain_109 3 rfl ?_
      refine J_getR fd_0_1 w_36 rfl dX0_callAgain_110 (fun r15 => ?_)
      refine J_callVi (okX3_addPost G l _ _ _ _) mkX3_addPost _ _ rfl w_140 w_141 w_142 ⟨by decide, by decide⟩ rfl (Nat.le_of_ble_eq_true rfl) dX0_callAgain_113 (fun v17 M16 => ?_)
      refine J_pop dX0_callAgain_116 rfl ?_
      refine J_goto (tgt := 212) dX0_callAgain_117 (by decide) ?_
      refine J_sub [] rfl ?_
      exact jX0_callAgain_212 G l    _
  refine J_ite (fun h41_2 => ?_) (fun h41_2 => ?_)
  · refine J_tabI (off := 79) (tgt := 120) dX0_callAgain_41 (by rw [h41_2]; decide) (by rw [h41_2]; decide) (by rw [h41_2]; decide) (by decide) ?_
    refine J_aload_n dX0_callAgain_120 3 rfl ?_
    refine J_getR fd_0_0 w_34 rfl dX0_callAgain_121 (fun r18 => ?_)
    refine J_lload_n dX0_callAgain_124 2 rfl ?_
    refine J_iload dX0_callAgain_125 1 rfl ?_
    refine J_aload_n dX0_callAgain_127 4 rfl ?_
    refine J_iload_n dX0_callAgain_128 5 rfl ?_
    refine J_bipush (v := 10) dX0_callAgain_129 (by decide) ?_
    refine J_iadd dX0_callAgain_131 ?_
    refine J_bipush (v := 8) dX0_callAgain_132 (by decide) ?_
    refine J_callVl (okX5_number G l _ _ _ _) mkX5_number _ _ rfl w_55 w_56 w_57 ⟨by decide, by decide⟩ rfl (Nat.le_of_ble_eq_true rfl) dX0_callAgain_134 (fun v20 M19 => ?_)
    refine J_callVi (okX3_addHold G l _ _ _ _ _) mkX3_addHold _ _ rfl w_145 w_146 w_147 ⟨by decide, by decide⟩ rfl (Nat.le_of_ble_eq_true rfl) dX0_callAgain_137 (fun v22 M21 => ?_)
    refine J_pop dX0_callAgain_140 rfl ?_
    refine J_goto (tgt := 212) dX0_callAgain_141 (by decide) ?_
    refine J_sub [] rfl ?_
    exact jX0_callAgain_212 G l    _
  refine J_ite (fun h41_3 => ?_) (fun h41_3 => ?_)
  · refine J_tabI (off := 103) (tgt := 144) dX0_callAgain_41 (by rw [h41_3]; decide) (by rw [h41_3]; decide) (by rw [h41_3]; decide) (by decide) ?_
    refine J_aload_n dX0_callAgain_144 3 rfl ?_
    refine J_getR fd_0_0 w_34 rfl dX0_callAgain_145 (fun r23 => ?_)
    refine J_aload_n dX0_callAgain_148 4 rfl ?_
    refine J_iload_n dX0_callAgain_149 5 rfl ?_
    refine J_iconst (v := 1) dX0_callAgain_150 (by decide) ?_
    refine J_iadd dX0_callAgain_151 ?_
    refine J_iconst (v := 2) dX0_callAgain_152 (by decide) ?_
    refine J_callVl (okX5_number G l _ _ _ _) mkX5_number _ _ rfl w_55 w_56 w_57 ⟨by decide, by decide⟩ rfl (Nat.le_of_ble_eq_true rfl) dX0_callAgain_153 (fun v25 M24 => ?_)
    refine J_l2i dX0_callAgain_156 ?_
    refine J_callVi (okX3_addRelease G l _ _ _) mkX3_addRelease _ _ rfl w_171 w_172 w_173 ⟨by decide, by decide⟩ rfl (Nat.le_of_ble_eq_true rfl) dX0_callAgain_157 (fun v27 M26 => ?_)
    refine J_pop dX0_callAgain_160 rfl ?_
    refine J_goto (tgt := 212) dX0_callAgain_161 (by decide) ?_
    refine J_sub [] rfl ?_
    exact jX0_callAgain_212 G l    _
  refine J_ite (fun h41_4 => ?_) (fun h41_4 => ?_)
  · refine J_tabI (off := 123) (tgt := 164) dX0_callAgain_41 (by rw [h41_4]; decide) (by rw [h41_4]; decide) (by rw [h41_4]; decide) (by decide) ?_
    refine J_aload_n dX0_callAgain_164 3 rfl ?_
    refine J_getR fd_0_0 w_34 rfl dX0_callAgain_165 (fun r28 => ?_)
    refine J_lload_n dX0_callAgain_168 2 rfl ?_
    refine J_iload dX0_callAgain_169 0 rfl ?_
    refine J_aload_n dX0_callAgain_171 4 rfl ?_
    refine J_iload_n dX0_callAgain_172 5 rfl ?_
    refine J_bipush (v := 11) dX0_callAgain_173 (by decide) ?_
    refine J_iadd dX0_callAgain_175 ?_
    refine J_iconst (v := 1) dX0_callAgain_176 (by decide) ?_
    refine J_callVl (okX5_number G l _ _ _ _) mkX5_number _ _ rfl w_55 w_56 w_57 ⟨by decide, by decide⟩ rfl (Nat.le_of_ble_eq_true rfl) dX0_callAgain_177 (fun v30 M29 => ?_)
    refine J_l2i dX0_callAgain_180 ?_
    refine J_aload_n dX0_callAgain_181 4 rfl ?_
    refine J_iload_n dX0_callAgain_182 5 rfl ?_
    refine J_bipush (v := 12) dX0_callAgain_183 (by decide) ?_
    refine J_iadd dX0_callAgain_185 ?_
    refine J_bipush (v := 8) dX0_callAgain_186 (by decide) ?_
    refine J_callVl (okX5_number G l _ _ _ _) mkX5_number _ _ rfl w_55 w_56 w_57 ⟨by decide, by decide⟩ rfl (Nat.le_of_ble_eq_true rfl) dX0_callAgain_188 (fun v32 M31 => ?_)
    refine J_callVi (okX3_addCapture G l _ _ _ _ _ _) mkX3_addCapture _ _ rfl w_176 w_177 w_178 ⟨by decide, by decide⟩ rfl (Nat.le_of_ble_eq_true rfl) dX0_callAgain_191 (fun v34 M33 => ?_)
    refine J_pop dX0_callAgain_194 rfl ?_
    refine J_goto (tgt := 212) dX0_callAgain_195 (by decide) ?_
    refine J_sub [] rfl ?_
    exact jX0_callAgain_212 G l    _
  refine J_ite (fun h41_5 => ?_) (fun h41_5 => ?_)
  · refine J_tabI (off := 157) (tgt := 198) dX0_callAgain_41 (by rw [h41_5]; decide) (by rw [h41_5]; decide) (by rw [h41_5]; decide) (by decide) ?_
    refine J_aload_n dX0_callAgain_198 3 rfl ?_
    refine J_getR fd_0_0 w_34 rfl dX0_callAgain_199 (fun r35 => ?_)
    refine J_lload_n dX0_callAgain_202 2 rfl ?_
    refine J_iload dX0_callAgain_203 0 rfl ?_
    refine J_callVi (okX3_addReversal G l _ _ _ _) mkX3_addReversal _ _ rfl w_180 w_181 w_182 ⟨by decide, by decide⟩ rfl (Nat.le_of_ble_eq_true rfl) dX0_callAgain_205 (fun v37 M36 => ?_)
    refine J_pop dX0_callAgain_208 rfl ?_
    refine J_goto (tgt := 212) dX0_callAgain_209 (by decide) ?_
    refine J_sub [] rfl ?_
    exact jX0_callAgain_212 G l    _
  refine J_tabO (tgt := 212) dX0_callAgain_41 (by have h41_0 := lv_neT h41_0 (show (1 : Int32).toInt = 1 by decide); have h41_1 := lv_neT h41_1 (show (2 : Int32).toInt = 2 by decide); have h41_2 := lv_neT h41_2 (show (3 : Int32).toInt = 3 by decide); have h41_3 := lv_neT h41_3 (show (4 : Int32).toInt = 4 by decide); have h41_4 := lv_neT h41_4 (show (5 : Int32).toInt = 5 by decide); have h41_5 := lv_neT h41_5 (show (6 : Int32).toInt = 6 by decide); omega) (by decide) ?_
  refine J_sub [] rfl ?_
  exact jX0_callAgain_212 G l    _
theorem okX0_callAgain (G : Gx) (l : Launch) (l0 : Nat) (l1 : Nat) (l2 : Int32) (M : Mem) : Con G l yX0_callAgain cX0_callAgain 7 none 5 123 (fun _ : Unit => none) [.ref (adr G l0), .ref (adr G l1), .int l2] M (fX0_callAgain l0 l1 l2 M) := con_of (own := RX0) (nm := "callAgain") (by decide +kernel) rfl rfl (Nat.le_of_ble_eq_true rfl) (jX0_callAgain G l l0 l1 l2 M)
theorem mkX0_callAgain : MOk yX0_callAgain cX0_callAgain 7 none 2 := ⟨w_183, tb1 (List.mem_of_getElem? (i := 9) rfl) rfl, by decide +kernel, by decide +kernel, by decide +kernel⟩
-- X0_hasToStand
def fX0_hasToStand_32  (s0 : Int32) (M : Mem) : Option (Int32 × Mem) := retZ s0 (some (s0, M))
set_option maxHeartbeats 4000000 in
set_option maxRecDepth 100000 in
theorem jX0_hasToStand_32 (G : Gx) (l : Launch)   (s0 : Int32) (M : Mem) : J G l cX0_hasToStand 3 RX0 (some .boolean) "hasToStand" 1 20 (QM G (fun v : Int32 => some (.int v))) 32 [] [.int s0] M (fX0_hasToStand_32  s0 M) := by
  unfold fX0_hasToStand_32
  exact J_zret dX0_hasToStand_32
def fX0_hasToStand_27   (M : Mem) : Option (Int32 × Mem) := fX0_hasToStand_32  (1 : Int32) M
set_option maxHeartbeats 4000000 in
set_option maxRecDepth 100000 in
theorem jX0_hasToStand_27 (G : Gx) (l : Launch)    (M : Mem) : J G l cX0_hasToStand 3 RX0 (some .boolean) "hasToStand" 1 20 (QM G (fun v : Int32 => some (.int v))) 27 [] [] M (fX0_hasToStand_27   M) := by
  unfold fX0_hasToStand_27
  refine J_iconst (v := 1) dX0_hasToStand_27 (by decide) ?_
  refine J_goto (tgt := 32) dX0_hasToStand_28 (by decide) ?_
  refine J_sub [] rfl ?_
  exact jX0_hasToStand_32 G l   _ _
def fX0_hasToStand (l0 : Nat) (l1 : Nat) (l2 : Int32) (M : Mem) : Option (Int32 × Mem) := (gR M 0 0 l0 fun r1 => (gI M 3 12 r1 fun v2 => (if l2 < v2 then fX0_hasToStand_27   M else (gR M 0 0 l0 fun r3 => (gR M 3 6 r3 fun r4 => (rI M .int r4 l2 fun v5 => (cV M 5 l1 (fX5_size l1 M) fun v7 M6 => (if v7 ≤ v5 then fX0_hasToStand_32  (0 : Int32) M6 else fX0_hasToStand_27   M6))))))))
set_option maxHeartbeats 4000000 in
set_option maxRecDepth 100000 in
theorem jX0_hasToStand (G : Gx) (l : Launch) (l0 : Nat) (l1 : Nat) (l2 : Int32) (M : Mem) : J G l cX0_hasToStand 3 RX0 (some .boolean) "hasToStand" 1 20 (QM G (fun v : Int32 => some (.int v))) 0 [(0, .ref (adr G l0)), (1, .ref (adr G l1)), (2, .int l2)] [] M (fX0_hasToStand l0 l1 l2 M) := by
  unfold fX0_hasToStand
  refine J_aload_n dX0_hasToStand_0 0 rfl ?_
  refine J_getR fd_0_0 w_34 rfl dX0_hasToStand_1 (fun r1 => ?_)
  refine J_getI fd_3_12 w_38 rfl dX0_hasToStand_4 ?_
  refine J_iload_n dX0_hasToStand_7 2 rfl ?_
  refine J_icmp_gt (tgt := 27) dX0_hasToStand_8 (by decide) ?_ ?_
  · refine J_sub [] rfl ?_
    exact jX0_hasToStand_27 G l    _
  · refine J_aload_n dX0_hasToStand_11 0 rfl ?_
    refine J_getR fd_0_0 w_34 rfl dX0_hasToStand_12 (fun r3 => ?_)
    refine J_getR fd_3_6 w_39 rfl dX0_hasToStand_15 (fun r4 => ?_)
    refine J_iload_n dX0_hasToStand_18 2 rfl ?_
    refine J_iald dX0_hasToStand_19 ?_
    refine J_aload_n dX0_hasToStand_20 1 rfl ?_
    refine J_callVi (okX5_size G l _ _) mkX5_size _ _ rfl w_45 w_46 w_47 ⟨by decide, by decide⟩ rfl (Nat.le_of_ble_eq_true rfl) dX0_hasToStand_21 (fun v7 M6 => ?_)
    refine J_icmp_ge (tgt := 31) dX0_hasToStand_24 (by decide) ?_ ?_
    · refine J_iconst (v := 0) dX0_hasToStand_31 (by decide) ?_
      refine J_sub [] rfl ?_
      exact jX0_hasToStand_32 G l   _ _
    · refine J_sub [] rfl ?_
      exact jX0_hasToStand_27 G l    _
theorem okX0_hasToStand (G : Gx) (l : Launch) (l0 : Nat) (l1 : Nat) (l2 : Int32) (M : Mem) : Con G l yX0_hasToStand cX0_hasToStand 3 (some .boolean) 1 20 (fun v : Int32 => some (.int v)) [.ref (adr G l0), .ref (adr G l1), .int l2] M (fX0_hasToStand l0 l1 l2 M) := con_of (own := RX0) (nm := "hasToStand") (by decide +kernel) rfl rfl (Nat.le_of_ble_eq_true rfl) (jX0_hasToStand G l l0 l1 l2 M)
theorem mkX0_hasToStand : MOk yX0_hasToStand cX0_hasToStand 3 (some .boolean) 2 := ⟨w_187, tb1 (List.mem_of_getElem? (i := 9) rfl) rfl, by decide +kernel, by decide +kernel, by decide +kernel⟩
-- X3_startEvery
def fX3_startEvery (l0 : Nat) (l1 : Int32) (M : Mem) : Option (Unit × Mem) := (pI M 3 16 l0 l1 fun M1 => (pI M1 3 17 l0 (0 : Int32) fun M2 => some ((), M2)))
set_option maxHeartbeats 4000000 in
set_option maxRecDepth 100000 in
theorem jX3_startEvery (G : Gx) (l : Launch) (l0 : Nat) (l1 : Int32) (M : Mem) : J G l cX3_startEvery 2 RX3 none "startEvery" 0 0 (QM G (fun _ : Unit => none)) 0 [(0, .ref (adr G l0)), (1, .int l1)] [] M (fX3_startEvery l0 l1 M) := by
  unfold fX3_startEvery
  refine J_aload_n dX3_startEvery_0 0 rfl ?_
  refine J_iload_n dX3_startEvery_1 1 rfl ?_
  refine J_putI fd_3_16 w_125 dX3_startEvery_2 ?_
  refine J_aload_n dX3_startEvery_5 0 rfl ?_
  refine J_iconst (v := 0) dX3_startEvery_6 (by decide) ?_
  refine J_putI fd_3_17 w_124 dX3_startEvery_7 ?_
  exact J_vret dX3_startEvery_10
theorem okX3_startEvery (G : Gx) (l : Launch) (l0 : Nat) (l1 : Int32) (M : Mem) : Con G l yX3_startEvery cX3_startEvery 2 none 0 0 (fun _ : Unit => none) [.ref (adr G l0), .int l1] M (fX3_startEvery l0 l1 M) := con_of (own := RX3) (nm := "startEvery") (by decide +kernel) rfl rfl (Nat.le_of_ble_eq_true rfl) (jX3_startEvery G l l0 l1 M)
theorem mkX3_startEvery : MOk yX3_startEvery cX3_startEvery 2 none 1 := ⟨w_191, tb1 (List.mem_of_getElem? (i := 2) rfl) rfl, by decide +kernel, by decide +kernel, by decide +kernel⟩
-- X3_startAnew
def fX3_startAnew (l0 : Nat) (M : Mem) : Option (Unit × Mem) := (pI M 3 4 l0 (0 : Int32) fun M1 => (pI M1 3 12 l0 (0 : Int32) fun M2 => (pI M2 3 15 l0 (0 : Int32) fun M3 => (cV M3 3 l0 (fX3_startEvery l0 (0 : Int32) M3) fun _u5 M4 => some ((), M4)))))
set_option maxHeartbeats 4000000 in
set_option maxRecDepth 100000 in
theorem jX3_startAnew (G : Gx) (l : Launch) (l0 : Nat) (M : Mem) : J G l cX3_startAnew 1 RX3 none "startAnew" 1 21 (QM G (fun _ : Unit => none)) 0 [(0, .ref (adr G l0))] [] M (fX3_startAnew l0 M) := by
  unfold fX3_startAnew
  refine J_aload_n dX3_startAnew_0 0 rfl ?_
  refine J_iconst (v := 0) dX3_startAnew_1 (by decide) ?_
  refine J_putI fd_3_4 w_59 dX3_startAnew_2 ?_
  refine J_aload_n dX3_startAnew_5 0 rfl ?_
  refine J_iconst (v := 0) dX3_startAnew_6 (by decide) ?_
  refine J_putI fd_3_12 w_58 dX3_startAnew_7 ?_
  refine J_aload_n dX3_startAnew_10 0 rfl ?_
  refine J_iconst (v := 0) dX3_startAnew_11 (by decide) ?_
  refine J_putI fd_3_15 w_143 dX3_startAnew_12 ?_
  refine J_aload_n dX3_startAnew_15 0 rfl ?_
  refine J_iconst (v := 0) dX3_startAnew_16 (by decide) ?_
  refine J_callVv (okX3_startEvery G l _ _ _) mkX3_startEvery _ _ rfl w_195 w_193 w_194 ⟨by decide, by decide⟩ rfl (Nat.le_of_ble_eq_true rfl) dX3_startAnew_17 (fun _u5 M4 => ?_)
  exact J_vret dX3_startAnew_20
theorem okX3_startAnew (G : Gx) (l : Launch) (l0 : Nat) (M : Mem) : Con G l yX3_startAnew cX3_startAnew 1 none 1 21 (fun _ : Unit => none) [.ref (adr G l0)] M (fX3_startAnew l0 M) := con_of (own := RX3) (nm := "startAnew") (by decide +kernel) rfl rfl (Nat.le_of_ble_eq_true rfl) (jX3_startAnew G l l0 M)
theorem mkX3_startAnew : MOk yX3_startAnew cX3_startAnew 1 none 0 := ⟨w_196, tb1 (List.mem_of_getElem? (i := 2) rfl) rfl, by decide +kernel, by decide +kernel, by decide +kernel⟩
-- X0_firstBad
def fX0_firstBad_95   (M : Mem) : Option (Int32 × Mem) := some ((-1 : Int32), M)
set_option maxHeartbeats 4000000 in
set_option maxRecDepth 100000 in
theorem jX0_firstBad_95 (G : Gx) (l : Launch)    (M : Mem) : J G l cX0_firstBad 4 RX0 (some .int) "firstBad" 6 149 (QM G (fun v : Int32 => some (.int v))) 95 [] [] M (fX0_firstBad_95   M) := by
  unfold fX0_firstBad_95
  refine J_iconst (v := -1) dX0_firstBad_95 (by decide) ?_
  exact J_iret dX0_firstBad_96
def fX0_firstBad_87  (l3 : Int32) (M : Mem) : Option (Int32 × Mem) := some (l3, M)
set_option maxHeartbeats 4000000 in
set_option maxRecDepth 100000 in
theorem jX0_firstBad_87 (G : Gx) (l : Launch)   (l3 : Int32) (M : Mem) : J G l cX0_firstBad 4 RX0 (some .int) "firstBad" 6 149 (QM G (fun v : Int32 => some (.int v))) 87 [(3, .int l3)] [] M (fX0_firstBad_87  l3 M) := by
  unfold fX0_firstBad_87
  refine J_iload_n dX0_firstBad_87 0 rfl ?_
  exact J_iret dX0_firstBad_88
def fX0_firstBad_67 (k9 : Nat → Nat → Nat → Int32 → Mem → Option (Int32 × Mem)) (l0 : Nat) (l1 : Nat) (l2 : Nat) (l3 : Int32) (M : Mem) : Option (Int32 × Mem) := (gR M 0 0 l0 fun r1 => (gI M 3 12 r1 fun v2 => (if v2 = l3 then fX0_firstBad_87  l3 M else (cV M 0 l0 (fX0_stands l0 l1 l3 M) fun v4 M3 => (if v4 = 0 then fX0_firstBad_87  l3 M3 else k9 l0 l1 l2 (l3 + (1 : Int32)) M3)))))
set_option maxHeartbeats 4000000 in
set_option maxRecDepth 100000 in
theorem jX0_firstBad_67 (G : Gx) (l : Launch) (k9 : Nat → Nat → Nat → Int32 → Mem → Option (Int32 × Mem)) (h9 : ∀ (l0 : Nat) (l1 : Nat) (l2 : Nat) (l3 : Int32) (M : Mem), J G l cX0_firstBad 4 RX0 (some .int) "firstBad" 6 149 (QM G (fun v : Int32 => some (.int v))) 9 [(0, .ref (adr G l0)), (1, .ref (adr G l1)), (2, .ref (adr G l2)), (3, .int l3)] [] M (k9 l0 l1 l2 l3 M)) (l0 : Nat) (l1 : Nat) (l2 : Nat) (l3 : Int32) (M : Mem) : J G l cX0_firstBad 4 RX0 (some .int) "firstBad" 6 149 (QM G (fun v : Int32 => some (.int v))) 67 [(0, .ref (adr G l0)), (1, .ref (adr G l1)), (2, .ref (adr G l2)), (3, .int l3)] [] M (fX0_firstBad_67 k9 l0 l1 l2 l3 M) := by
  unfold fX0_firstBad_67
  refine J_aload_n dX0_firstBad_67 0 rfl ?_
  refine J_getR fd_0_0 w_34 rfl dX0_firstBad_68 (fun r1 => ?_)
  refine J_getI fd_3_12 w_38 rfl dX0_firstBad_71 ?_
  refine J_iload_n dX0_firstBad_74 3 rfl ?_
  refine J_icmp_eq (tgt := 87) dX0_firstBad_75 (by decide) ?_ ?_
  · refine J_sub [3] rfl ?_
    exact jX0_firstBad_87 G l   _ _
  · refine J_aload_n dX0_firstBad_78 0 rfl ?_
    refine J_aload_n dX0_firstBad_79 1 rfl ?_
    refine J_iload_n dX0_firstBad_80 3 rfl ?_
    refine J_callVi (okX0_stands G l _ _ _ _) mkX0_stands _ _ rfl w_49 w_50 w_51 ⟨by decide, by decide⟩ rfl (Nat.le_of_ble_eq_true rfl) dX0_firstBad_81 (fun v4 M3 => ?_)
    refine J_if_ne (tgt := 89) dX0_firstBad_84 (by decide) ?_ ?_
    · refine J_iincK (z := 1) (lv' := [(3, .int _), (0, .ref _), (1, .ref _), (2, .ref _)]) dX0_firstBad_89 3 rfl (by decide) (by decide) rfl ?_
      refine J_goto (tgt := 9) dX0_firstBad_92 (by decide) ?_
      refine J_sub [1, 2, 3, 0] rfl ?_
      exact h9 _ _ _ _ _
    · refine J_sub [3] rfl ?_
      exact jX0_firstBad_87 G l   _ _
def fX0_firstBad_42 (k9 : Nat → Nat → Nat → Int32 → Mem → Option (Int32 × Mem)) (l0 : Nat) (l1 : Nat) (l2 : Nat) (l3 : Int32) (M : Mem) : Option (Int32 × Mem) := (gR M 0 0 l0 fun r1 => (gI M 3 12 r1 fun v2 => (if v2 = l3 then (gR M 0 0 l0 fun r3 => (gR M 3 6 r3 fun r4 => (rI M .int r4 l3 fun v5 => (cV M 0 l0 (fX0_callAgain l0 l1 v5 M) fun _u7 M6 => fX0_firstBad_67 k9 l0 l1 l2 l3 M6)))) else fX0_firstBad_67 k9 l0 l1 l2 l3 M)))
set_option maxHeartbeats 4000000 in
set_option maxRecDepth 100000 in
theorem jX0_firstBad_42 (G : Gx) (l : Launch) (k9 : Nat → Nat → Nat → Int32 → Mem → Option (Int32 × Mem)) (h9 : ∀ (l0 : Nat) (l1 : Nat) (l2 : Nat) (l3 : Int32) (M : Mem), J G l cX0_firstBad 4 RX0 (some .int) "firstBad" 6 149 (QM G (fun v : Int32 => some (.int v))) 9 [(0, .ref (adr G l0)), (1, .ref (adr G l1)), (2, .ref (adr G l2)), (3, .int l3)] [] M (k9 l0 l1 l2 l3 M)) (l0 : Nat) (l1 : Nat) (l2 : Nat) (l3 : Int32) (M : Mem) : J G l cX0_firstBad 4 RX0 (some .int) "firstBad" 6 149 (QM G (fun v : Int32 => some (.int v))) 42 [(0, .ref (adr G l0)), (1, .ref (adr G l1)), (2, .ref (adr G l2)), (3, .int l3)] [] M (fX0_firstBad_42 k9 l0 l1 l2 l3 M) := by
  unfold fX0_firstBad_42
  refine J_aload_n dX0_firstBad_42 0 rfl ?_
  refine J_getR fd_0_0 w_34 rfl dX0_firstBad_43 (fun r1 => ?_)
  refine J_getI fd_3_12 w_38 rfl dX0_firstBad_46 ?_
  refine J_iload_n dX0_firstBad_49 3 rfl ?_
  refine J_icmp_ne (tgt := 67) dX0_firstBad_50 (by decide) ?_ ?_
  · refine J_sub [0, 1, 2, 3] rfl ?_
    exact jX0_firstBad_67 G l _ h9 _ _ _ _ _
  · refine J_aload_n dX0_firstBad_53 0 rfl ?_
    refine J_aload_n dX0_firstBad_54 1 rfl ?_
    refine J_aload_n dX0_firstBad_55 0 rfl ?_
    refine J_getR fd_0_0 w_34 rfl dX0_firstBad_56 (fun r3 => ?_)
    refine J_getR fd_3_6 w_39 rfl dX0_firstBad_59 (fun r4 => ?_)
    refine J_iload_n dX0_firstBad_62 3 rfl ?_
    refine J_iald dX0_firstBad_63 ?_
    refine J_callVv (okX0_callAgain G l _ _ _ _) mkX0_callAgain _ _ rfl w_184 w_185 w_186 ⟨by decide, by decide⟩ rfl (Nat.le_of_ble_eq_true rfl) dX0_firstBad_64 (fun _u7 M6 => ?_)
    refine J_sub [0, 1, 2, 3] rfl ?_
    exact jX0_firstBad_67 G l _ h9 _ _ _ _ _
def fX0_firstBad_9  : Nat → Nat → Nat → Nat → Int32 → Mem → Option (Int32 × Mem)
  | 0, _, _, _, _, _ => none
  | n + 1, l0, l1, l2, l3, M => (if (200 : Int32) < l3 then fX0_firstBad_95   M else (cV M 0 l0 (fX0_hasToStand l0 l1 l3 M) fun v2 M1 => (if v2 = 0 then fX0_firstBad_95   M1 else (rI M1 .int l2 l3 fun v3 => (if v3 = (-1 : Int32) then fX0_firstBad_42 (fX0_firstBad_9  n) l0 l1 l2 l3 M1 else (gR M1 0 0 l0 fun r4 => (rI M1 .int l2 l3 fun v5 => (cV M1 3 r4 (fX3_startEvery r4 v5 M1) fun _u7 M6 => fX0_firstBad_42 (fX0_firstBad_9  n) l0 l1 l2 l3 M6))))))))
set_option maxHeartbeats 4000000 in
set_option maxRecDepth 100000 in
theorem jX0_firstBad_9 (G : Gx) (l : Launch)   : ∀ (n : Nat) (l0 : Nat) (l1 : Nat) (l2 : Nat) (l3 : Int32) (M : Mem), J G l cX0_firstBad 4 RX0 (some .int) "firstBad" 6 149 (QM G (fun v : Int32 => some (.int v))) 9 [(0, .ref (adr G l0)), (1, .ref (adr G l1)), (2, .ref (adr G l2)), (3, .int l3)] [] M (fX0_firstBad_9  n l0 l1 l2 l3 M) := by
  intro n
  induction n with
  | zero => intro l0 l1 l2 l3 M; exact J_none
  | succ n ih =>
    intro l0 l1 l2 l3 M
    rw [fX0_firstBad_9]
    refine J_iload_n dX0_firstBad_9 3 rfl ?_
    refine J_sipush (v := 200) dX0_firstBad_10 (by decide) ?_
    refine J_icmp_gt (tgt := 95) dX0_firstBad_13 (by decide) ?_ ?_
    · refine J_sub [] rfl ?_
      exact jX0_firstBad_95 G l    _
    · refine J_aload_n dX0_firstBad_16 0 rfl ?_
      refine J_aload_n dX0_firstBad_17 1 rfl ?_
      refine J_iload_n dX0_firstBad_18 3 rfl ?_
      refine J_callVi (okX0_hasToStand G l _ _ _ _) mkX0_hasToStand _ _ rfl w_188 w_189 w_190 ⟨by decide, by decide⟩ rfl (Nat.le_of_ble_eq_true rfl) dX0_firstBad_19 (fun v2 M1 => ?_)
      refine J_if_eq (tgt := 95) dX0_firstBad_22 (by decide) ?_ ?_
      · refine J_sub [] rfl ?_
        exact jX0_firstBad_95 G l    _
      · refine J_aload_n dX0_firstBad_25 2 rfl ?_
        refine J_iload_n dX0_firstBad_26 3 rfl ?_
        refine J_iald dX0_firstBad_27 ?_
        refine J_iconst (v := -1) dX0_firstBad_28 (by decide) ?_
        refine J_icmp_eq (tgt := 42) dX0_firstBad_29 (by decide) ?_ ?_
        · refine J_sub [0, 1, 2, 3] rfl ?_
          exact jX0_firstBad_42 G l _ ih _ _ _ _ _
        · refine J_aload_n dX0_firstBad_32 0 rfl ?_
          refine J_getR fd_0_0 w_34 rfl dX0_firstBad_33 (fun r4 => ?_)
          refine J_aload_n dX0_firstBad_36 2 rfl ?_
          refine J_iload_n dX0_firstBad_37 3 rfl ?_
          refine J_iald dX0_firstBad_38 ?_
          refine J_callVv (okX3_startEvery G l _ _ _) mkX3_startEvery _ _ rfl w_192 w_193 w_194 ⟨by decide, by decide⟩ rfl (Nat.le_of_ble_eq_true rfl) dX0_firstBad_39 (fun _u7 M6 => ?_)
          refine J_sub [0, 1, 2, 3] rfl ?_
          exact jX0_firstBad_42 G l _ ih _ _ _ _ _
def fX0_firstBad (l0 : Nat) (l1 : Nat) (l2 : Nat) (M : Mem) : Option (Int32 × Mem) := (gR M 0 0 l0 fun r1 => (cV M 3 r1 (fX3_startAnew r1 M) fun _u3 M2 => fX0_firstBad_9  FU l0 l1 l2 (0 : Int32) M2))
set_option maxHeartbeats 4000000 in
set_option maxRecDepth 100000 in
theorem jX0_firstBad (G : Gx) (l : Launch) (l0 : Nat) (l1 : Nat) (l2 : Nat) (M : Mem) : J G l cX0_firstBad 4 RX0 (some .int) "firstBad" 6 149 (QM G (fun v : Int32 => some (.int v))) 0 [(0, .ref (adr G l0)), (1, .ref (adr G l1)), (2, .ref (adr G l2))] [] M (fX0_firstBad l0 l1 l2 M) := by
  unfold fX0_firstBad
  refine J_aload_n dX0_firstBad_0 0 rfl ?_
  refine J_getR fd_0_0 w_34 rfl dX0_firstBad_1 (fun r1 => ?_)
  refine J_callVv (okX3_startAnew G l _ _) mkX3_startAnew _ _ rfl w_197 w_198 w_199 ⟨by decide, by decide⟩ rfl (Nat.le_of_ble_eq_true rfl) dX0_firstBad_4 (fun _u3 M2 => ?_)
  refine J_iconst (v := 0) dX0_firstBad_7 (by decide) ?_
  refine J_istore_n (lv' := [(3, .int _), (0, .ref _), (1, .ref _), (2, .ref _)]) dX0_firstBad_8 (by decide) rfl ?_
  refine J_sub [1, 2, 3, 0] rfl ?_
  exact jX0_firstBad_9 G l   FU _ _ _ _ _
theorem okX0_firstBad (G : Gx) (l : Launch) (l0 : Nat) (l1 : Nat) (l2 : Nat) (M : Mem) : Con G l yX0_firstBad cX0_firstBad 4 (some .int) 6 149 (fun v : Int32 => some (.int v)) [.ref (adr G l0), .ref (adr G l1), .ref (adr G l2)] M (fX0_firstBad l0 l1 l2 M) := con_of (own := RX0) (nm := "firstBad") (by decide +kernel) rfl rfl (Nat.le_of_ble_eq_true rfl) (jX0_firstBad G l l0 l1 l2 M)
theorem mkX0_firstBad : MOk yX0_firstBad cX0_firstBad 4 (some .int) 2 := ⟨w_200, tb1 (List.mem_of_getElem? (i := 9) rfl) rfl, by decide +kernel, by decide +kernel, by decide +kernel⟩
-- X2_init
def fX2_init (l0 : Nat) (M : Mem) : Option (Unit × Mem) := (nwA M .int (8 : Int32) fun c1 M2 => (pR M2 2 0 l0 c1 fun M3 => (nwA M3 .int (8 : Int32) fun c4 M5 => (pR M5 2 1 l0 c4 fun M6 => (pI M6 2 2 l0 (-1 : Int32) fun M7 => some ((), M7))))))
set_option maxHeartbeats 4000000 in
set_option maxRecDepth 100000 in
theorem jX2_init (G : Gx) (l : Launch) (l0 : Nat) (M : Mem) : J G l cX2_init 1 RX2 none "<init>" 1 20 (QM G (fun _ : Unit => none)) 0 [(0, .ref (adr G l0))] [] M (fX2_init l0 M) := by
  unfold fX2_init
  refine J_aload_n dX2_init_0 0 rfl ?_
  refine J_objInit w_201 w_1 w_2 ⟨by decide, by decide⟩ (Nat.le_of_ble_eq_true rfl) dX2_init_1 ?_
  refine J_aload_n dX2_init_4 0 rfl ?_
  refine J_bipush (v := 8) dX2_init_5 (by decide) ?_
  refine J_newa (ty := .int) (t0 := 0) rfl (fun _ _ _ _ => rfl) (fun _ _ h => h) nz_int (by decide) w_12 dX2_init_7 ?_
  refine J_putRF fd_2_0 w_202 (Or.inl ⟨_, rfl⟩) dX2_init_9 ?_
  refine J_aload_n dX2_init_12 0 rfl ?_
  refine J_bipush (v := 8) dX2_init_13 (by decide) ?_
  refine J_newa (ty := .int) (t0 := 0) rfl (fun _ _ _ _ => rfl) (fun _ _ h => h) nz_int (by decide) w_12 dX2_init_15 ?_
  refine J_putRF fd_2_1 w_203 (Or.inl ⟨_, rfl⟩) dX2_init_17 ?_
  refine J_aload_n dX2_init_20 0 rfl ?_
  refine J_iconst (v := -1) dX2_init_21 (by decide) ?_
  refine J_putI fd_2_2 w_204 dX2_init_22 ?_
  exact J_vret dX2_init_25
theorem okX2_init (G : Gx) (l : Launch) (l0 : Nat) (M : Mem) : Con G l yX2_init cX2_init 1 none 1 20 (fun _ : Unit => none) [.ref (adr G l0)] M (fX2_init l0 M) := con_of (own := RX2) (nm := "<init>") (by decide +kernel) rfl rfl (Nat.le_of_ble_eq_true rfl) (jX2_init G l l0 M)
theorem mkX2_init : MOk yX2_init cX2_init 1 none 0 := ⟨w_205, tb1 (List.mem_of_getElem? (i := 7) rfl) rfl, by decide +kernel, by decide +kernel, by decide +kernel⟩
-- X6_init
def fX6_init (l0 : Nat) (M : Mem) : Option (Unit × Mem) := (nwA M .byte (128 : Int32) fun c1 M2 => (pR M2 6 0 l0 c1 fun M3 => (nwA M3 .int (64 : Int32) fun c4 M5 => (pR M5 6 2 l0 c4 fun M6 => (nwA M6 .int (8 : Int32) fun c7 M8 => (pR M8 6 3 l0 c7 fun M9 => some ((), M9)))))))
set_option maxHeartbeats 4000000 in
set_option maxRecDepth 100000 in
theorem jX6_init (G : Gx) (l : Launch) (l0 : Nat) (M : Mem) : J G l cX6_init 1 RX6 none "<init>" 1 20 (QM G (fun _ : Unit => none)) 0 [(0, .ref (adr G l0))] [] M (fX6_init l0 M) := by
  unfold fX6_init
  refine J_aload_n dX6_init_0 0 rfl ?_
  refine J_objInit w_208 w_1 w_2 ⟨by decide, by decide⟩ (Nat.le_of_ble_eq_true rfl) dX6_init_1 ?_
  refine J_aload_n dX6_init_4 0 rfl ?_
  refine J_sipush (v := 128) dX6_init_5 (by decide) ?_
  refine J_newa (ty := .byte) (t0 := 1) rfl (fun _ _ _ _ => rfl) (fun _ _ h => h) nz_byte (by decide) w_10 dX6_init_8 ?_
  refine J_putRF fd_6_0 w_209 (Or.inl ⟨_, rfl⟩) dX6_init_10 ?_
  refine J_aload_n dX6_init_13 0 rfl ?_
  refine J_bipush (v := 64) dX6_init_14 (by decide) ?_
  refine J_newa (ty := .int) (t0 := 0) rfl (fun _ _ _ _ => rfl) (fun _ _ h => h) nz_int (by decide) w_12 dX6_init_16 ?_
  refine J_putRF fd_6_2 w_210 (Or.inl ⟨_, rfl⟩) dX6_init_18 ?_
  refine J_aload_n dX6_init_21 0 rfl ?_
  refine J_bipush (v := 8) dX6_init_22 (by decide) ?_
  refine J_newa (ty := .int) (t0 := 0) rfl (fun _ _ _ _ => rfl) (fun _ _ h => h) nz_int (by decide) w_12 dX6_init_24 ?_
  refine J_putRF fd_6_3 w_211 (Or.inl ⟨_, rfl⟩) dX6_init_26 ?_
  exact J_vret dX6_init_29
theorem okX6_init (G : Gx) (l : Launch) (l0 : Nat) (M : Mem) : Con G l yX6_init cX6_init 1 none 1 20 (fun _ : Unit => none) [.ref (adr G l0)] M (fX6_init l0 M) := con_of (own := RX6) (nm := "<init>") (by decide +kernel) rfl rfl (Nat.le_of_ble_eq_true rfl) (jX6_init G l l0 M)
theorem mkX6_init : MOk yX6_init cX6_init 1 none 0 := ⟨w_212, tb1 (List.mem_of_getElem? (i := 6) rfl) rfl, by decide +kernel, by decide +kernel, by decide +kernel⟩
-- X5_init
def fX5_init (l0 : Nat) (M : Mem) : Option (Unit × Mem) := (nwA M .byte (16400 : Int32) fun c1 M2 => (pR M2 5 0 l0 c1 fun M3 => (nwA M3 .int (201 : Int32) fun c4 M5 => (pR M5 5 1 l0 c4 fun M6 => (nwO M6 6 4 fun c7 M8 => (bd (fX6_init c7 M8) fun _u10 M9 => (pR M9 5 3 l0 c7 fun M11 => (nwG M11 (201 : Int32) (8 : Int32) fun c12 M13 => (pR M13 5 4 l0 c12 fun M14 => (nwG M14 (456 : Int32) (8 : Int32) fun c15 M16 => (pR M16 5 6 l0 c15 fun M17 => (nwA M17 .boolean (456 : Int32) fun c18 M19 => (pR M19 5 7 l0 c18 fun M20 => some ((), M20))))))))))))))
set_option maxHeartbeats 4000000 in
set_option maxRecDepth 100000 in
theorem jX5_init (G : Gx) (l : Launch) (l0 : Nat) (M : Mem) : J G l cX5_init 1 RX5 none "<init>" 2 40 (QM G (fun _ : Unit => none)) 0 [(0, .ref (adr G l0))] [] M (fX5_init l0 M) := by
  unfold fX5_init
  refine J_aload_n dX5_init_0 0 rfl ?_
  refine J_objInit w_206 w_1 w_2 ⟨by decide, by decide⟩ (Nat.le_of_ble_eq_true rfl) dX5_init_1 ?_
  refine J_aload_n dX5_init_4 0 rfl ?_
  refine J_sipush (v := 16400) dX5_init_5 (by decide) ?_
  refine J_newa (ty := .byte) (t0 := 1) rfl (fun _ _ _ _ => rfl) (fun _ _ h => h) nz_byte (by decide) w_10 dX5_init_8 ?_
  refine J_putRF fd_5_0 w_53 (Or.inl ⟨_, rfl⟩) dX5_init_10 ?_
  refine J_aload_n dX5_init_13 0 rfl ?_
  refine J_sipush (v := 201) dX5_init_14 (by decide) ?_
  refine J_newa (ty := .int) (t0 := 0) rfl (fun _ _ _ _ => rfl) (fun _ _ h => h) nz_int (by decide) w_12 dX5_init_17 ?_
  refine J_putRF fd_5_1 w_42 (Or.inl ⟨_, rfl⟩) dX5_init_19 ?_
  refine J_aload_n dX5_init_22 0 rfl ?_
  refine J_new nw_6 w_207 dX5_init_23 ?_
  refine J_dup dX5_init_26 rfl ?_
  refine J_callINv (host := "ChainBooks") (okX6_init G l _ _) mkX6_init rfl (List.mem_of_getElem? (i := 5) rfl) w_213 ⟨by decide, by decide⟩ rfl (Nat.le_of_ble_eq_true rfl) dX5_init_27 (fun _u10 M9 => ?_)
  refine J_putRF fd_5_3 w_214 (Or.inr ⟨_, rfl⟩) dX5_init_30 ?_
  refine J_aload_n dX5_init_33 0 rfl ?_
  refine J_sipush (v := 201) dX5_init_34 (by decide) ?_
  refine J_bipush (v := 8) dX5_init_37 (by decide) ?_
  refine J_multi w_215 w_12 dX5_init_39 ?_
  refine J_putRF fd_5_4 w_216 (Or.inl ⟨_, rfl⟩) dX5_init_43 ?_
  refine J_aload_n dX5_init_46 0 rfl ?_
  refine J_sipush (v := 456) dX5_init_47 (by decide) ?_
  refine J_bipush (v := 8) dX5_init_50 (by decide) ?_
  refine J_multi w_215 w_12 dX5_init_52 ?_
  refine J_putRF fd_5_6 w_217 (Or.inl ⟨_, rfl⟩) dX5_init_56 ?_
  refine J_aload_n dX5_init_59 0 rfl ?_
  refine J_sipush (v := 456) dX5_init_60 (by decide) ?_
  refine J_newa (ty := .boolean) (t0 := 2) rfl (fun _ _ _ _ => rfl) (fun _ _ h => h) nz_boolean (by decide) w_218 dX5_init_63 ?_
  refine J_putRF fd_5_7 w_219 (Or.inl ⟨_, rfl⟩) dX5_init_65 ?_
  exact J_vret dX5_init_68
theorem okX5_init (G : Gx) (l : Launch) (l0 : Nat) (M : Mem) : Con G l yX5_init cX5_init 1 none 2 40 (fun _ : Unit => none) [.ref (adr G l0)] M (fX5_init l0 M) := con_of (own := RX5) (nm := "<init>") (by decide +kernel) rfl rfl (Nat.le_of_ble_eq_true rfl) (jX5_init G l l0 M)
theorem mkX5_init : MOk yX5_init cX5_init 1 none 0 := ⟨w_220, tb1 (List.mem_of_getElem? (i := 5) rfl) rfl, by decide +kernel, by decide +kernel, by decide +kernel⟩
-- X5_follow
def fX5_follow (l0 : Nat) (l1 : Nat) (M : Mem) : Option (Unit × Mem) := (cV M 5 l0 (fX5_size l0 M) fun v2 M1 => (gR M1 3 6 l1 fun r3 => (gI M1 3 12 l1 fun v4 => (rI M1 .int r3 v4 fun v5 => (gR M1 3 5 l1 fun r6 => (gR M1 5 0 l0 fun r7 => (cpI M1 .byte r6 v2 r7 v2 (v5 - v2) fun M8 => (gR M8 3 6 l1 fun r9 => (gR M8 5 1 l0 fun r10 => (gI M8 3 12 l1 fun v11 => (cpI M8 .int r9 (0 : Int32) r10 (0 : Int32) (v11 + (1 : Int32)) fun M12 => (gI M12 3 12 l1 fun v13 => (pI M12 5 2 l0 v13 fun M14 => some ((), M14))))))))))))))
set_option maxHeartbeats 4000000 in
set_option maxRecDepth 100000 in
theorem jX5_follow (G : Gx) (l : Launch) (l0 : Nat) (l1 : Nat) (M : Mem) : J G l cX5_follow 4 RX5 none "follow" 1 20 (QM G (fun _ : Unit => none)) 0 [(0, .ref (adr G l0)), (1, .ref (adr G l1))] [] M (fX5_follow l0 l1 M) := by
  unfold fX5_follow
  refine J_aload_n dX5_follow_0 0 rfl ?_
  refine J_callVi (okX5_size G l _ _) mkX5_size _ _ rfl w_52 w_46 w_47 ⟨by decide, by decide⟩ rfl (Nat.le_of_ble_eq_true rfl) dX5_follow_1 (fun v2 M1 => ?_)
  refine J_istore_n (lv' := [(2, .int _), (0, .ref _), (1, .ref _)]) dX5_follow_4 (by decide) rfl ?_
  refine J_aload_n dX5_follow_5 2 rfl ?_
  refine J_getR fd_3_6 w_221 rfl dX5_follow_6 (fun r3 => ?_)
  refine J_aload_n dX5_follow_9 2 rfl ?_
  refine J_getI fd_3_12 w_222 rfl dX5_follow_10 ?_
  refine J_iald dX5_follow_13 ?_
  refine J_istore_n (lv' := [(3, .int _), (2, .int _), (0, .ref _), (1, .ref _)]) dX5_follow_14 (by decide) rfl ?_
  refine J_aload_n dX5_follow_15 3 rfl ?_
  refine J_getR fd_3_5 w_223 rfl dX5_follow_16 (fun r6 => ?_)
  refine J_iload_n dX5_follow_19 1 rfl ?_
  refine J_aload_n dX5_follow_20 2 rfl ?_
  refine J_getR fd_5_0 w_53 rfl dX5_follow_21 (fun r7 => ?_)
  refine J_iload_n dX5_follow_24 1 rfl ?_
  refine J_iload_n dX5_follow_25 0 rfl ?_
  refine J_iload_n dX5_follow_26 1 rfl ?_
  refine J_isub dX5_follow_27 ?_
  refine J_copyI (ty := .byte) (t0 := 1) (fun _ _ _ _ => rfl) (fun _ _ _ => rfl) rfl w_224 w_73 w_74 w_75 ⟨by decide, Nat.le_of_ble_eq_true rfl⟩ dX5_follow_28 ?_
  refine J_aload_n dX5_follow_31 3 rfl ?_
  refine J_getR fd_3_6 w_221 rfl dX5_follow_32 (fun r9 => ?_)
  refine J_iconst (v := 0) dX5_follow_35 (by decide) ?_
  refine J_aload_n dX5_follow_36 2 rfl ?_
  refine J_getR fd_5_1 w_42 rfl dX5_follow_37 (fun r10 => ?_)
  refine J_iconst (v := 0) dX5_follow_40 (by decide) ?_
  refine J_aload_n dX5_follow_41 3 rfl ?_
  refine J_getI fd_3_12 w_222 rfl dX5_follow_42 ?_
  refine J_iconst (v := 1) dX5_follow_45 (by decide) ?_
  refine J_iadd dX5_follow_46 ?_
  refine J_copyI (ty := .int) (t0 := 0) (fun _ _ _ _ => rfl) (fun _ _ _ => rfl) rfl w_224 w_73 w_74 w_75 ⟨by decide, Nat.le_of_ble_eq_true rfl⟩ dX5_follow_47 ?_
  refine J_aload_n dX5_follow_50 2 rfl ?_
  refine J_aload_n dX5_follow_51 3 rfl ?_
  refine J_getI fd_3_12 w_222 rfl dX5_follow_52 ?_
  refine J_putI fd_5_2 w_43 dX5_follow_55 ?_
  exact J_vret dX5_follow_58
theorem okX5_follow (G : Gx) (l : Launch) (l0 : Nat) (l1 : Nat) (M : Mem) : Con G l yX5_follow cX5_follow 4 none 1 20 (fun _ : Unit => none) [.ref (adr G l0), .ref (adr G l1)] M (fX5_follow l0 l1 M) := con_of (own := RX5) (nm := "follow") (by decide +kernel) rfl rfl (Nat.le_of_ble_eq_true rfl) (jX5_follow G l l0 l1 M)
theorem mkX5_follow : MOk yX5_follow cX5_follow 4 none 1 := ⟨w_225, tb1 (List.mem_of_getElem? (i := 5) rfl) rfl, by decide +kernel, by decide +kernel, by decide +kernel⟩
