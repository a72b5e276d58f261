-- X9_init
def fX9_init (l0 : Nat) (M : Mem) : Option (Unit × Mem) := (nwA M .int (2 : Int32) fun c1 M2 => (pR M2 9 0 l0 c1 fun M3 => (nwA M3 .int (2 : Int32) fun c4 M5 => (pR M5 9 1 l0 c4 fun M6 => (nwA M6 .int (2 : Int32) fun c7 M8 => (pR M8 9 2 l0 c7 fun M9 => (nwA M9 .int (2 : Int32) fun c10 M11 => (pR M11 9 3 l0 c10 fun M12 => (nwA M12 .boolean (2 : Int32) fun c13 M14 => (pR M14 9 4 l0 c13 fun M15 => (nwA M15 .long (80 : Int32) fun c16 M17 => (pR M17 9 5 l0 c16 fun M18 => (nwA M18 .long (80 : Int32) fun c19 M20 => (pR M20 9 6 l0 c19 fun M21 => (nwA M21 .long (80 : Int32) fun c22 M23 => (pR M23 9 7 l0 c22 fun M24 => (nwA M24 .long (80 : Int32) fun c25 M26 => (pR M26 9 8 l0 c25 fun M27 => (nwA M27 .int (400 : Int32) fun c28 M29 => (pR M29 9 9 l0 c28 fun M30 => (nwA M30 .long (400 : Int32) fun c31 M32 => (pR M32 9 10 l0 c31 fun M33 => (nwA M33 .int (400 : Int32) fun c34 M35 => (pR M35 9 11 l0 c34 fun M36 => (nwA M36 .int (3200 : Int32) fun c37 M38 => (pR M38 9 12 l0 c37 fun M39 => (nwA M39 .long (3200 : Int32) fun c40 M41 => (pR M41 9 13 l0 c40 fun M42 => (nwA M42 .int (400 : Int32) fun c43 M44 => (pR M44 9 14 l0 c43 fun M45 => (nwA M45 .long (400 : Int32) fun c46 M47 => (pR M47 9 15 l0 c46 fun M48 => (nwA M48 .boolean (400 : Int32) fun c49 M50 => (pR M50 9 16 l0 c49 fun M51 => (nwA M51 .int (400 : Int32) fun c52 M53 => (pR M53 9 17 l0 c52 fun M54 => (nwA M54 .int (17000 : Int32) fun c55 M56 => (pR M56 9 18 l0 c55 fun M57 => (nwA M57 .int (17000 : Int32) fun c58 M59 => (pR M59 9 19 l0 c58 fun M60 => (nwA M60 .int (200 : Int32) fun c61 M62 => (pR M62 9 21 l0 c61 fun M63 => (nwA M63 .int (200 : Int32) fun c64 M65 => (pR M65 9 22 l0 c64 fun M66 => (nwA M66 .int (210 : Int32) fun c67 M68 => (pR M68 9 23 l0 c67 fun M69 => (nwA M69 .int (210 : Int32) fun c70 M71 => (pR M71 9 24 l0 c70 fun M72 => (nwA M72 .int (8 : Int32) fun c73 M74 => (pR M74 9 32 l0 c73 fun M75 => (nwA M75 .long (8 : Int32) fun c76 M77 => (pR M77 9 33 l0 c76 fun M78 => (nwA M78 .int (100 : Int32) fun c79 M80 => (pR M80 9 34 l0 c79 fun M81 => (nwA M81 .long (40 : Int32) fun c82 M83 => (pR M83 9 36 l0 c82 fun M84 => (nwA M84 .int (8 : Int32) fun c85 M86 => (pR M86 9 38 l0 c85 fun M87 => (nwA M87 .long (8 : Int32) fun c88 M89 => (pR M89 9 39 l0 c88 fun M90 => (nwA M90 .int (64 : Int32) fun c91 M92 => (wI M92 .int c91 (0 : Int32) (1116352408 : Int32) fun M93 => (wI M93 .int c91 (1 : Int32) (1899447441 : Int32) fun M94 => (wI M94 .int c91 (2 : Int32) (-1245643825 : Int32) fun M95 => (wI M95 .int c91 (3 : Int32) (-373957723 : Int32) fun M96 => (wI M96 .int c91 (4 : Int32) (961987163 : Int32) fun M97 => (wI M97 .int c91 (5 : Int32) (1508970993 : Int32) fun M98 => (wI M98 .int c91 (6 : Int32) (-1841331548 : Int32) fun M99 => (wI M99 .int c91 (7 : Int32) (-1424204075 : Int32) fun M100 => (wI M100 .int c91 (8 : Int32) (-670586216 : Int32) fun M101 => (wI M101 .int c91 (9 : Int32) (310598401 : Int32) fun M102 => (wI M102 .int c91 (10 : Int32) (607225278 : Int32) fun M103 => (wI M103 .int c91 (11 : Int32) (1426881987 : Int32) fun M104 => (wI M104 .int c91 (12 : Int32) (1925078388 : Int32) fun M105 => (wI M105 .int c91 (13 : Int32) (-2132889090 : Int32) fun M106 => (wI M106 .int c91 (14 : Int32) (-1680079193 : Int32) fun M107 => (wI M107 .int c91 (15 : Int32) (-1046744716 : Int32) fun M108 => (wI M108 .int c91 (16 : Int32) (-459576895 : Int32) fun M109 => (wI M109 .int c91 (17 : Int32) (-272742522 : Int32) fun M110 => (wI M110 .int c91 (18 : Int32) (264347078 : Int32) fun M111 => (wI M111 .int c91 (19 : Int32) (604807628 : Int32) fun M112 => (wI M112 .int c91 (20 : Int32) (770255983 : Int32) fun M113 => (wI M113 .int c91 (21 : Int32) (1249150122 : Int32) fun M114 => (wI M114 .int c91 (22 : Int32) (1555081692 : Int32) fun M115 => (wI M115 .int c91 (23 : Int32) (1996064986 : Int32) fun M116 => (wI M116 .int c91 (24 : Int32) (-1740746414 : Int32) fun M117 => (wI M117 .int c91 (25 : Int32) (-1473132947 : Int32) fun M118 => (wI M118 .int c91 (26 : Int32) (-1341970488 : Int32) fun M119 => (wI M119 .int c91 (27 : Int32) (-1084653625 : Int32) fun M120 => (wI M120 .int c91 (28 : Int32) (-958395405 : Int32) fun M121 => (wI M121 .int c91 (29 : Int32) (-710438585 : Int32) fun M122 => (wI M122 .int c91 (30 : Int32) (113926993 : Int32) fun M123 => (wI M123 .int c91 (31 : Int32) (338241895 : Int32) fun M124 => (wI M124 .int c91 (32 : Int32) (666307205 : Int32) fun M125 => (wI M125 .int c91 (33 : Int32) (773529912 : Int32) fun M126 => (wI M126 .int c91 (34 : Int32) (1294757372 : Int32) fun M127 => (wI M127 .int c91 (35 : Int32) (1396182291 : Int32) fun M128 => (wI M128 .int c91 (36 : Int32) (1695183700 : Int32) fun M129 => (wI M129 .int c91 (37 : Int32) (1986661051 : Int32) fun M130 => (wI M130 .int c91 (38 : Int32) (-2117940946 : Int32) fun M131 => (wI M131 .int c91 (39 : Int32) (-1838011259 : Int32) fun M132 => (wI M132 .int c91 (40 : Int32) (-1564481375 : Int32) fun M133 => (wI M133 .int c91 (41 : Int32) (-1474664885 : Int32) fun M134 => (wI M134 .int c91 (42 : Int32) (-1035236496 : Int32) fun M135 => (wI M135 .int c91 (43 : Int32) (-949202525 : Int32) fun M136 => (wI M136 .int c91 (44 : Int32) (-778901479 : Int32) fun M137 => (wI M137 .int c91 (45 : Int32) (-694614492 : Int32) fun M138 => (wI M138 .int c91 (46 : Int32) (-200395387 : Int32) fun M139 => (wI M139 .int c91 (47 : Int32) (275423344 : Int32) fun M140 => (wI M140 .int c91 (48 : Int32) (430227734 : Int32) fun M141 => (wI M141 .int c91 (49 : Int32) (506948616 : Int32) fun M142 => (wI M142 .int c91 (50 : Int32) (659060556 : Int32) fun M143 => (wI M143 .int c91 (51 : Int32) (883997877 : Int32) fun M144 => (wI M144 .int c91 (52 : Int32) (958139571 : Int32) fun M145 => (wI M145 .int c91 (53 : Int32) (1322822218 : Int32) fun M146 => (wI M146 .int c91 (54 : Int32) (1537002063 : Int32) fun M147 => (wI M147 .int c91 (55 : Int32) (1747873779 : Int32) fun M148 => (wI M148 .int c91 (56 : Int32) (1955562222 : Int32) fun M149 => (wI M149 .int c91 (57 : Int32) (2024104815 : Int32) fun M150 => (wI M150 .int c91 (58 : Int32) (-2067236844 : Int32) fun M151 => (wI M151 .int c91 (59 : Int32) (-1933114872 : Int32) fun M152 => (wI M152 .int c91 (60 : Int32) (-1866530822 : Int32) fun M153 => (wI M153 .int c91 (61 : Int32) (-1538233109 : Int32) fun M154 => (wI M154 .int c91 (62 : Int32) (-1090935817 : Int32) fun M155 => (wI M155 .int c91 (63 : Int32) (-965641998 : Int32) fun M156 => (pR M156 9 40 l0 c91 fun M157 => (nwA M157 .int (256 : Int32) fun c158 M159 => (pR M159 9 41 l0 c158 fun M160 => (nwA M160 .int (64 : Int32) fun c161 M162 => (pR M162 9 43 l0 c161 fun M163 => (nwA M163 .int (8 : Int32) fun c164 M165 => (pR M165 9 44 l0 c164 fun M166 => (nwA M166 .int (32 : Int32) fun c167 M168 => (pR M168 9 45 l0 c167 fun M169 => (nwA M169 .int (512 : Int32) fun c170 M171 => (pR M171 9 46 l0 c170 fun M172 => (nwA M172 .int (16 : Int32) fun c173 M174 => (pR M174 9 47 l0 c173 fun M175 => (nwA M175 .int (8 : Int32) fun c176 M177 => (pR M177 9 48 l0 c176 fun M178 => (nwA M178 .boolean (8 : Int32) fun c179 M180 => (pR M180 9 49 l0 c179 fun M181 => (nwA M181 .int (256 : Int32) fun c182 M183 => (pR M183 9 50 l0 c182 fun M184 => (nwA M184 .int (256 : Int32) fun c185 M186 => (pR M186 9 51 l0 c185 fun M187 => (nwA M187 .int (1024 : Int32) fun c188 M189 => (pR M189 9 56 l0 c188 fun M190 => (nwA M190 .boolean (16 : Int32) fun c191 M192 => (pR M192 9 57 l0 c191 fun M193 => (nwA M193 .int (16 : Int32) fun c194 M195 => (pR M195 9 58 l0 c194 fun M196 => (nwA M196 .int (16 : Int32) fun c197 M198 => (pR M198 9 59 l0 c197 fun M199 => (nwA M199 .int (32 : Int32) fun c200 M201 => (pR M201 9 64 l0 c200 fun M202 => (nwA M202 .int (32 : Int32) fun c203 M204 => (pR M204 9 65 l0 c203 fun M205 => some ((), M205)))))))))))))))))))))))))))))))))))))))))))))))))))))))))))))))))))))))))))))))))))))))))))))))))))))))))))))))))))))))))))))))))))))))))))))))))))))))))))))))
set_option maxHeartbeats 4000000 in
set_option maxRecDepth 100000 in
theorem jX9_init (G : Gx) (l : Launch) (l0 : Nat) (M : Mem) : J G l cX9_init 1 RX9 none "<init>" 1 20 (QM G (fun _ : Unit => none)) 0 [(0, .ref (adr G l0))] [] M (fX9_init l0 M) := by
  unfold fX9_init
  refine J_aload_n dX9_init_0 0 rfl ?_
  refine J_objInit w_468 w_1 w_2 ⟨by decide, by decide⟩ (Nat.le_of_ble_eq_true rfl) dX9_init_1 ?_
  refine J_aload_n dX9_init_4 0 rfl ?_
  refine J_iconst (v := 2) dX9_init_5 (by decide) ?_
  refine J_newa (ty := .int) (t0 := 0) rfl (fun _ _ _ _ => rfl) (fun _ _ h => h) nz_int (by decide) w_12 dX9_init_6 ?_
  refine J_putRF fd_9_0 w_469 (Or.inl ⟨_, rfl⟩) dX9_init_8 ?_
  refine J_aload_n dX9_init_11 0 rfl ?_
  refine J_iconst (v := 2) dX9_init_12 (by decide) ?_
  refine J_newa (ty := .int) (t0 := 0) rfl (fun _ _ _ _ => rfl) (fun _ _ h => h) nz_int (by decide) w_12 dX9_init_13 ?_
  refine J_putRF fd_9_1 w_470 (Or.inl ⟨_, rfl⟩) dX9_init_15 ?_
  refine J_aload_n dX9_init_18 0 rfl ?_
  refine J_iconst (v := 2) dX9_init_19 (by decide) ?_
  refine J_newa (ty := .int) (t0 := 0) rfl (fun _ _ _ _ => rfl) (fun _ _ h => h) nz_int (by decide) w_12 dX9_init_20 ?_
  refine J_putRF fd_9_2 w_471 (Or.inl ⟨_, rfl⟩) dX9_init_22 ?_
  refine J_aload_n dX9_init_25 0 rfl ?_
  refine J_iconst (v := 2) dX9_init_26 (by decide) ?_
  refine J_newa (ty := .int) (t0 := 0) rfl (fun _ _ _ _ => rfl) (fun _ _ h => h) nz_int (by decide) w_12 dX9_init_27 ?_
  refine J_putRF fd_9_3 w_472 (Or.inl ⟨_, rfl⟩) dX9_init_29 ?_
  refine J_aload_n dX9_init_32 0 rfl ?_
  refine J_iconst (v := 2) dX9_init_33 (by decide) ?_
  refine J_newa (ty := .boolean) (t0 := 2) rfl (fun _ _ _ _ => rfl) (fun _ _ h => h) nz_boolean (by decide) w_218 dX9_init_34 ?_
  refine J_putRF fd_9_4 w_473 (Or.inl ⟨_, rfl⟩) dX9_init_36 ?_
  refine J_aload_n dX9_init_39 0 rfl ?_
  refine J_bipush (v := 80) dX9_init_40 (by decide) ?_
  refine J_newa (ty := .long) (t0 := 3) rfl (fun _ _ _ _ => rfl) (fun _ _ h => h) nz_long (by decide) w_5 dX9_init_42 ?_
  refine J_putRF fd_9_5 w_474 (Or.inl ⟨_, rfl⟩) dX9_init_44 ?_
  refine J_aload_n dX9_init_47 0 rfl ?_
  refine J_bipush (v := 80) dX9_init_48 (by decide) ?_
  refine J_newa (ty := .long) (t0 := 3) rfl (fun _ _ _ _ => rfl) (fun _ _ h => h) nz_long (by decide) w_5 dX9_init_50 ?_
  refine J_putRF fd_9_6 w_475 (Or.inl ⟨_, rfl⟩) dX9_init_52 ?_
  refine J_aload_n dX9_init_55 0 rfl ?_
  refine J_bipush (v := 80) dX9_init_56 (by decide) ?_
  refine J_newa (ty := .long) (t0 := 3) rfl (fun _ _ _ _ => rfl) (fun _ _ h => h) nz_long (by decide) w_5 dX9_init_58 ?_
  refine J_putRF fd_9_7 w_476 (Or.inl ⟨_, rfl⟩) dX9_init_60 ?_
  refine J_aload_n dX9_init_63 0 rfl ?_
  refine J_bipush (v := 80) dX9_init_64 (by decide) ?_
  refine J_newa (ty := .long) (t0 := 3) rfl (fun _ _ _ _ => rfl) (fun _ _ h => h) nz_long (by decide) w_5 dX9_init_66 ?_
  refine J_putRF fd_9_8 w_477 (Or.inl ⟨_, rfl⟩) dX9_init_68 ?_
  refine J_aload_n dX9_init_71 0 rfl ?_
  refine J_sipush (v := 400) dX9_init_72 (by decide) ?_
  refine J_newa (ty := .int) (t0 := 0) rfl (fun _ _ _ _ => rfl) (fun _ _ h => h) nz_int (by decide) w_12 dX9_init_75 ?_
  refine J_putRF fd_9_9 w_478 (Or.inl ⟨_, rfl⟩) dX9_init_77 ?_
  refine J_aload_n dX9_init_80 0 rfl ?_
  refine J_sipush (v := 400) dX9_init_81 (by decide) ?_
  refine J_newa (ty := .long) (t0 := 3) rfl (fun _ _ _ _ => rfl) (fun _ _ h => h) nz_long (by decide) w_5 dX9_init_84 ?_
  refine J_putRF fd_9_10 w_479 (Or.inl ⟨_, rfl⟩) dX9_init_86 ?_
  refine J_aload_n dX9_init_89 0 rfl ?_
  refine J_sipush (v := 400) dX9_init_90 (by decide) ?_
  refine J_newa (ty := .int) (t0 := 0) rfl (fun _ _ _ _ => rfl) (fun _ _ h => h) nz_int (by decide) w_12 dX9_init_93 ?_
  refine J_putRF fd_9_11 w_480 (Or.inl ⟨_, rfl⟩) dX9_init_95 ?_
  refine J_aload_n dX9_init_98 0 rfl ?_
  refine J_sipush (v := 3200) dX9_init_99 (by decide) ?_
  refine J_newa (ty := .int) (t0 := 0) rfl (fun _ _ _ _ => rfl) (fun _ _ h => h) nz_int (by decide) w_12 dX9_init_102 ?_
  refine J_putRF fd_9_12 w_481 (Or.inl ⟨_, rfl⟩) dX9_init_104 ?_
  refine J_aload_n dX9_init_107 0 rfl ?_
  refine J_sipush (v := 3200) dX9_init_108 (by decide) ?_
  refine J_newa (ty := .long) (t0 := 3) rfl (fun _ _ _ _ => rfl) (fun _ _ h => h) nz_long (by decide) w_5 dX9_init_111 ?_
  refine J_putRF fd_9_13 w_482 (Or.inl ⟨_, rfl⟩) dX9_init_113 ?_
  refine J_aload_n dX9_init_116 0 rfl ?_
  refine J_sipush (v := 400) dX9_init_117 (by decide) ?_
  refine J_newa (ty := .int) (t0 := 0) rfl (fun _ _ _ _ => rfl) (fun _ _ h => h) nz_int (by decide) w_12 dX9_init_120 ?_
  refine J_putRF fd_9_14 w_483 (Or.inl ⟨_, rfl⟩) dX9_init_122 ?_
  refine J_aload_n dX9_init_125 0 rfl ?_
  refine J_sipush (v := 400) dX9_init_126 (by decide) ?_
  refine J_newa (ty := .long) (t0 := 3) rfl (fun _ _ _ _ => rfl) (fun _ _ h => h) nz_long (by decide) w_5 dX9_init_129 ?_
  refine J_putRF fd_9_15 w_484 (Or.inl ⟨_, rfl⟩) dX9_init_131 ?_
  refine J_aload_n dX9_init_134 0 rfl ?_
  refine J_sipush (v := 400) dX9_init_135 (by decide) ?_
  refine J_newa (ty := .boolean) (t0 := 2) rfl (fun _ _ _ _ => rfl) (fun _ _ h => h) nz_boolean (by decide) w_218 dX9_init_138 ?_
  refine J_putRF fd_9_16 w_485 (Or.inl ⟨_, rfl⟩) dX9_init_140 ?_
  refine J_aload_n dX9_init_143 0 rfl ?_
  refine J_sipush (v := 400) dX9_init_144 (by decide) ?_
  refine J_newa (ty := .int) (t0 := 0) rfl (fun _ _ _ _ => rfl) (fun _ _ h => h) nz_int (by decide) w_12 dX9_init_147 ?_
  refine J_putRF fd_9_17 w_486 (Or.inl ⟨_, rfl⟩) dX9_init_149 ?_
  refine J_aload_n dX9_init_152 0 rfl ?_
  refine J_sipush (v := 17000) dX9_init_153 (by decide) ?_
  refine J_newa (ty := .int) (t0 := 0) rfl (fun _ _ _ _ => rfl) (fun _ _ h => h) nz_int (by decide) w_12 dX9_init_156 ?_
  refine J_putRF fd_9_18 w_487 (Or.inl ⟨_, rfl⟩) dX9_init_158 ?_
  refine J_aload_n dX9_init_161 0 rfl ?_
  refine J_sipush (v := 17000) dX9_init_162 (by decide) ?_
  refine J_newa (ty := .int) (t0 := 0) rfl (fun _ _ _ _ => rfl) (fun _ _ h => h) nz_int (by decide) w_12 dX9_init_165 ?_
  refine J_putRF fd_9_19 w_488 (Or.inl ⟨_, rfl⟩) dX9_init_167 ?_
  refine J_aload_n dX9_init_170 0 rfl ?_
  refine J_sipush (v := 200) dX9_init_171 (by decide) ?_
  refine J_newa (ty := .int) (t0 := 0) rfl (fun _ _ _ _ => rfl) (fun _ _ h => h) nz_int (by decide) w_12 dX9_init_174 ?_
  refine J_putRF fd_9_21 w_489 (Or.inl ⟨_, rfl⟩) dX9_init_176 ?_
  refine J_aload_n dX9_init_179 0 rfl ?_
  refine J_sipush (v := 200) dX9_init_180 (by decide) ?_
  refine J_newa (ty := .int) (t0 := 0) rfl (fun _ _ _ _ => rfl) (fun _ _ h => h) nz_int (by decide) w_12 dX9_init_183 ?_
  refine J_putRF fd_9_22 w_490 (Or.inl ⟨_, rfl⟩) dX9_init_185 ?_
  refine J_aload_n dX9_init_188 0 rfl ?_
  refine J_sipush (v := 210) dX9_init_189 (by decide) ?_
  refine J_newa (ty := .int) (t0 := 0) rfl (fun _ _ _ _ => rfl) (fun _ _ h => h) nz_int (by decide) w_12 dX9_init_192 ?_
  refine J_putRF fd_9_23 w_491 (Or.inl ⟨_, rfl⟩) dX9_init_194 ?_
  refine J_aload_n dX9_init_197 0 rfl ?_
  refine J_sipush (v := 210) dX9_init_198 (by decide) ?_
  refine J_newa (ty := .int) (t0 := 0) rfl (fun _ _ _ _ => rfl) (fun _ _ h => h) nz_int (by decide) w_12 dX9_init_201 ?_
  refine J_putRF fd_9_24 w_492 (Or.inl ⟨_, rfl⟩) dX9_init_203 ?_
  refine J_aload_n dX9_init_206 0 rfl ?_
  refine J_bipush (v := 8) dX9_init_207 (by decide) ?_
  refine J_newa (ty := .int) (t0 := 0) rfl (fun _ _ _ _ => rfl) (fun _ _ h => h) nz_int (by decide) w_12 dX9_init_209 ?_
  refine J_putRF fd_9_32 w_493 (Or.inl ⟨_, rfl⟩) dX9_init_211 ?_
  refine J_aload_n dX9_init_214 0 rfl ?_
  refine J_bipush (v := 8) dX9_init_215 (by decide) ?_
  refine J_newa (ty := .long) (t0 := 3) rfl (fun _ _ _ _ => rfl) (fun _ _ h => h) nz_long (by decide) w_5 dX9_init_217 ?_
  refine J_putRF fd_9_33 w_494 (Or.inl ⟨_, rfl⟩) dX9_init_219 ?_
  refine J_aload_n dX9_init_222 0 rfl ?_
  refine J_bipush (v := 100) dX9_init_223 (by decide) ?_
  refine J_newa (ty := .int) (t0 := 0) rfl (fun _ _ _ _ => rfl) (fun _ _ h => h) nz_int (by decide) w_12 dX9_init_225 ?_
  refine J_putRF fd_9_34 w_495 (Or.inl ⟨_, rfl⟩) dX9_init_227 ?_
  refine J_aload_n dX9_init_230 0 rfl ?_
  refine J_bipush (v := 40) dX9_init_231 (by decide) ?_
  refine J_newa (ty := .long) (t0 := 3) rfl (fun _ _ _ _ => rfl) (fun _ _ h => h) nz_long (by decide) w_5 dX9_init_233 ?_
  refine J_putRF fd_9_36 w_496 (Or.inl ⟨_, rfl⟩) dX9_init_235 ?_
  refine J_aload_n dX9_init_238 0 rfl ?_
  refine J_bipush (v := 8) dX9_init_239 (by decide) ?_
  refine J_newa (ty := .int) (t0 := 0) rfl (fun _ _ _ _ => rfl) (fun _ _ h => h) nz_int (by decide) w_12 dX9_init_241 ?_
  refine J_putRF fd_9_38 w_497 (Or.inl ⟨_, rfl⟩) dX9_init_243 ?_
  refine J_aload_n dX9_init_246 0 rfl ?_
  refine J_bipush (v := 8) dX9_init_247 (by decide) ?_
  refine J_newa (ty := .long) (t0 := 3) rfl (fun _ _ _ _ => rfl) (fun _ _ h => h) nz_long (by decide) w_5 dX9_init_249 ?_
  refine J_putRF fd_9_39 w_498 (Or.inl ⟨_, rfl⟩) dX9_init_251 ?_
  refine J_aload_n dX9_init_254 0 rfl ?_
  refine J_bipush (v := 64) dX9_init_255 (by decide) ?_
  refine J_newa (ty := .int) (t0 := 0) rfl (fun _ _ _ _ => rfl) (fun _ _ h => h) nz_int (by decide) w_12 dX9_init_257 ?_
  refine J_dup dX9_init_259 rfl ?_
  refine J_iconst (v := 0) dX9_init_260 (by decide) ?_
  refine J_ldc (v := 1116352408) dX9_init_261 w_499 ?_
  refine J_iast dX9_init_263 ?_
  refine J_dup dX9_init_264 rfl ?_
  refine J_iconst (v := 1) dX9_init_265 (by decide) ?_
  refine J_ldc (v := 1899447441) dX9_init_266 w_500 ?_
  refine J_iast dX9_init_268 ?_
  refine J_dup dX9_init_269 rfl ?_
  refine J_iconst (v := 2) dX9_init_270 (by decide) ?_
  refine J_ldc (v := -1245643825) dX9_init_271 w_501 ?_
  refine J_iast dX9_init_273 ?_
  refine J_dup dX9_init_274 rfl ?_
  refine J_iconst (v := 3) dX9_init_275 (by decide) ?_
  refine J_ldc (v := -373957723) dX9_init_276 w_502 ?_
  refine J_iast dX9_init_278 ?_
  refine J_dup dX9_init_279 rfl ?_
  refine J_iconst (v := 4) dX9_init_280 (by decide) ?_
  refine J_ldc (v := 961987163) dX9_init_281 w_503 ?_
  refine J_iast dX9_init_283 ?_
  refine J_dup dX9_init_284 rfl ?_
  refine J_iconst (v := 5) dX9_init_285 (by decide) ?_
  refine J_ldc (v := 1508970993) dX9_init_286 w_504 ?_
  refine J_iast dX9_init_288 ?_
  refine J_dup dX9_init_289 rfl ?_
  refine J_bipush (v := 6) dX9_init_290 (by decide) ?_
  refine J_ldc (v := -1841331548) dX9_init_292 w_505 ?_
  refine J_iast dX9_init_294 ?_
  refine J_dup dX9_init_295 rfl ?_
  refine J_bipush (v := 7) dX9_init_296 (by decide) ?_
  refine J_ldc (v := -1424204075) dX9_init_298 w_506 ?_
  refine J_iast dX9_init_300 ?_
  refine J_dup dX9_init_301 rfl ?_
  refine J_bipush (v := 8) dX9_init_302 (by decide) ?_
  refine J_ldc (v := -670586216) dX9_init_304 w_507 ?_
  refine J_iast dX9_init_306 ?_
  refine J_dup dX9_init_307 rfl ?_
  refine J_bipush (v := 9) dX9_init_308 (by decide) ?_
  refine J_ldc (v := 310598401) dX9_init_310 w_508 ?_
  refine J_iast dX9_init_312 ?_
  refine J_dup dX9_init_313 rfl ?_
  refine J_bipush (v := 10) dX9_init_314 (by decide) ?_
  refine J_ldc (v := 607225278) dX9_init_316 w_509 ?_
  refine J_iast dX9_init_318 ?_
  refine J_dup dX9_init_319 rfl ?_
  refine J_bipush (v := 11) dX9_init_320 (by decide) ?_
  refine J_ldc (v := 1426881987) dX9_init_322 w_510 ?_
  refine J_iast dX9_init_324 ?_
  refine J_dup dX9_init_325 rfl ?_
  refine J_bipush (v := 12) dX9_init_326 (by decide) ?_
  refine J_ldc (v := 1925078388) dX9_init_328 w_511 ?_
  refine J_iast dX9_init_330 ?_
  refine J_dup dX9_init_331 rfl ?_
  refine J_bipush (v := 13) dX9_init_332 (by decide) ?_
  refine J_ldc (v := -2132889090) dX9_init_334 w_512 ?_
  refine J_iast dX9_init_336 ?_
  refine J_dup dX9_init_337 rfl ?_
  refine J_bipush (v := 14) dX9_init_338 (by decide) ?_
  refine J_ldc (v := -1680079193) dX9_init_340 w_513 ?_
  refine J_iast dX9_init_342 ?_
  refine J_dup dX9_init_343 rfl ?_
  refine J_bipush (v := 15) dX9_init_344 (by decide) ?_
  refine J_ldc (v := -1046744716) dX9_init_346 w_514 ?_
  refine J_iast dX9_init_348 ?_
  refine J_dup dX9_init_349 rfl ?_
  refine J_bipush (v := 16) dX9_init_350 (by decide) ?_
  refine J_ldc (v := -459576895) dX9_init_352 w_515 ?_
  refine J_iast dX9_init_354 ?_
  refine J_dup dX9_init_355 rfl ?_
  refine J_bipush (v := 17) dX9_init_356 (by decide) ?_
  refine J_ldc (v := -272742522) dX9_init_358 w_516 ?_
  refine J_iast dX9_init_360 ?_
  refine J_dup dX9_init_361 rfl ?_
  refine J_bipush (v := 18) dX9_init_362 (by decide) ?_
  refine J_ldc (v := 264347078) dX9_init_364 w_517 ?_
  refine J_iast dX9_init_366 ?_
  refine J_dup dX9_init_367 rfl ?_
  refine J_bipush (v := 19) dX9_init_368 (by decide) ?_
  refine J_ldc (v := 604807628) dX9_init_370 w_518 ?_
  refine J_iast dX9_init_372 ?_
  refine J_dup dX9_init_373 rfl ?_
  refine J_bipush (v := 20) dX9_init_374 (by decide) ?_
  refine J_ldc (v := 770255983) dX9_init_376 w_519 ?_
  refine J_iast dX9_init_378 ?_
  refine J_dup dX9_init_379 rfl ?_
  refine J_bipush (v := 21) dX9_init_380 (by decide) ?_
  refine J_ldc (v := 1249150122) dX9_init_382 w_520 ?_
  refine J_iast dX9_init_384 ?_
  refine J_dup dX9_init_385 rfl ?_
  refine J_bipush (v := 22) dX9_init_386 (by decide) ?_
  refine J_ldc (v := 1555081692) dX9_init_388 w_521 ?_
  refine J_iast dX9_init_390 ?_
  refine J_dup dX9_init_391 rfl ?_
  refine J_bipush (v := 23) dX9_init_392 (by decide) ?_
  refine J_ldc (v := 1996064986) dX9_init_394 w_522 ?_
  refine J_iast dX9_init_396 ?_
  refine J_dup dX9_init_397 rfl ?_
  refine J_bipush (v := 24) dX9_init_398 (by decide) ?_
  refine J_ldc (v := -1740746414) dX9_init_400 w_523 ?_
  refine J_iast dX9_init_402 ?_
  refine J_dup dX9_init_403 rfl ?_
  refine J_bipush (v := 25) dX9_init_404 (by decide) ?_
  refine J_ldc (v := -1473132947) dX9_init_406 w_524 ?_
  refine J_iast dX9_init_408 ?_
  refine J_dup dX9_init_409 rfl ?_
  refine J_bipush (v := 26) dX9_init_410 (by decide) ?_
  refine J_ldc (v := -1341970488) dX9_init_412 w_525 ?_
  refine J_iast dX9_init_414 ?_
  refine J_dup dX9_init_415 rfl ?_
  refine J_bipush (v := 27) dX9_init_416 (by decide) ?_
  refine J_ldc (v := -1084653625) dX9_init_418 w_526 ?_
  refine J_iast dX9_init_420 ?_
  refine J_dup dX9_init_421 rfl ?_
  refine J_bipush (v := 28) dX9_init_422 (by decide) ?_
  refine J_ldc (v := -958395405) dX9_init_424 w_527 ?_
  refine J_iast dX9_init_426 ?_
  refine J_dup dX9_init_427 rfl ?_
  refine J_bipush (v := 29) dX9_init_428 (by decide) ?_
  refine J_ldc (v := -710438585) dX9_init_430 w_528 ?_
  refine J_iast dX9_init_432 ?_
  refine J_dup dX9_init_433 rfl ?_
  refine J_bipush (v := 30) dX9_init_434 (by decide) ?_
  refine J_ldc (v := 113926993) dX9_init_436 w_529 ?_
  refine J_iast dX9_init_438 ?_
  refine J_dup dX9_init_439 rfl ?_
  refine J_bipush (v := 31) dX9_init_440 (by decide) ?_
  refine J_ldc (v := 338241895) dX9_init_442 w_530 ?_
  refine J_iast dX9_init_444 ?_
  refine J_dup dX9_init_445 rfl ?_
  refine J_bipush (v := 32) dX9_init_446 (by decide) ?_
  refine J_ldc (v := 666307205) dX9_init_448 w_531 ?_
  refine J_iast dX9_init_450 ?_
  refine J_dup dX9_init_451 rfl ?_
  refine J_bipush (v := 33) dX9_init_452 (by decide) ?_
  refine J_ldc (v := 773529912) dX9_init_454 w_532 ?_
  refine J_iast dX9_init_456 ?_
  refine J_dup dX9_init_457 rfl ?_
  refine J_bipush (v := 34) dX9_init_458 (by decide) ?_
  refine J_ldc (v := 1294757372) dX9_init_460 w_533 ?_
  refine J_iast dX9_init_462 ?_
  refine J_dup dX9_init_463 rfl ?_
  refine J_bipush (v := 35) dX9_init_464 (by decide) ?_
  refine J_ldc (v := 1396182291) dX9_init_466 w_534 ?_
  refine J_iast dX9_init_468 ?_
  refine J_dup dX9_init_469 rfl ?_
  refine J_bipush (v := 36) dX9_init_470 (by decide) ?_
  refine J_ldc (v := 1695183700) dX9_init_472 w_535 ?_
  refine J_iast dX9_init_474 ?_
  refine J_dup dX9_init_475 rfl ?_
  refine J_bipush (v := 37) dX9_init_476 (by decide) ?_
  refine J_ldc (v := 1986661051) dX9_init_478 w_536 ?_
  refine J_iast dX9_init_480 ?_
  refine J_dup dX9_init_481 rfl ?_
  refine J_bipush (v := 38) dX9_init_482 (by decide) ?_
  refine J_ldc (v := -2117940946) dX9_init_484 w_537 ?_
  refine J_iast dX9_init_486 ?_
  refine J_dup dX9_init_487 rfl ?_
  refine J_bipush (v := 39) dX9_init_488 (by decide) ?_
  refine J_ldc (v := -1838011259) dX9_init_490 w_538 ?_
  refine J_iast dX9_init_492 ?_
  refine J_dup dX9_init_493 rfl ?_
  refine J_bipush (v := 40) dX9_init_494 (by decide) ?_
  refine J_ldc (v := -1564481375) dX9_init_496 w_539 ?_
  refine J_iast dX9_init_498 ?_
  refine J_dup dX9_init_499 rfl ?_
  refine J_bipush (v := 41) dX9_init_500 (by decide) ?_
  refine J_ldc (v := -1474664885) dX9_init_502 w_540 ?_
  refine J_iast dX9_init_504 ?_
  refine J_dup dX9_init_505 rfl ?_
  refine J_bipush (v := 42) dX9_init_506 (by decide) ?_
  refine J_ldc (v := -1035236496) dX9_init_508 w_541 ?_
  refine J_iast dX9_init_510 ?_
  refine J_dup dX9_init_511 rfl ?_
  refine J_bipush (v := 43) dX9_init_512 (by decide) ?_
  refine J_ldc (v := -949202525) dX9_init_514 w_542 ?_
  refine J_iast dX9_init_516 ?_
  refine J_dup dX9_init_517 rfl ?_
  refine J_bipush (v := 44) dX9_init_518 (by decide) ?_
  refine J_ldc (v := -778901479) dX9_init_520 w_543 ?_
  refine J_iast dX9_init_522 ?_
  refine J_dup dX9_init_523 rfl ?_
  refine J_bipush (v := 45) dX9_init_524 (by decide) ?_
  refine J_ldc (v := -694614492) dX9_init_526 w_544 ?_
  refine J_iast dX9_init_528 ?_
  refine J_dup dX9_init_529 rfl ?_
  refine J_bipush (v := 46) dX9_init_530 (by decide) ?_
  refine J_ldc (v := -200395387) dX9_init_532 w_545 ?_
  refine J_iast dX9_init_534 ?_
  refine J_dup dX9_init_535 rfl ?_
  refine J_bipush (v := 47) dX9_init_536 (by decide) ?_
  refine J_ldc (v := 275423344) dX9_init_538 w_546 ?_
  refine J_iast dX9_init_540 ?_
  refine J_dup dX9_init_541 rfl ?_
  refine J_bipush (v := 48) dX9_init_542 (by decide) ?_
  refine J_ldc (v := 430227734) dX9_init_544 w_547 ?_
  refine J_iast dX9_init_546 ?_
  refine J_dup dX9_init_547 rfl ?_
  refine J_bipush (v := 49) dX9_init_548 (by decide) ?_
  refine J_ldc (v := 506948616) dX9_init_550 w_548 ?_
  refine J_iast dX9_init_552 ?_
  refine J_dup dX9_init_553 rfl ?_
  refine J_bipush (v := 50) dX9_init_554 (by decide) ?_
  refine J_ldc (v := 659060556) dX9_init_556 w_549 ?_
  refine J_iast dX9_init_558 ?_
  refine J_dup dX9_init_559 rfl ?_
  refine J_bipush (v := 51) dX9_init_560 (by decide) ?_
  refine J_ldc (v := 883997877) dX9_init_562 w_550 ?_
  refine J_iast dX9_init_564 ?_
  refine J_dup dX9_init_565 rfl ?_
  refine J_bipush (v := 52) dX9_init_566 (by decide) ?_
  refine J_ldc (v := 958139571) dX9_init_568 w_551 ?_
  refine J_iast dX9_init_570 ?_
  refine J_dup dX9_init_571 rfl ?_
  refine J_bipush (v := 53) dX9_init_572 (by decide) ?_
  refine J_ldc (v := 1322822218) dX9_init_574 w_552 ?_
  refine J_iast dX9_init_576 ?_
  refine J_dup dX9_init_577 rfl ?_
  refine J_bipush (v := 54) dX9_init_578 (by decide) ?_
  refine J_ldc (v := 1537002063) dX9_init_580 w_553 ?_
  refine J_iast dX9_init_582 ?_
  refine J_dup dX9_init_583 rfl ?_
  refine J_bipush (v := 55) dX9_init_584 (by decide) ?_
  refine J_ldc (v := 1747873779) dX9_init_586 w_554 ?_
  refine J_iast dX9_init_588 ?_
  refine J_dup dX9_init_589 rfl ?_
  refine J_bipush (v := 56) dX9_init_590 (by decide) ?_
  refine J_ldc (v := 1955562222) dX9_init_592 w_555 ?_
  refine J_iast dX9_init_594 ?_
  refine J_dup dX9_init_595 rfl ?_
  refine J_bipush (v := 57) dX9_init_596 (by decide) ?_
  refine J_ldc (v := 2024104815) dX9_init_598 w_556 ?_
  refine J_iast dX9_init_600 ?_
  refine J_dup dX9_init_601 rfl ?_
  refine J_bipush (v := 58) dX9_init_602 (by decide) ?_
  refine J_ldc (v := -2067236844) dX9_init_604 w_557 ?_
  refine J_iast dX9_init_606 ?_
  refine J_dup dX9_init_607 rfl ?_
  refine J_bipush (v := 59) dX9_init_608 (by decide) ?_
  refine J_ldc (v := -1933114872) dX9_init_610 w_558 ?_
  refine J_iast dX9_init_612 ?_
  refine J_dup dX9_init_613 rfl ?_
  refine J_bipush (v := 60) dX9_init_614 (by decide) ?_
  refine J_ldc (v := -1866530822) dX9_init_616 w_559 ?_
  refine J_iast dX9_init_618 ?_
  refine J_dup dX9_init_619 rfl ?_
  refine J_bipush (v := 61) dX9_init_620 (by decide) ?_
  refine J_ldc (v := -1538233109) dX9_init_622 w_560 ?_
  refine J_iast dX9_init_624 ?_
  refine J_dup dX9_init_625 rfl ?_
  refine J_bipush (v := 62) dX9_init_626 (by decide) ?_
  refine J_ldc (v := -1090935817) dX9_init_628 w_561 ?_
  refine J_iast dX9_init_630 ?_
  refine J_dup dX9_init_631 rfl ?_
  refine J_bipush (v := 63) dX9_init_632 (by decide) ?_
  refine J_ldc (v := -965641998) dX9_init_634 w_562 ?_
  refine J_iast dX9_init_636 ?_
  refine J_putRF fd_9_40 w_563 (Or.inl ⟨_, rfl⟩) dX9_init_637 ?_
  refine J_aload_n dX9_init_640 0 rfl ?_
  refine J_sipush (v := 256) dX9_init_641 (by decide) ?_
  refine J_newa (ty := .int) (t0 := 0) rfl (fun _ _ _ _ => rfl) (fun _ _ h => h) nz_int (by decide) w_12 dX9_init_644 ?_
  refine J_putRF fd_9_41 w_564 (Or.inl ⟨_, rfl⟩) dX9_init_646 ?_
  refine J_aload_n dX9_init_649 0 rfl ?_
  refine J_bipush (v := 64) dX9_init_650 (by decide) ?_
  refine J_newa (ty := .int) (t0 := 0) rfl (fun _ _ _ _ => rfl) (fun _ _ h => h) nz_int (by decide) w_12 dX9_init_652 ?_
  refine J_putRF fd_9_43 w_565 (Or.inl ⟨_, rfl⟩) dX9_init_654 ?_
  refine J_aload_n dX9_init_657 0 rfl ?_
  refine J_bipush (v := 8) dX9_init_658 (by decide) ?_
  refine J_newa (ty := .int) (t0 := 0) rfl (fun _ _ _ _ => rfl) (fun _ _ h => h) nz_int (by decide) w_12 dX9_init_660 ?_
  refine J_putRF fd_9_44 w_566 (Or.inl ⟨_, rfl⟩) dX9_init_662 ?_
  refine J_aload_n dX9_init_665 0 rfl ?_
  refine J_bipush (v := 32) dX9_init_666 (by decide) ?_
  refine J_newa (ty := .int) (t0 := 0) rfl (fun _ _ _ _ => rfl) (fun _ _ h => h) nz_int (by decide) w_12 dX9_init_668 ?_
  refine J_putRF fd_9_45 w_567 (Or.inl ⟨_, rfl⟩) dX9_init_670 ?_
  refine J_aload_n dX9_init_673 0 rfl ?_
  refine J_sipush (v := 512) dX9_init_674 (by decide) ?_
  refine J_newa (ty := .int) (t0 := 0) rfl (fun _ _ _ _ => rfl) (fun _ _ h => h) nz_int (by decide) w_12 dX9_init_677 ?_
  refine J_putRF fd_9_46 w_568 (Or.inl ⟨_, rfl⟩) dX9_init_679 ?_
  refine J_aload_n dX9_init_682 0 rfl ?_
  refine J_bipush (v := 16) dX9_init_683 (by decide) ?_
  refine J_newa (ty := .int) (t0 := 0) rfl (fun _ _ _ _ => rfl) (fun _ _ h => h) nz_int (by decide) w_12 dX9_init_685 ?_
  refine J_putRF fd_9_47 w_569 (Or.inl ⟨_, rfl⟩) dX9_init_687 ?_
  refine J_aload_n dX9_init_690 0 rfl ?_
  refine J_bipush (v := 8) dX9_init_691 (by decide) ?_
  refine J_newa (ty := .int) (t0 := 0) rfl (fun _ _ _ _ => rfl) (fun _ _ h => h) nz_int (by decide) w_12 dX9_init_693 ?_
  refine J_putRF fd_9_48 w_570 (Or.inl ⟨_, rfl⟩) dX9_init_695 ?_
  refine J_aload_n dX9_init_698 0 rfl ?_
  refine J_bipush (v := 8) dX9_init_699 (by decide) ?_
  refine J_newa (ty := .boolean) (t0 := 2) rfl (fun _ _ _ _ => rfl) (fun _ _ h => h) nz_boolean (by decide) w_218 dX9_init_701 ?_
  refine J_putRF fd_9_49 w_571 (Or.inl ⟨_, rfl⟩) dX9_init_703 ?_
  refine J_aload_n dX9_init_706 0 rfl ?_
  refine J_sipush (v := 256) dX9_init_707 (by decide) ?_
  refine J_newa (ty := .int) (t0 := 0) rfl (fun _ _ _ _ => rfl) (fun _ _ h => h) nz_int (by decide) w_12 dX9_init_710 ?_
  refine J_putRF fd_9_50 w_572 (Or.inl ⟨_, rfl⟩) dX9_init_712 ?_
  refine J_aload_n dX9_init_715 0 rfl ?_
  refine J_sipush (v := 256) dX9_init_716 (by decide) ?_
  refine J_newa (ty := .int) (t0 := 0) rfl (fun _ _ _ _ => rfl) (fun _ _ h => h) nz_int (by decide) w_12 dX9_init_719 ?_
  refine J_putRF fd_9_51 w_573 (Or.inl ⟨_, rfl⟩) dX9_init_721 ?_
  refine J_aload_n dX9_init_724 0 rfl ?_
  refine J_sipush (v := 1024) dX9_init_725 (by decide) ?_
  refine J_newa (ty := .int) (t0 := 0) rfl (fun _ _ _ _ => rfl) (fun _ _ h => h) nz_int (by decide) w_12 dX9_init_728 ?_
  refine J_putRF fd_9_56 w_574 (Or.inl ⟨_, rfl⟩) dX9_init_730 ?_
  refine J_aload_n dX9_init_733 0 rfl ?_
  refine J_bipush (v := 16) dX9_init_734 (by decide) ?_
  refine J_newa (ty := .boolean) (t0 := 2) rfl (fun _ _ _ _ => rfl) (fun _ _ h => h) nz_boolean (by decide) w_218 dX9_init_736 ?_
  refine J_putRF fd_9_57 w_575 (Or.inl ⟨_, rfl⟩) dX9_init_738 ?_
  refine J_aload_n dX9_init_741 0 rfl ?_
  refine J_bipush (v := 16) dX9_init_742 (by decide) ?_
  refine J_newa (ty := .int) (t0 := 0) rfl (fun _ _ _ _ => rfl) (fun _ _ h => h) nz_int (by decide) w_12 dX9_init_744 ?_
  refine J_putRF fd_9_58 w_576 (Or.inl ⟨_, rfl⟩) dX9_init_746 ?_
  refine J_aload_n dX9_init_749 0 rfl ?_
  refine J_bipush (v := 16) dX9_init_750 (by decide) ?_
  refine J_newa (ty := .int) (t0 := 0) rfl (fun _ _ _ _ => rfl) (fun _ _ h => h) nz_int (by decide) w_12 dX9_init_752 ?_
  refine J_putRF fd_9_59 w_577 (Or.inl ⟨_, rfl⟩) dX9_init_754 ?_
  refine J_aload_n dX9_init_757 0 rfl ?_
  refine J_bipush (v := 32) dX9_init_758 (by decide) ?_
  refine J_newa (ty := .int) (t0 := 0) rfl (fun _ _ _ _ => rfl) (fun _ _ h => h) nz_int (by decide) w_12 dX9_init_760 ?_
  refine J_putRF fd_9_64 w_578 (Or.inl ⟨_, rfl⟩) dX9_init_762 ?_
  refine J_aload_n dX9_init_765 0 rfl ?_
  refine J_bipush (v := 32) dX9_init_766 (by decide) ?_
  refine J_newa (ty := .int) (t0 := 0) rfl (fun _ _ _ _ => rfl) (fun _ _ h => h) nz_int (by decide) w_12 dX9_init_768 ?_
  refine J_putRF fd_9_65 w_579 (Or.inl ⟨_, rfl⟩) dX9_init_770 ?_
  exact J_vret dX9_init_773
theorem okX9_init (G : Gx) (l : Launch) (l0 : Nat) (M : Mem) : Con G l yX9_init cX9_init 1 none 1 20 (fun _ : Unit => none) [.ref (adr G l0)] M (fX9_init l0 M) := con_of (own := RX9) (nm := "<init>") (by decide +kernel) rfl rfl (Nat.le_of_ble_eq_true rfl) (jX9_init G l l0 M)
theorem mkX9_init : MOk yX9_init cX9_init 1 none 0 := ⟨w_580, tb1 (List.mem_of_getElem? (i := 10) rfl) rfl, by decide +kernel, by decide +kernel, by decide +kernel⟩
-- X9_put
def fX9_put (l0 : Nat) (l1 : Int32) (M : Mem) : Option (Unit × Mem) := (gR M 9 34 l0 fun r1 => (gI M 9 35 l0 fun v2 => (wI M .int r1 v2 (l1 &&& (255 : Int32)) fun M3 => (gI M3 9 35 l0 fun v4 => (pI M3 9 35 l0 (v4 + (1 : Int32)) fun M5 => some ((), M5))))))
set_option maxHeartbeats 4000000 in
set_option maxRecDepth 100000 in
theorem jX9_put (G : Gx) (l : Launch) (l0 : Nat) (l1 : Int32) (M : Mem) : J G l cX9_put 2 RX9 none "put" 0 0 (QM G (fun _ : Unit => none)) 0 [(0, .ref (adr G l0)), (1, .int l1)] [] M (fX9_put l0 l1 M) := by
  unfold fX9_put
  refine J_aload_n dX9_put_0 0 rfl ?_
  refine J_getR fd_9_34 w_495 rfl dX9_put_1 (fun r1 => ?_)
  refine J_aload_n dX9_put_4 0 rfl ?_
  refine J_getI fd_9_35 w_587 rfl dX9_put_5 ?_
  refine J_iload_n dX9_put_8 1 rfl ?_
  refine J_sipush (v := 255) dX9_put_9 (by decide) ?_
  refine J_iand dX9_put_12 ?_
  refine J_iast dX9_put_13 ?_
  refine J_aload_n dX9_put_14 0 rfl ?_
  refine J_dup dX9_put_15 rfl ?_
  refine J_getI fd_9_35 w_587 rfl dX9_put_16 ?_
  refine J_iconst (v := 1) dX9_put_19 (by decide) ?_
  refine J_iadd dX9_put_20 ?_
  refine J_putI fd_9_35 w_587 dX9_put_21 ?_
  exact J_vret dX9_put_24
theorem okX9_put (G : Gx) (l : Launch) (l0 : Nat) (l1 : Int32) (M : Mem) : Con G l yX9_put cX9_put 2 none 0 0 (fun _ : Unit => none) [.ref (adr G l0), .int l1] M (fX9_put l0 l1 M) := con_of (own := RX9) (nm := "put") (by decide +kernel) rfl rfl (Nat.le_of_ble_eq_true rfl) (jX9_put G l l0 l1 M)
theorem mkX9_put : MOk yX9_put cX9_put 2 none 1 := ⟨w_588, tb1 (List.mem_of_getElem? (i := 10) rfl) rfl, by decide +kernel, by decide +kernel, by decide +kernel⟩
-- X9_putLong
def fX9_putLong_3  : Nat → Nat → Int64 → Int32 → Mem → Option (Unit × Mem)
  | 0, _, _, _, _ => none
  | n + 1, l0, l1, l3, M => (if l3 < 0 then some ((), M) else (cV M 9 l0 (fX9_put l0 ((yshr l1 l3) &&& (255 : Int64)).toInt32 M) fun _u2 M1 => fX9_putLong_3  n l0 l1 (l3 + (-8 : Int32)) M1))
set_option maxHeartbeats 4000000 in
set_option maxRecDepth 100000 in
theorem jX9_putLong_3 (G : Gx) (l : Launch)   : ∀ (n : Nat) (l0 : Nat) (l1 : Int64) (l3 : Int32) (M : Mem), J G l cX9_putLong 4 RX9 none "putLong" 1 21 (QM G (fun _ : Unit => none)) 3 [(0, .ref (adr G l0)), (1, .long l1), (3, .int l3)] [] M (fX9_putLong_3  n l0 l1 l3 M) := by
  intro n
  induction n with
  | zero => intro l0 l1 l3 M; exact J_none
  | succ n ih =>
    intro l0 l1 l3 M
    rw [fX9_putLong_3]
    refine J_iload_n dX9_putLong_3 2 rfl ?_
    refine J_if_lt (tgt := 25) dX9_putLong_4 (by decide) ?_ ?_
    · exact J_vret dX9_putLong_25
    · refine J_aload_n dX9_putLong_7 0 rfl ?_
      refine J_lload_n dX9_putLong_8 1 rfl ?_
      refine J_iload_n dX9_putLong_9 2 rfl ?_
      refine J_lshrK dX9_putLong_10 ?_
      refine J_ldc2 (v := 255) dX9_putLong_11 w_592 ?_
      refine J_land dX9_putLong_14 ?_
      refine J_l2i dX9_putLong_15 ?_
      refine J_callVv (okX9_put G l _ _ _) mkX9_put _ _ rfl w_589 w_590 w_591 ⟨by decide, by decide⟩ rfl (Nat.le_of_ble_eq_true rfl) dX9_putLong_16 (fun _u2 M1 => ?_)
      refine J_iincK (z := -8) (lv' := [(3, .int _), (0, .ref _), (1, .long _)]) dX9_putLong_19 2 rfl (by decide) (by decide) rfl ?_
      refine J_goto (tgt := 3) dX9_putLong_22 (by decide) ?_
      refine J_sub [1, 2, 0] rfl ?_
      exact ih _ _ _ _
def fX9_putLong (l0 : Nat) (l1 : Int64) (M : Mem) : Option (Unit × Mem) := fX9_putLong_3  FU l0 l1 (56 : Int32) M
set_option maxHeartbeats 4000000 in
set_option maxRecDepth 100000 in
theorem jX9_putLong (G : Gx) (l : Launch) (l0 : Nat) (l1 : Int64) (M : Mem) : J G l cX9_putLong 4 RX9 none "putLong" 1 21 (QM G (fun _ : Unit => none)) 0 [(0, .ref (adr G l0)), (1, .long l1)] [] M (fX9_putLong l0 l1 M) := by
  unfold fX9_putLong
  refine J_bipush (v := 56) dX9_putLong_0 (by decide) ?_
  refine J_istore_n (lv' := [(3, .int _), (0, .ref _), (1, .long _)]) dX9_putLong_2 (by decide) rfl ?_
  refine J_sub [1, 2, 0] rfl ?_
  exact jX9_putLong_3 G l   FU _ _ _ _
theorem okX9_putLong (G : Gx) (l : Launch) (l0 : Nat) (l1 : Int64) (M : Mem) : Con G l yX9_putLong cX9_putLong 4 none 1 21 (fun _ : Unit => none) [.ref (adr G l0), .long l1] M (fX9_putLong l0 l1 M) := con_of (own := RX9) (nm := "putLong") (by decide +kernel) rfl rfl (Nat.le_of_ble_eq_true rfl) (jX9_putLong G l l0 l1 M)
theorem mkX9_putLong : MOk yX9_putLong cX9_putLong 4 none 1 := ⟨w_593, tb1 (List.mem_of_getElem? (i := 10) rfl) rfl, by decide +kernel, by decide +kernel, by decide +kernel⟩
-- X9_begins
def fX9_begins_51   (M : Mem) : Option (Unit × Mem) := some ((), M)
set_option maxHeartbeats 4000000 in
set_option maxRecDepth 100000 in
theorem jX9_begins_51 (G : Gx) (l : Launch)    (M : Mem) : J G l cX9_begins 4 RX9 none "begins" 2 44 (QM G (fun _ : Unit => none)) 51 [] [] M (fX9_begins_51   M) := by
  unfold fX9_begins_51
  exact J_vret dX9_begins_51
def fX9_begins (l0 : Nat) (l1 : Int32) (l2 : Int64) (M : Mem) : Option (Unit × Mem) := (pI M 9 26 l0 l1 fun M1 => (pJ M1 9 30 l0 l2 fun M2 => (pI M2 9 27 l0 (0 : Int32) fun M3 => (pI M3 9 28 l0 (-1 : Int32) fun M4 => (pI M4 9 29 l0 (-1 : Int32) fun M5 => (pJ M5 9 31 l0 (0 : Int64) fun M6 => (pI M6 9 35 l0 (0 : Int32) fun M7 => (cV M7 9 l0 (fX9_put l0 l1 M7) fun _u9 M8 => (if l2 = (0 : Int64) then fX9_begins_51   M8 else (cV M8 9 l0 (fX9_putLong l0 l2 M8) fun _u11 M10 => fX9_begins_51   M10))))))))))
set_option maxHeartbeats 4000000 in
set_option maxRecDepth 100000 in
theorem jX9_begins (G : Gx) (l : Launch) (l0 : Nat) (l1 : Int32) (l2 : Int64) (M : Mem) : J G l cX9_begins 4 RX9 none "begins" 2 44 (QM G (fun _ : Unit => none)) 0 [(0, .ref (adr G l0)), (1, .int l1), (2, .long l2)] [] M (fX9_begins l0 l1 l2 M) := by
  unfold fX9_begins
  refine J_aload_n dX9_begins_0 0 rfl ?_
  refine J_iload_n dX9_begins_1 1 rfl ?_
  refine J_putI fd_9_26 w_581 dX9_begins_2 ?_
  refine J_aload_n dX9_begins_5 0 rfl ?_
  refine J_lload_n dX9_begins_6 2 rfl ?_
  refine J_putJ fd_9_30 w_582 dX9_begins_7 ?_
  refine J_aload_n dX9_begins_10 0 rfl ?_
  refine J_iconst (v := 0) dX9_begins_11 (by decide) ?_
  refine J_putI fd_9_27 w_583 dX9_begins_12 ?_
  refine J_aload_n dX9_begins_15 0 rfl ?_
  refine J_iconst (v := -1) dX9_begins_16 (by decide) ?_
  refine J_putI fd_9_28 w_584 dX9_begins_17 ?_
  refine J_aload_n dX9_begins_20 0 rfl ?_
  refine J_iconst (v := -1) dX9_begins_21 (by decide) ?_
  refine J_putI fd_9_29 w_585 dX9_begins_22 ?_
  refine J_aload_n dX9_begins_25 0 rfl ?_
  refine J_lconst (v := 0) dX9_begins_26 (by decide) ?_
  refine J_putJ fd_9_31 w_586 dX9_begins_27 ?_
  refine J_aload_n dX9_begins_30 0 rfl ?_
  refine J_iconst (v := 0) dX9_begins_31 (by decide) ?_
  refine J_putI fd_9_35 w_587 dX9_begins_32 ?_
  refine J_aload_n dX9_begins_35 0 rfl ?_
  refine J_iload_n dX9_begins_36 1 rfl ?_
  refine J_callVv (okX9_put G l _ _ _) mkX9_put _ _ rfl w_589 w_590 w_591 ⟨by decide, by decide⟩ rfl (Nat.le_of_ble_eq_true rfl) dX9_begins_37 (fun _u9 M8 => ?_)
  refine J_lload_n dX9_begins_40 2 rfl ?_
  refine J_lconst (v := 0) dX9_begins_41 (by decide) ?_
  refine J_lcmp_eq (tgt := 51) dX9_begins_42 dX9_begins_43 (by decide) ?_ ?_
  · refine J_sub [] rfl ?_
    exact jX9_begins_51 G l    _
  · refine J_aload_n dX9_begins_46 0 rfl ?_
    refine J_lload_n dX9_begins_47 2 rfl ?_
    refine J_callVv (okX9_putLong G l _ _ _) mkX9_putLong _ _ rfl w_594 w_595 w_596 ⟨by decide, by decide⟩ rfl (Nat.le_of_ble_eq_true rfl) dX9_begins_48 (fun _u11 M10 => ?_)
    refine J_sub [] rfl ?_
    exact jX9_begins_51 G l    _
theorem okX9_begins (G : Gx) (l : Launch) (l0 : Nat) (l1 : Int32) (l2 : Int64) (M : Mem) : Con G l yX9_begins cX9_begins 4 none 2 44 (fun _ : Unit => none) [.ref (adr G l0), .int l1, .long l2] M (fX9_begins l0 l1 l2 M) := con_of (own := RX9) (nm := "begins") (by decide +kernel) rfl rfl (Nat.le_of_ble_eq_true rfl) (jX9_begins G l l0 l1 l2 M)
theorem mkX9_begins : MOk yX9_begins cX9_begins 4 none 2 := ⟨w_597, tb1 (List.mem_of_getElem? (i := 10) rfl) rfl, by decide +kernel, by decide +kernel, by decide +kernel⟩
-- X9_putShort
def fX9_putShort (l0 : Nat) (l1 : Int32) (M : Mem) : Option (Unit × Mem) := (cV M 9 l0 (fX9_put l0 (xshr l1 (8 : Int32)) M) fun _u2 M1 => (cV M1 9 l0 (fX9_put l0 l1 M1) fun _u4 M3 => some ((), M3)))
set_option maxHeartbeats 4000000 in
set_option maxRecDepth 100000 in
theorem jX9_putShort (G : Gx) (l : Launch) (l0 : Nat) (l1 : Int32) (M : Mem) : J G l cX9_putShort 2 RX9 none "putShort" 1 21 (QM G (fun _ : Unit => none)) 0 [(0, .ref (adr G l0)), (1, .int l1)] [] M (fX9_putShort l0 l1 M) := by
  unfold fX9_putShort
  refine J_aload_n dX9_putShort_0 0 rfl ?_
  refine J_iload_n dX9_putShort_1 1 rfl ?_
  refine J_bipush (v := 8) dX9_putShort_2 (by decide) ?_
  refine J_ishrK dX9_putShort_4 ?_
  refine J_callVv (okX9_put G l _ _ _) mkX9_put _ _ rfl w_589 w_590 w_591 ⟨by decide, by decide⟩ rfl (Nat.le_of_ble_eq_true rfl) dX9_putShort_5 (fun _u2 M1 => ?_)
  refine J_aload_n dX9_putShort_8 0 rfl ?_
  refine J_iload_n dX9_putShort_9 1 rfl ?_
  refine J_callVv (okX9_put G l _ _ _) mkX9_put _ _ rfl w_589 w_590 w_591 ⟨by decide, by decide⟩ rfl (Nat.le_of_ble_eq_true rfl) dX9_putShort_10 (fun _u4 M3 => ?_)
  exact J_vret dX9_putShort_13
theorem okX9_putShort (G : Gx) (l : Launch) (l0 : Nat) (l1 : Int32) (M : Mem) : Con G l yX9_putShort cX9_putShort 2 none 1 21 (fun _ : Unit => none) [.ref (adr G l0), .int l1] M (fX9_putShort l0 l1 M) := con_of (own := RX9) (nm := "putShort") (by decide +kernel) rfl rfl (Nat.le_of_ble_eq_true rfl) (jX9_putShort G l l0 l1 M)
theorem mkX9_putShort : MOk yX9_putShort cX9_putShort 2 none 1 := ⟨w_598, tb1 (List.mem_of_getElem? (i := 10) rfl) rfl, by decide +kernel, by decide +kernel, by decide +kernel⟩
-- X9_leg
def fX9_leg (l0 : Nat) (l1 : Int32) (l2 : Int64) (l4 : Int32) (M : Mem) : Option (Unit × Mem) := (gR M 9 32 l0 fun r1 => (wI M .int r1 l4 l1 fun M2 => (gR M2 9 33 l0 fun r3 => (wJ M2 r3 l4 l2 fun M4 => (pI M4 9 27 l0 (l4 + (1 : Int32)) fun M5 => some ((), M5))))))
set_option maxHeartbeats 4000000 in
set_option maxRecDepth 100000 in
theorem jX9_leg (G : Gx) (l : Launch) (l0 : Nat) (l1 : Int32) (l2 : Int64) (l4 : Int32) (M : Mem) : J G l cX9_leg 5 RX9 none "leg" 0 0 (QM G (fun _ : Unit => none)) 0 [(0, .ref (adr G l0)), (1, .int l1), (2, .long l2), (4, .int l4)] [] M (fX9_leg l0 l1 l2 l4 M) := by
  unfold fX9_leg
  refine J_aload_n dX9_leg_0 0 rfl ?_
  refine J_getR fd_9_32 w_493 rfl dX9_leg_1 (fun r1 => ?_)
  refine J_iload dX9_leg_4 3 rfl ?_
  refine J_iload_n dX9_leg_6 1 rfl ?_
  refine J_iast dX9_leg_7 ?_
  refine J_aload_n dX9_leg_8 0 rfl ?_
  refine J_getR fd_9_33 w_494 rfl dX9_leg_9 (fun r3 => ?_)
  refine J_iload dX9_leg_12 3 rfl ?_
  refine J_lload_n dX9_leg_14 2 rfl ?_
  refine J_last dX9_leg_15 ?_
  refine J_aload_n dX9_leg_16 0 rfl ?_
  refine J_iload dX9_leg_17 3 rfl ?_
  refine J_iconst (v := 1) dX9_leg_19 (by decide) ?_
  refine J_iadd dX9_leg_20 ?_
  refine J_putI fd_9_27 w_583 dX9_leg_21 ?_
  exact J_vret dX9_leg_24
theorem okX9_leg (G : Gx) (l : Launch) (l0 : Nat) (l1 : Int32) (l2 : Int64) (l4 : Int32) (M : Mem) : Con G l yX9_leg cX9_leg 5 none 0 0 (fun _ : Unit => none) [.ref (adr G l0), .int l1, .long l2, .int l4] M (fX9_leg l0 l1 l2 l4 M) := con_of (own := RX9) (nm := "leg") (by decide +kernel) rfl rfl (Nat.le_of_ble_eq_true rfl) (jX9_leg G l l0 l1 l2 l4 M)
theorem mkX9_leg : MOk yX9_leg cX9_leg 5 none 3 := ⟨w_599, tb1 (List.mem_of_getElem? (i := 10) rfl) rfl, by decide +kernel, by decide +kernel, by decide +kernel⟩
-- X9_byKey
def fX9_byKey_11  : Nat → Nat → Int32 → Int64 → Int32 → Mem → Option (Int32 × Mem)
  | 0, _, _, _, _, _ => none
  | n + 1, l0, l1, l2, l4, M => (gR M 9 1 l0 fun r1 => (rI M .int r1 l1 fun v2 => (if v2 ≤ l4 then some ((-1 : Int32), M) else (gR M 9 10 l0 fun r3 => (rJ M r3 (((200 : Int32) * l1) + l4) fun v4 => (if v4 = l2 then some (l4, M) else fX9_byKey_11  n l0 l1 l2 (l4 + (1 : Int32)) M))))))
set_option maxHeartbeats 4000000 in
set_option maxRecDepth 100000 in
theorem jX9_byKey_11 (G : Gx) (l : Launch)   : ∀ (n : Nat) (l0 : Nat) (l1 : Int32) (l2 : Int64) (l4 : Int32) (M : Mem), J G l cX9_byKey 5 RX9 (some .int) "byKey" 0 0 (QM G (fun v : Int32 => some (.int v))) 11 [(0, .ref (adr G l0)), (1, .int l1), (2, .long l2), (4, .int l4)] [] M (fX9_byKey_11  n l0 l1 l2 l4 M) := by
  intro n
  induction n with
  | zero => intro l0 l1 l2 l4 M; exact J_none
  | succ n ih =>
    intro l0 l1 l2 l4 M
    rw [fX9_byKey_11]
    refine J_iload dX9_byKey_11 3 rfl ?_
    refine J_aload_n dX9_byKey_13 0 rfl ?_
    refine J_getR fd_9_1 w_470 rfl dX9_byKey_14 (fun r1 => ?_)
    refine J_iload_n dX9_byKey_17 1 rfl ?_
    refine J_iald dX9_byKey_18 ?_
    refine J_icmp_ge (tgt := 49) dX9_byKey_19 (by decide) ?_ ?_
    · refine J_iconst (v := -1) dX9_byKey_49 (by decide) ?_
      exact J_iret dX9_byKey_50
    · refine J_aload_n dX9_byKey_22 0 rfl ?_
      refine J_getR fd_9_10 w_479 rfl dX9_byKey_23 (fun r3 => ?_)
      refine J_sipush (v := 200) dX9_byKey_26 (by decide) ?_
      refine J_iload_n dX9_byKey_29 1 rfl ?_
      refine J_imul dX9_byKey_30 ?_
      refine J_iload dX9_byKey_31 3 rfl ?_
      refine J_iadd dX9_byKey_33 ?_
      refine J_lald dX9_byKey_34 ?_
      refine J_lload_n dX9_byKey_35 2 rfl ?_
      refine J_lcmp_ne (tgt := 43) dX9_byKey_36 dX9_byKey_37 (by decide) ?_ ?_
      · refine J_iincK (z := 1) (lv' := [(4, .int _), (0, .ref _), (1, .int _), (2, .long _)]) dX9_byKey_43 3 rfl (by decide) (by decide) rfl ?_
        refine J_goto (tgt := 11) dX9_byKey_46 (by decide) ?_
        refine J_sub [1, 2, 3, 0] rfl ?_
        exact ih _ _ _ _ _
      · refine J_iload dX9_byKey_40 3 rfl ?_
        exact J_iret dX9_byKey_42
def fX9_byKey (l0 : Nat) (l1 : Int32) (l2 : Int64) (M : Mem) : Option (Int32 × Mem) := (if l2 = (0 : Int64) then some ((-1 : Int32), M) else fX9_byKey_11  FU l0 l1 l2 (0 : Int32) M)
set_option maxHeartbeats 4000000 in
set_option maxRecDepth 100000 in
theorem jX9_byKey (G : Gx) (l : Launch) (l0 : Nat) (l1 : Int32) (l2 : Int64) (M : Mem) : J G l cX9_byKey 5 RX9 (some .int) "byKey" 0 0 (QM G (fun v : Int32 => some (.int v))) 0 [(0, .ref (adr G l0)), (1, .int l1), (2, .long l2)] [] M (fX9_byKey l0 l1 l2 M) := by
  unfold fX9_byKey
  refine J_lload_n dX9_byKey_0 2 rfl ?_
  refine J_lconst (v := 0) dX9_byKey_1 (by decide) ?_
  refine J_lcmp_ne (tgt := 8) dX9_byKey_2 dX9_byKey_3 (by decide) ?_ ?_
  · refine J_iconst (v := 0) dX9_byKey_8 (by decide) ?_
    refine J_istore (lv' := [(4, .int _), (0, .ref _), (1, .int _), (2, .long _)]) dX9_byKey_9 (by decide) rfl ?_
    refine J_sub [1, 2, 3, 0] rfl ?_
    exact jX9_byKey_11 G l   FU _ _ _ _ _
  · refine J_iconst (v := -1) dX9_byKey_6 (by decide) ?_
    exact J_iret dX9_byKey_7
theorem okX9_byKey (G : Gx) (l : Launch) (l0 : Nat) (l1 : Int32) (l2 : Int64) (M : Mem) : Con G l yX9_byKey cX9_byKey 5 (some .int) 0 0 (fun v : Int32 => some (.int v)) [.ref (adr G l0), .int l1, .long l2] M (fX9_byKey l0 l1 l2 M) := con_of (own := RX9) (nm := "byKey") (by decide +kernel) rfl rfl (Nat.le_of_ble_eq_true rfl) (jX9_byKey G l l0 l1 l2 M)
theorem mkX9_byKey : MOk yX9_byKey cX9_byKey 5 (some .int) 2 := ⟨w_600, tb1 (List.mem_of_getElem? (i := 10) rfl) rfl, by decide +kernel, by decide +kernel, by decide +kernel⟩
-- X9_isSame
def fX9_isSame_67  (l2 : Int32) (M : Mem) : Option (Int32 × Mem) := retZ l2 (some (l2, M))
set_option maxHeartbeats 4000000 in
set_option maxRecDepth 100000 in
theorem jX9_isSame_67 (G : Gx) (l : Launch)   (l2 : Int32) (M : Mem) : J G l cX9_isSame 4 RX9 (some .boolean) "isSame" 0 0 (QM G (fun v : Int32 => some (.int v))) 67 [(2, .int l2)] [] M (fX9_isSame_67  l2 M) := by
  unfold fX9_isSame_67
  refine J_iload_n dX9_isSame_67 0 rfl ?_
  exact J_zret dX9_isSame_68
def fX9_isSame_60 (k21 : Nat → Int32 → Int32 → Int32 → Mem → Option (Int32 × Mem)) (l0 : Nat) (l1 : Int32) (l3 : Int32) (s0 : Int32) (M : Mem) : Option (Int32 × Mem) := k21 l0 l1 s0 (l3 + (1 : Int32)) M
set_option maxHeartbeats 4000000 in
set_option maxRecDepth 100000 in
theorem jX9_isSame_60 (G : Gx) (l : Launch) (k21 : Nat → Int32 → Int32 → Int32 → Mem → Option (Int32 × Mem)) (h21 : ∀ (l0 : Nat) (l1 : Int32) (l2 : Int32) (l3 : Int32) (M : Mem), J G l cX9_isSame 4 RX9 (some .boolean) "isSame" 0 0 (QM G (fun v : Int32 => some (.int v))) 21 [(0, .ref (adr G l0)), (1, .int l1), (2, .int l2), (3, .int l3)] [] M (k21 l0 l1 l2 l3 M)) (l0 : Nat) (l1 : Int32) (l3 : Int32) (s0 : Int32) (M : Mem) : J G l cX9_isSame 4 RX9 (some .boolean) "isSame" 0 0 (QM G (fun v : Int32 => some (.int v))) 60 [(0, .ref (adr G l0)), (1, .int l1), (3, .int l3)] [.int s0] M (fX9_isSame_60 k21 l0 l1 l3 s0 M) := by
  unfold fX9_isSame_60
  refine J_istore_n (lv' := [(2, .int _), (0, .ref _), (1, .int _), (3, .int _)]) dX9_isSame_60 (by decide) rfl ?_
  refine J_iincK (z := 1) (lv' := [(3, .int _), (2, .int _), (0, .ref _), (1, .int _)]) dX9_isSame_61 3 rfl (by decide) (by decide) rfl ?_
  refine J_goto (tgt := 21) dX9_isSame_64 (by decide) ?_
  refine J_sub [2, 3, 1, 0] rfl ?_
  exact h21 _ _ _ _ _
def fX9_isSame_21  : Nat → Nat → Int32 → Int32 → Int32 → Mem → Option (Int32 × Mem)
  | 0, _, _, _, _, _ => none
  | n + 1, l0, l1, l2, l3, M => (gI M 9 35 l0 fun v1 => (if v1 ≤ l3 then fX9_isSame_67  l2 M else (if l2 = 0 then fX9_isSame_67  l2 M else (gR M 9 19 l0 fun r2 => (gR M 9 21 l0 fun r3 => (rI M .int r3 l1 fun v4 => (rI M .int r2 (v4 + l3) fun v5 => (gR M 9 34 l0 fun r6 => (rI M .int r6 l3 fun v7 => (if v5 = v7 then fX9_isSame_60 (fX9_isSame_21  n) l0 l1 l3 (1 : Int32) M else fX9_isSame_60 (fX9_isSame_21  n) l0 l1 l3 (0 : Int32) M))))))))))
set_option maxHeartbeats 4000000 in
set_option maxRecDepth 100000 in
theorem jX9_isSame_21 (G : Gx) (l : Launch)   : ∀ (n : Nat) (l0 : Nat) (l1 : Int32) (l2 : Int32) (l3 : Int32) (M : Mem), J G l cX9_isSame 4 RX9 (some .boolean) "isSame" 0 0 (QM G (fun v : Int32 => some (.int v))) 21 [(0, .ref (adr G l0)), (1, .int l1), (2, .int l2), (3, .int l3)] [] M (fX9_isSame_21  n l0 l1 l2 l3 M) := by
  intro n
  induction n with
  | zero => intro l0 l1 l2 l3 M; exact J_none
  | succ n ih =>
    intro l0 l1 l2 l3 M
    rw [fX9_isSame_21]
    refine J_iload_n dX9_isSame_21 3 rfl ?_
    refine J_aload_n dX9_isSame_22 0 rfl ?_
    refine J_getI fd_9_35 w_587 rfl dX9_isSame_23 ?_
    refine J_icmp_ge (tgt := 67) dX9_isSame_26 (by decide) ?_ ?_
    · refine J_sub [2] rfl ?_
      exact jX9_isSame_67 G l   _ _
    · refine J_iload_n dX9_isSame_29 2 rfl ?_
      refine J_if_eq (tgt := 67) dX9_isSame_30 (by decide) ?_ ?_
      · refine J_sub [2] rfl ?_
        exact jX9_isSame_67 G l   _ _
      · refine J_aload_n dX9_isSame_33 0 rfl ?_
        refine J_getR fd_9_19 w_488 rfl dX9_isSame_34 (fun r2 => ?_)
        refine J_aload_n dX9_isSame_37 0 rfl ?_
        refine J_getR fd_9_21 w_489 rfl dX9_isSame_38 (fun r3 => ?_)
        refine J_iload_n dX9_isSame_41 1 rfl ?_
        refine J_iald dX9_isSame_42 ?_
        refine J_iload_n dX9_isSame_43 3 rfl ?_
        refine J_iadd dX9_isSame_44 ?_
        refine J_iald dX9_isSame_45 ?_
        refine J_aload_n dX9_isSame_46 0 rfl ?_
        refine J_getR fd_9_34 w_495 rfl dX9_isSame_47 (fun r6 => ?_)
        refine J_iload_n dX9_isSame_50 3 rfl ?_
        refine J_iald dX9_isSame_51 ?_
        refine J_icmp_ne (tgt := 59) dX9_isSame_52 (by decide) ?_ ?_
        · refine J_iconst (v := 0) dX9_isSame_59 (by decide) ?_
          refine J_sub [0, 1, 3] rfl ?_
          exact jX9_isSame_60 G l _ ih _ _ _ _ _
        · refine J_iconst (v := 1) dX9_isSame_55 (by decide) ?_
          refine J_goto (tgt := 60) dX9_isSame_56 (by decide) ?_
          refine J_sub [0, 1, 3] rfl ?_
          exact jX9_isSame_60 G l _ ih _ _ _ _ _
def fX9_isSame_18  (l0 : Nat) (l1 : Int32) (s0 : Int32) (M : Mem) : Option (Int32 × Mem) := fX9_isSame_21  FU l0 l1 s0 (0 : Int32) M
set_option maxHeartbeats 4000000 in
set_option maxRecDepth 100000 in
theorem jX9_isSame_18 (G : Gx) (l : Launch)   (l0 : Nat) (l1 : Int32) (s0 : Int32) (M : Mem) : J G l cX9_isSame 4 RX9 (some .boolean) "isSame" 0 0 (QM G (fun v : Int32 => some (.int v))) 18 [(0, .ref (adr G l0)), (1, .int l1)] [.int s0] M (fX9_isSame_18  l0 l1 s0 M) := by
  unfold fX9_isSame_18
  refine J_istore_n (lv' := [(2, .int _), (0, .ref _), (1, .int _)]) dX9_isSame_18 (by decide) rfl ?_
  refine J_iconst (v := 0) dX9_isSame_19 (by decide) ?_
  refine J_istore_n (lv' := [(3, .int _), (2, .int _), (0, .ref _), (1, .int _)]) dX9_isSame_20 (by decide) rfl ?_
  refine J_sub [2, 3, 1, 0] rfl ?_
  exact jX9_isSame_21 G l   FU _ _ _ _ _
def fX9_isSame (l0 : Nat) (l1 : Int32) (M : Mem) : Option (Int32 × Mem) := (gR M 9 22 l0 fun r1 => (rI M .int r1 l1 fun v2 => (gI M 9 35 l0 fun v3 => (if v2 = v3 then fX9_isSame_18  l0 l1 (1 : Int32) M else fX9_isSame_18  l0 l1 (0 : Int32) M))))
set_option maxHeartbeats 4000000 in
set_option maxRecDepth 100000 in
theorem jX9_isSame (G : Gx) (l : Launch) (l0 : Nat) (l1 : Int32) (M : Mem) : J G l cX9_isSame 4 RX9 (some .boolean) "isSame" 0 0 (QM G (fun v : Int32 => some (.int v))) 0 [(0, .ref (adr G l0)), (1, .int l1)] [] M (fX9_isSame l0 l1 M) := by
  unfold fX9_isSame
  refine J_aload_n dX9_isSame_0 0 rfl ?_
  refine J_getR fd_9_22 w_490 rfl dX9_isSame_1 (fun r1 => ?_)
  refine J_iload_n dX9_isSame_4 1 rfl ?_
  refine J_iald dX9_isSame_5 ?_
  refine J_aload_n dX9_isSame_6 0 rfl ?_
  refine J_getI fd_9_35 w_587 rfl dX9_isSame_7 ?_
  refine J_icmp_ne (tgt := 17) dX9_isSame_10 (by decide) ?_ ?_
  · refine J_iconst (v := 0) dX9_isSame_17 (by decide) ?_
    refine J_sub [0, 1] rfl ?_
    exact jX9_isSame_18 G l   _ _ _ _
  · refine J_iconst (v := 1) dX9_isSame_13 (by decide) ?_
    refine J_goto (tgt := 18) dX9_isSame_14 (by decide) ?_
    refine J_sub [0, 1] rfl ?_
    exact jX9_isSame_18 G l   _ _ _ _
theorem okX9_isSame (G : Gx) (l : Launch) (l0 : Nat) (l1 : Int32) (M : Mem) : Con G l yX9_isSame cX9_isSame 4 (some .boolean) 0 0 (fun v : Int32 => some (.int v)) [.ref (adr G l0), .int l1] M (fX9_isSame l0 l1 M) := con_of (own := RX9) (nm := "isSame") (by decide +kernel) rfl rfl (Nat.le_of_ble_eq_true rfl) (jX9_isSame G l l0 l1 M)
theorem mkX9_isSame : MOk yX9_isSame cX9_isSame 4 (some .boolean) 1 := ⟨w_601, tb1 (List.mem_of_getElem? (i := 10) rfl) rfl, by decide +kernel, by decide +kernel, by decide +kernel⟩
-- X9_isHold
def fX9_isHold_50  (s0 : Int32) (M : Mem) : Option (Int32 × Mem) := retZ s0 (some (s0, M))
set_option maxHeartbeats 4000000 in
set_option maxRecDepth 100000 in
theorem jX9_isHold_50 (G : Gx) (l : Launch)   (s0 : Int32) (M : Mem) : J G l cX9_isHold 3 RX9 (some .boolean) "isHold" 0 0 (QM G (fun v : Int32 => some (.int v))) 50 [] [.int s0] M (fX9_isHold_50  s0 M) := by
  unfold fX9_isHold_50
  exact J_zret dX9_isHold_50
def fX9_isHold_49   (M : Mem) : Option (Int32 × Mem) := fX9_isHold_50  (0 : Int32) M
set_option maxHeartbeats 4000000 in
set_option maxRecDepth 100000 in
theorem jX9_isHold_49 (G : Gx) (l : Launch)    (M : Mem) : J G l cX9_isHold 3 RX9 (some .boolean) "isHold" 0 0 (QM G (fun v : Int32 => some (.int v))) 49 [] [] M (fX9_isHold_49   M) := by
  unfold fX9_isHold_49
  refine J_iconst (v := 0) dX9_isHold_49 (by decide) ?_
  refine J_sub [] rfl ?_
  exact jX9_isHold_50 G l   _ _
def fX9_isHold (l0 : Nat) (l1 : Int32) (l2 : Int32) (M : Mem) : Option (Int32 × Mem) := (if l2 < 0 then fX9_isHold_49   M else (gR M 9 1 l0 fun r1 => (rI M .int r1 l1 fun v2 => (if v2 ≤ l2 then fX9_isHold_49   M else (gR M 9 9 l0 fun r3 => (rI M .int r3 (((200 : Int32) * l1) + l2) fun v4 => (if v4 = (3 : Int32) then (gR M 9 16 l0 fun r5 => (rI M .boolean r5 (((200 : Int32) * l1) + l2) fun v6 => (if v6 = 0 then fX9_isHold_49   M else fX9_isHold_50  (1 : Int32) M))) else fX9_isHold_49   M)))))))
set_option maxHeartbeats 4000000 in
set_option maxRecDepth 100000 in
theorem jX9_isHold (G : Gx) (l : Launch) (l0 : Nat) (l1 : Int32) (l2 : Int32) (M : Mem) : J G l cX9_isHold 3 RX9 (some .boolean) "isHold" 0 0 (QM G (fun v : Int32 => some (.int v))) 0 [(0, .ref (adr G l0)), (1, .int l1), (2, .int l2)] [] M (fX9_isHold l0 l1 l2 M) := by
  unfold fX9_isHold
  refine J_iload_n dX9_isHold_0 2 rfl ?_
  refine J_if_lt (tgt := 49) dX9_isHold_1 (by decide) ?_ ?_
  · refine J_sub [] rfl ?_
    exact jX9_isHold_49 G l    _
  · refine J_iload_n dX9_isHold_4 2 rfl ?_
    refine J_aload_n dX9_isHold_5 0 rfl ?_
    refine J_getR fd_9_1 w_470 rfl dX9_isHold_6 (fun r1 => ?_)
    refine J_iload_n dX9_isHold_9 1 rfl ?_
    refine J_iald dX9_isHold_10 ?_
    refine J_icmp_ge (tgt := 49) dX9_isHold_11 (by decide) ?_ ?_
    · refine J_sub [] rfl ?_
      exact jX9_isHold_49 G l    _
    · refine J_aload_n dX9_isHold_14 0 rfl ?_
      refine J_getR fd_9_9 w_478 rfl dX9_isHold_15 (fun r3 => ?_)
      refine J_sipush (v := 200) dX9_isHold_18 (by decide) ?_
      refine J_iload_n dX9_isHold_21 1 rfl ?_
      refine J_imul dX9_isHold_22 ?_
      refine J_iload_n dX9_isHold_23 2 rfl ?_
      refine J_iadd dX9_isHold_24 ?_
      refine J_iald dX9_isHold_25 ?_
      refine J_iconst (v := 3) dX9_isHold_26 (by decide) ?_
      refine J_icmp_ne (tgt := 49) dX9_isHold_27 (by decide) ?_ ?_
      · refine J_sub [] rfl ?_
        exact jX9_isHold_49 G l    _
      · refine J_aload_n dX9_isHold_30 0 rfl ?_
        refine J_getR fd_9_16 w_485 rfl dX9_isHold_31 (fun r5 => ?_)
        refine J_sipush (v := 200) dX9_isHold_34 (by decide) ?_
        refine J_iload_n dX9_isHold_37 1 rfl ?_
        refine J_imul dX9_isHold_38 ?_
        refine J_iload_n dX9_isHold_39 2 rfl ?_
        refine J_iadd dX9_isHold_40 ?_
        refine J_zald dX9_isHold_41 ?_
        refine J_if_eq (tgt := 49) dX9_isHold_42 (by decide) ?_ ?_
        · refine J_sub [] rfl ?_
          exact jX9_isHold_49 G l    _
        · refine J_iconst (v := 1) dX9_isHold_45 (by decide) ?_
          refine J_goto (tgt := 50) dX9_isHold_46 (by decide) ?_
          refine J_sub [] rfl ?_
          exact jX9_isHold_50 G l   _ _
theorem okX9_isHold (G : Gx) (l : Launch) (l0 : Nat) (l1 : Int32) (l2 : Int32) (M : Mem) : Con G l yX9_isHold cX9_isHold 3 (some .boolean) 0 0 (fun v : Int32 => some (.int v)) [.ref (adr G l0), .int l1, .int l2] M (fX9_isHold l0 l1 l2 M) := con_of (own := RX9) (nm := "isHold") (by decide +kernel) rfl rfl (Nat.le_of_ble_eq_true rfl) (jX9_isHold G l l0 l1 l2 M)
theorem mkX9_isHold : MOk yX9_isHold cX9_isHold 3 (some .boolean) 2 := ⟨w_602, tb1 (List.mem_of_getElem? (i := 10) rfl) rfl, by decide +kernel, by decide +kernel, by decide +kernel⟩
-- X9_isAccount
def fX9_isAccount_19  (s0 : Int32) (M : Mem) : Option (Int32 × Mem) := retZ s0 (some (s0, M))
set_option maxHeartbeats 4000000 in
set_option maxRecDepth 100000 in
theorem jX9_isAccount_19 (G : Gx) (l : Launch)   (s0 : Int32) (M : Mem) : J G l cX9_isAccount 3 RX9 (some .boolean) "isAccount" 0 0 (QM G (fun v : Int32 => some (.int v))) 19 [] [.int s0] M (fX9_isAccount_19  s0 M) := by
  unfold fX9_isAccount_19
  exact J_zret dX9_isAccount_19
def fX9_isAccount_18   (M : Mem) : Option (Int32 × Mem) := fX9_isAccount_19  (0 : Int32) M
set_option maxHeartbeats 4000000 in
set_option maxRecDepth 100000 in
theorem jX9_isAccount_18 (G : Gx) (l : Launch)    (M : Mem) : J G l cX9_isAccount 3 RX9 (some .boolean) "isAccount" 0 0 (QM G (fun v : Int32 => some (.int v))) 18 [] [] M (fX9_isAccount_18   M) := by
  unfold fX9_isAccount_18
  refine J_iconst (v := 0) dX9_isAccount_18 (by decide) ?_
  refine J_sub [] rfl ?_
  exact jX9_isAccount_19 G l   _ _
def fX9_isAccount (l0 : Nat) (l1 : Int32) (l2 : Int32) (M : Mem) : Option (Int32 × Mem) := (if l2 < 0 then fX9_isAccount_18   M else (gR M 9 0 l0 fun r1 => (rI M .int r1 l1 fun v2 => (if v2 ≤ l2 then fX9_isAccount_18   M else fX9_isAccount_19  (1 : Int32) M))))
set_option maxHeartbeats 4000000 in
set_option maxRecDepth 100000 in
theorem jX9_isAccount (G : Gx) (l : Launch) (l0 : Nat) (l1 : Int32) (l2 : Int32) (M : Mem) : J G l cX9_isAccount 3 RX9 (some .boolean) "isAccount" 0 0 (QM G (fun v : Int32 => some (.int v))) 0 [(0, .ref (adr G l0)), (1, .int l1), (2, .int l2)] [] M (fX9_isAccount l0 l1 l2 M) := by
  unfold fX9_isAccount
  refine J_iload_n dX9_isAccount_0 2 rfl ?_
  refine J_if_lt (tgt := 18) dX9_isAccount_1 (by decide) ?_ ?_
  · refine J_sub [] rfl ?_
    exact jX9_isAccount_18 G l    _
  · refine J_iload_n dX9_isAccount_4 2 rfl ?_
    refine J_aload_n dX9_isAccount_5 0 rfl ?_
    refine J_getR fd_9_0 w_469 rfl dX9_isAccount_6 (fun r1 => ?_)
    refine J_iload_n dX9_isAccount_9 1 rfl ?_
    refine J_iald dX9_isAccount_10 ?_
    refine J_icmp_ge (tgt := 18) dX9_isAccount_11 (by decide) ?_ ?_
    · refine J_sub [] rfl ?_
      exact jX9_isAccount_18 G l    _
    · refine J_iconst (v := 1) dX9_isAccount_14 (by decide) ?_
      refine J_goto (tgt := 19) dX9_isAccount_15 (by decide) ?_
      refine J_sub [] rfl ?_
      exact jX9_isAccount_19 G l   _ _
theorem okX9_isAccount (G : Gx) (l : Launch) (l0 : Nat) (l1 : Int32) (l2 : Int32) (M : Mem) : Con G l yX9_isAccount cX9_isAccount 3 (some .boolean) 0 0 (fun v : Int32 => some (.int v)) [.ref (adr G l0), .int l1, .int l2] M (fX9_isAccount l0 l1 l2 M) := con_of (own := RX9) (nm := "isAccount") (by decide +kernel) rfl rfl (Nat.le_of_ble_eq_true rfl) (jX9_isAccount G l l0 l1 l2 M)
theorem mkX9_isAccount : MOk yX9_isAccount cX9_isAccount 3 (some .boolean) 2 := ⟨w_603, tb1 (List.mem_of_getElem? (i := 10) rfl) rfl, by decide +kernel, by decide +kernel, by decide +kernel⟩
