-- L_law
def fL_law_1026 (k18 : Nat → Nat → Nat → Int32 → Mem → Option (Int32 × Mem)) (l0 : Nat) (l1 : Nat) (l2 : Nat) (l3 : Int32) (M : Mem) : Option (Int32 × Mem) := k18 l0 l1 l2 (l3 + (7 : Int32)) M
set_option maxHeartbeats 4000000 in
set_option maxRecDepth 100000 in
theorem jL_law_1026 (G : Gx) (l : Launch) (k18 : Nat → Nat → Nat → Int32 → Mem → Option (Int32 × Mem)) (h18 : ∀ (l0 : Nat) (l1 : Nat) (l2 : Nat) (l3 : Int32) (M : Mem), J G l code 4 RL ret "law" 8 198 (QL G) 18 [(0, .ref (adr G l0)), (1, .ref (adr G l1)), (2, .ref (adr G l2)), (3, .int l3)] [] M (k18 l0 l1 l2 l3 M)) (l0 : Nat) (l1 : Nat) (l2 : Nat) (l3 : Int32) (M : Mem) : J G l code 4 RL ret "law" 8 198 (QL G) 1026 [(0, .ref (adr G l0)), (1, .ref (adr G l1)), (2, .ref (adr G l2)), (3, .int l3)] [] M (fL_law_1026 k18 l0 l1 l2 l3 M) := by
  unfold fL_law_1026
  refine J_iincK (z := 7) (lv' := [(3, .int _), (0, .ref _), (1, .ref _), (2, .ref _)]) dL_law_1026 3 rfl (by decide) (by decide) rfl ?_
  refine J_goto (tgt := 18) dL_law_1029 (by decide) ?_
  refine J_sub [1, 2, 3, 0] rfl ?_
  exact h18 _ _ _ _ _
def fL_law_18  : Nat → Nat → Nat → Nat → Int32 → Mem → Option (Int32 × Mem)
  | 0, _, _, _, _, _ => none
  | n + 1, l0, l1, l2, l3, M => (gL M l0 fun v1 => (if (v1 - (7 : Int32)) < l3 then retL (1 : Int32) (some ((1 : Int32), M)) else (rI M .int l0 l3 fun v2 => (if (v2 &&& (31 : Int32)) = 0 then (rI M .int l0 (l3 + (1 : Int32)) fun v3 => (rI M .int l0 (l3 + (2 : Int32)) fun v4 => (cV M 8 l1 (fX8_open l1 ((yshl v3.toInt64 (32 : Int32)) ||| (v4.toInt64 &&& (4294967295 : Int64))) M) fun v6 M5 => (rI M5 .int l0 (l3 + (1 : Int32)) fun v7 => (rI M5 .int l0 (l3 + (2 : Int32)) fun v8 => (cV M5 9 l2 (fX9_open l2 ((yshl v7.toInt64 (32 : Int32)) ||| (v8.toInt64 &&& (4294967295 : Int64))) M5) fun v10 M9 => (if v6 = v10 then fL_law_1026 (fL_law_18  n) l0 l1 l2 l3 M9 else retL (0 : Int32) (some ((0 : Int32), M9))))))))) else if (v2 &&& (31 : Int32)) = 1 then (rI M .int l0 (l3 + (1 : Int32)) fun v11 => (rI M .int l0 (l3 + (2 : Int32)) fun v12 => (rI M .int l0 (l3 + (3 : Int32)) fun v13 => (cV M 8 l1 (fX8_leg l1 v11 ((yshl v12.toInt64 (32 : Int32)) ||| (v13.toInt64 &&& (4294967295 : Int64))) M) fun v15 M14 => (rI M14 .int l0 (l3 + (1 : Int32)) fun v16 => (rI M14 .int l0 (l3 + (2 : Int32)) fun v17 => (rI M14 .int l0 (l3 + (3 : Int32)) fun v18 => (cV M14 9 l2 (fX9_leg_ l2 v16 ((yshl v17.toInt64 (32 : Int32)) ||| (v18.toInt64 &&& (4294967295 : Int64))) M14) fun v20 M19 => (if v15 = v20 then fL_law_1026 (fL_law_18  n) l0 l1 l2 l3 M19 else retL (0 : Int32) (some ((0 : Int32), M19))))))))))) else if (v2 &&& (31 : Int32)) = 2 then (cV M 8 l1 (fX8_clear l1 M) fun v22 M21 => (cV M21 9 l2 (fX9_clear l2 M21) fun v24 M23 => (if v22 = v24 then fL_law_1026 (fL_law_18  n) l0 l1 l2 l3 M23 else retL (0 : Int32) (some ((0 : Int32), M23))))) else if (v2 &&& (31 : Int32)) = 3 then (rI M .int l0 (l3 + (1 : Int32)) fun v25 => (rI M .int l0 (l3 + (2 : Int32)) fun v26 => (cV M 8 l1 (fX8_post l1 ((yshl v25.toInt64 (32 : Int32)) ||| (v26.toInt64 &&& (4294967295 : Int64))) M) fun v28 M27 => (rI M27 .int l0 (l3 + (1 : Int32)) fun v29 => (rI M27 .int l0 (l3 + (2 : Int32)) fun v30 => (cV M27 9 l2 (fX9_post l2 ((yshl v29.toInt64 (32 : Int32)) ||| (v30.toInt64 &&& (4294967295 : Int64))) M27) fun v32 M31 => (if v28 = v32 then fL_law_1026 (fL_law_18  n) l0 l1 l2 l3 M31 else retL (0 : Int32) (some ((0 : Int32), M31))))))))) else if (v2 &&& (31 : Int32)) = 4 then (rI M .int l0 (l3 + (1 : Int32)) fun v33 => (rI M .int l0 (l3 + (2 : Int32)) fun v34 => (rI M .int l0 (l3 + (3 : Int32)) fun v35 => (rI M .int l0 (l3 + (4 : Int32)) fun v36 => (rI M .int l0 (l3 + (5 : Int32)) fun v37 => (cV M 8 l1 (fX8_hold l1 ((yshl v33.toInt64 (32 : Int32)) ||| (v34.toInt64 &&& (4294967295 : Int64))) v35 ((yshl v36.toInt64 (32 : Int32)) ||| (v37.toInt64 &&& (4294967295 : Int64))) M) fun v39 M38 => (rI M38 .int l0 (l3 + (1 : Int32)) fun v40 => (rI M38 .int l0 (l3 + (2 : Int32)) fun v41 => (rI M38 .int l0 (l3 + (3 : Int32)) fun v42 => (rI M38 .int l0 (l3 + (4 : Int32)) fun v43 => (rI M38 .int l0 (l3 + (5 : Int32)) fun v44 => (cV M38 9 l2 (fX9_hold_ l2 ((yshl v40.toInt64 (32 : Int32)) ||| (v41.toInt64 &&& (4294967295 : Int64))) v42 ((yshl v43.toInt64 (32 : Int32)) ||| (v44.toInt64 &&& (4294967295 : Int64))) M38) fun v46 M45 => (if v39 = v46 then fL_law_1026 (fL_law_18  n) l0 l1 l2 l3 M45 else retL (0 : Int32) (some ((0 : Int32), M45))))))))))))))) else if (v2 &&& (31 : Int32)) = 5 then (rI M .int l0 (l3 + (1 : Int32)) fun v47 => (cV M 8 l1 (fX8_release l1 v47 M) fun v49 M48 => (rI M48 .int l0 (l3 + (1 : Int32)) fun v50 => (cV M48 9 l2 (fX9_release l2 v50 M48) fun v52 M51 => (if v49 = v52 then fL_law_1026 (fL_law_18  n) l0 l1 l2 l3 M51 else retL (0 : Int32) (some ((0 : Int32), M51))))))) else if (v2 &&& (31 : Int32)) = 6 then (rI M .int l0 (l3 + (1 : Int32)) fun v53 => (rI M .int l0 (l3 + (2 : Int32)) fun v54 => (rI M .int l0 (l3 + (3 : Int32)) fun v55 => (rI M .int l0 (l3 + (4 : Int32)) fun v56 => (rI M .int l0 (l3 + (5 : Int32)) fun v57 => (rI M .int l0 (l3 + (6 : Int32)) fun v58 => (cV M 8 l1 (fX8_capture l1 ((yshl v53.toInt64 (32 : Int32)) ||| (v54.toInt64 &&& (4294967295 : Int64))) v55 v56 ((yshl v57.toInt64 (32 : Int32)) ||| (v58.toInt64 &&& (4294967295 : Int64))) M) fun v60 M59 => (rI M59 .int l0 (l3 + (1 : Int32)) fun v61 => (rI M59 .int l0 (l3 + (2 : Int32)) fun v62 => (rI M59 .int l0 (l3 + (3 : Int32)) fun v63 => (rI M59 .int l0 (l3 + (4 : Int32)) fun v64 => (rI M59 .int l0 (l3 + (5 : Int32)) fun v65 => (rI M59 .int l0 (l3 + (6 : Int32)) fun v66 => (cV M59 9 l2 (fX9_capture l2 ((yshl v61.toInt64 (32 : Int32)) ||| (v62.toInt64 &&& (4294967295 : Int64))) v63 v64 ((yshl v65.toInt64 (32 : Int32)) ||| (v66.toInt64 &&& (4294967295 : Int64))) M59) fun v68 M67 => (if v60 = v68 then fL_law_1026 (fL_law_18  n) l0 l1 l2 l3 M67 else retL (0 : Int32) (some ((0 : Int32), M67))))))))))))))))) else if (v2 &&& (31 : Int32)) = 7 then (rI M .int l0 (l3 + (1 : Int32)) fun v69 => (rI M .int l0 (l3 + (2 : Int32)) fun v70 => (rI M .int l0 (l3 + (3 : Int32)) fun v71 => (cV M 8 l1 (fX8_reverse l1 ((yshl v69.toInt64 (32 : Int32)) ||| (v70.toInt64 &&& (4294967295 : Int64))) v71 M) fun v73 M72 => (rI M72 .int l0 (l3 + (1 : Int32)) fun v74 => (rI M72 .int l0 (l3 + (2 : Int32)) fun v75 => (rI M72 .int l0 (l3 + (3 : Int32)) fun v76 => (cV M72 9 l2 (fX9_reverse l2 ((yshl v74.toInt64 (32 : Int32)) ||| (v75.toInt64 &&& (4294967295 : Int64))) v76 M72) fun v78 M77 => (if v73 = v78 then fL_law_1026 (fL_law_18  n) l0 l1 l2 l3 M77 else retL (0 : Int32) (some ((0 : Int32), M77))))))))))) else if (v2 &&& (31 : Int32)) = 8 then (rI M .int l0 (l3 + (1 : Int32)) fun v79 => (cV M 8 l1 (fX8_every l1 v79 M) fun v81 M80 => (rI M80 .int l0 (l3 + (1 : Int32)) fun v82 => (cV M80 9 l2 (fX9_every l2 v82 M80) fun v84 M83 => (if v81 = v84 then fL_law_1026 (fL_law_18  n) l0 l1 l2 l3 M83 else retL (0 : Int32) (some ((0 : Int32), M83))))))) else if (v2 &&& (31 : Int32)) = 9 then (rI M .int l0 (l3 + (1 : Int32)) fun v85 => (rI M .int l0 (l3 + (2 : Int32)) fun v86 => (cV M 8 l1 (fX8_account l1 v85 v86 M) fun v88 M87 => (rI M87 .int l0 (l3 + (1 : Int32)) fun v89 => (rI M87 .int l0 (l3 + (2 : Int32)) fun v90 => (cV M87 9 l2 (fX9_account l2 v89 v90 M87) fun v92 M91 => (if v88 = v92 then fL_law_1026 (fL_law_18  n) l0 l1 l2 l3 M91 else retL (0 : Int32) (some ((0 : Int32), M91))))))))) else if (v2 &&& (31 : Int32)) = 10 then (rI M .int l0 (l3 + (1 : Int32)) fun v93 => (rI M .int l0 (l3 + (2 : Int32)) fun v94 => (cV M 8 l1 (fX8_entry l1 v93 v94 M) fun v96 M95 => (rI M95 .int l0 (l3 + (1 : Int32)) fun v97 => (rI M95 .int l0 (l3 + (2 : Int32)) fun v98 => (cV M95 9 l2 (fX9_entry l2 v97 v98 M95) fun v100 M99 => (if v96 = v100 then fL_law_1026 (fL_law_18  n) l0 l1 l2 l3 M99 else retL (0 : Int32) (some ((0 : Int32), M99))))))))) else if (v2 &&& (31 : Int32)) = 11 then (rI M .int l0 (l3 + (1 : Int32)) fun v101 => (cV M 8 l1 (fX8_data l1 v101 M) fun v103 M102 => (rI M102 .int l0 (l3 + (1 : Int32)) fun v104 => (cV M102 9 l2 (fX9_data l2 v104 M102) fun v106 M105 => (if v103 = v106 then fL_law_1026 (fL_law_18  n) l0 l1 l2 l3 M105 else retL (0 : Int32) (some ((0 : Int32), M105))))))) else if (v2 &&& (31 : Int32)) = 12 then (rI M .int l0 (l3 + (1 : Int32)) fun v107 => (rI M .int l0 (l3 + (2 : Int32)) fun v108 => (cV M 8 l1 (fX8_alter l1 v107 v108 M) fun v110 M109 => (rI M109 .int l0 (l3 + (1 : Int32)) fun v111 => (rI M109 .int l0 (l3 + (2 : Int32)) fun v112 => (cV M109 9 l2 (fX9_alter l2 v111 v112 M109) fun v114 M113 => (if v110 = v114 then fL_law_1026 (fL_law_18  n) l0 l1 l2 l3 M113 else retL (0 : Int32) (some ((0 : Int32), M113))))))))) else if (v2 &&& (31 : Int32)) = 13 then (rI M .int l0 (l3 + (1 : Int32)) fun v115 => (rI M .int l0 (l3 + (2 : Int32)) fun v116 => (rI M .int l0 (l3 + (3 : Int32)) fun v117 => (cV M 8 l1 (fX8_hash l1 v115 v116 v117 M) fun v119 M118 => (rI M118 .int l0 (l3 + (1 : Int32)) fun v120 => (rI M118 .int l0 (l3 + (2 : Int32)) fun v121 => (rI M118 .int l0 (l3 + (3 : Int32)) fun v122 => (cV M118 9 l2 (fX9_hash l2 v120 v121 v122 M118) fun v124 M123 => (if v119 = v124 then fL_law_1026 (fL_law_18  n) l0 l1 l2 l3 M123 else retL (0 : Int32) (some ((0 : Int32), M123))))))))))) else if (v2 &&& (31 : Int32)) = 14 then (rI M .int l0 (l3 + (1 : Int32)) fun v125 => (cV M 8 l1 (fX8_keep l1 v125 M) fun v127 M126 => (rI M126 .int l0 (l3 + (1 : Int32)) fun v128 => (cV M126 9 l2 (fX9_keep l2 v128 M126) fun v130 M129 => (if v127 = v130 then fL_law_1026 (fL_law_18  n) l0 l1 l2 l3 M129 else retL (0 : Int32) (some ((0 : Int32), M129))))))) else if (v2 &&& (31 : Int32)) = 15 then (rI M .int l0 (l3 + (1 : Int32)) fun v131 => (cV M 8 l1 (fX8_verify l1 v131 M) fun v133 M132 => (rI M132 .int l0 (l3 + (1 : Int32)) fun v134 => (cV M132 9 l2 (fX9_verify l2 v134 M132) fun v136 M135 => (if v133 = v136 then fL_law_1026 (fL_law_18  n) l0 l1 l2 l3 M135 else retL (0 : Int32) (some ((0 : Int32), M135))))))) else if (v2 &&& (31 : Int32)) = 16 then (rI M .int l0 (l3 + (1 : Int32)) fun v137 => (rI M .int l0 (l3 + (2 : Int32)) fun v138 => (cV M 8 l1 (fX8_path l1 v137 v138 M) fun v140 M139 => (rI M139 .int l0 (l3 + (1 : Int32)) fun v141 => (rI M139 .int l0 (l3 + (2 : Int32)) fun v142 => (cV M139 9 l2 (fX9_path l2 v141 v142 M139) fun v144 M143 => (if v140 = v144 then fL_law_1026 (fL_law_18  n) l0 l1 l2 l3 M143 else retL (0 : Int32) (some ((0 : Int32), M143))))))))) else if (v2 &&& (31 : Int32)) = 17 then (rI M .int l0 (l3 + (1 : Int32)) fun v145 => (rI M .int l0 (l3 + (2 : Int32)) fun v146 => (cV M 8 l1 (fX8_proof l1 v145 v146 M) fun v148 M147 => (rI M147 .int l0 (l3 + (1 : Int32)) fun v149 => (rI M147 .int l0 (l3 + (2 : Int32)) fun v150 => (cV M147 9 l2 (fX9_proof l2 v149 v150 M147) fun v152 M151 => (if v148 = v152 then fL_law_1026 (fL_law_18  n) l0 l1 l2 l3 M151 else retL (0 : Int32) (some ((0 : Int32), M151))))))))) else if (v2 &&& (31 : Int32)) = 18 then (rI M .int l0 (l3 + (1 : Int32)) fun v153 => (rI M .int l0 (l3 + (2 : Int32)) fun v154 => (cV M 8 l1 (fX8_step l1 v153 v154 M) fun v156 M155 => (rI M155 .int l0 (l3 + (1 : Int32)) fun v157 => (rI M155 .int l0 (l3 + (2 : Int32)) fun v158 => (cV M155 9 l2 (fX9_step_ l2 v157 v158 M155) fun v160 M159 => (if v156 = v160 then fL_law_1026 (fL_law_18  n) l0 l1 l2 l3 M159 else retL (0 : Int32) (some ((0 : Int32), M159))))))))) else if (v2 &&& (31 : Int32)) = 19 then (rI M .int l0 (l3 + (1 : Int32)) fun v161 => (rI M .int l0 (l3 + (2 : Int32)) fun v162 => (cV M 8 l1 (fX8_leads l1 v161 v162 M) fun v164 M163 => (rI M163 .int l0 (l3 + (1 : Int32)) fun v165 => (rI M163 .int l0 (l3 + (2 : Int32)) fun v166 => (cV M163 9 l2 (fX9_leads l2 v165 v166 M163) fun v168 M167 => (if v164 = v168 then fL_law_1026 (fL_law_18  n) l0 l1 l2 l3 M167 else retL (0 : Int32) (some ((0 : Int32), M167))))))))) else if (v2 &&& (31 : Int32)) = 20 then (cV M 8 l1 (fX8_audit l1 M) fun v170 M169 => (cV M169 9 l2 (fX9_audit l2 M169) fun v172 M171 => (if v170 = v172 then fL_law_1026 (fL_law_18  n) l0 l1 l2 l3 M171 else retL (0 : Int32) (some ((0 : Int32), M171))))) else if (v2 &&& (31 : Int32)) = 21 then (rI M .int l0 (l3 + (1 : Int32)) fun v173 => (cV M 8 l1 (fX8_count l1 v173 M) fun v175 M174 => (rI M174 .int l0 (l3 + (1 : Int32)) fun v176 => (cV M174 9 l2 (fX9_count l2 v176 M174) fun v178 M177 => (if v175 = v178 then fL_law_1026 (fL_law_18  n) l0 l1 l2 l3 M177 else retL (0 : Int32) (some ((0 : Int32), M177))))))) else fL_law_1026 (fL_law_18  n) l0 l1 l2 l3 M))))
set_option maxHeartbeats 4000000 in
set_option maxRecDepth 100000 in
theorem jL_law_18 (G : Gx) (l : Launch)   : ∀ (n : Nat) (l0 : Nat) (l1 : Nat) (l2 : Nat) (l3 : Int32) (M : Mem), J G l code 4 RL ret "law" 8 198 (QL G) 18 [(0, .ref (adr G l0)), (1, .ref (adr G l1)), (2, .ref (adr G l2)), (3, .int l3)] [] M (fL_law_18  n l0 l1 l2 l3 M) := by
  intro n
  induction n with
  | zero => intro l0 l1 l2 l3 M; exact J_none
  | succ n ih =>
    intro l0 l1 l2 l3 M
    rw [fL_law_18]
    refine J_iload_n dL_law_18 3 rfl ?_
    refine J_aload_n dL_law_19 0 rfl ?_
    refine J_alen dL_law_20 (fun v1 => ?_)
    refine J_bipush (v := 7) dL_law_21 (by decide) ?_
    refine J_isub dL_law_23 ?_
    refine J_icmp_gt (tgt := 1032) dL_law_24 (by decide) ?_ ?_
    · refine J_iconst (v := 1) dL_law_1032 (by decide) ?_
      exact J_lawret dL_law_1033
    · refine J_aload_n dL_law_27 0 rfl ?_
      refine J_iload_n dL_law_28 3 rfl ?_
      refine J_iald dL_law_29 ?_
      refine J_bipush (v := 31) dL_law_30 (by decide) ?_
      refine J_iand dL_law_32 ?_
      refine J_ite (fun h33_0 => ?_) (fun h33_0 => ?_)
      · refine J_tabI (off := 103) (tgt := 136) dL_law_33 (by rw [h33_0]; decide) (by rw [h33_0]; decide) (by rw [h33_0]; decide) (by decide) ?_
        refine J_aload_n dL_law_136 1 rfl ?_
        refine J_aload_n dL_law_137 0 rfl ?_
        refine J_iload_n dL_law_138 3 rfl ?_
        refine J_iconst (v := 1) dL_law_139 (by decide) ?_
        refine J_iadd dL_law_140 ?_
        refine J_iald dL_law_141 ?_
        refine J_i2l dL_law_142 ?_
        refine J_bipush (v := 32) dL_law_143 (by decide) ?_
        refine J_lshlK dL_law_145 ?_
        refine J_aload_n dL_law_146 0 rfl ?_
        refine J_iload_n dL_law_147 3 rfl ?_
        refine J_iconst (v := 2) dL_law_148 (by decide) ?_
        refine J_iadd dL_law_149 ?_
        refine J_iald dL_law_150 ?_
        refine J_i2l dL_law_151 ?_
        refine J_ldc2 (v := 4294967295) dL_law_152 w_815 ?_
        refine J_land dL_law_155 ?_
        refine J_lor dL_law_156 ?_
        refine J_callVi (okX8_open G l _ _ _) mkX8_open _ _ rfl w_816 w_817 w_818 ⟨by decide, by decide⟩ rfl (Nat.le_of_ble_eq_true rfl) dL_law_157 (fun v6 M5 => ?_)
        refine J_aload_n dL_law_160 2 rfl ?_
        refine J_aload_n dL_law_161 0 rfl ?_
        refine J_iload_n dL_law_162 3 rfl ?_
        refine J_iconst (v := 1) dL_law_163 (by decide) ?_
        refine J_iadd dL_law_164 ?_
        refine J_iald dL_law_165 ?_
        refine J_i2l dL_law_166 ?_
        refine J_bipush (v := 32) dL_law_167 (by decide) ?_
        refine J_lshlK dL_law_169 ?_
        refine J_aload_n dL_law_170 0 rfl ?_
        refine J_iload_n dL_law_171 3 rfl ?_
        refine J_iconst (v := 2) dL_law_172 (by decide) ?_
        refine J_iadd dL_law_173 ?_
        refine J_iald dL_law_174 ?_
        refine J_i2l dL_law_175 ?_
        refine J_ldc2 (v := 4294967295) dL_law_176 w_815 ?_
        refine J_land dL_law_179 ?_
        refine J_lor dL_law_180 ?_
        refine J_callVi (okX9_open G l _ _ _) mkX9_open _ _ rfl w_819 w_820 w_821 ⟨by decide, by decide⟩ rfl (Nat.le_of_ble_eq_true rfl) dL_law_181 (fun v10 M9 => ?_)
        refine J_icmp_eq (tgt := 1026) dL_law_184 (by decide) ?_ ?_
        · refine J_sub [0, 1, 2, 3] rfl ?_
          exact jL_law_1026 G l _ ih _ _ _ _ _
        · refine J_iconst (v := 0) dL_law_187 (by decide) ?_
          exact J_lawret dL_law_188
      refine J_ite (fun h33_1 => ?_) (fun h33_1 => ?_)
      · refine J_tabI (off := 156) (tgt := 189) dL_law_33 (by rw [h33_1]; decide) (by rw [h33_1]; decide) (by rw [h33_1]; decide) (by decide) ?_
        refine J_aload_n dL_law_189 1 rfl ?_
        refine J_aload_n dL_law_190 0 rfl ?_
        refine J_iload_n dL_law_191 3 rfl ?_
        refine J_iconst (v := 1) dL_law_192 (by decide) ?_
        refine J_iadd dL_law_193 ?_
        refine J_iald dL_law_194 ?_
        refine J_aload_n dL_law_195 0 rfl ?_
        refine J_iload_n dL_law_196 3 rfl ?_
        refine J_iconst (v := 2) dL_law_197 (by decide) ?_
        refine J_iadd dL_law_198 ?_
        refine J_iald dL_law_199 ?_
        refine J_i2l dL_law_200 ?_
        refine J_bipush (v := 32) dL_law_201 (by decide) ?_
        refine J_lshlK dL_law_203 ?_
        refine J_aload_n dL_law_204 0 rfl ?_
        refine J_iload_n dL_law_205 3 rfl ?_
        refine J_iconst (v := 3) dL_law_206 (by decide) ?_
        refine J_iadd dL_law_207 ?_
        refine J_iald dL_law_208 ?_
        refine J_i2l dL_law_209 ?_
        refine J_ldc2 (v := 4294967295) dL_law_210 w_815 ?_
        refine J_land dL_law_213 ?_
        refine J_lor dL_law_214 ?_
        refine J_callVi (okX8_leg G l _ _ _ _) mkX8_leg _ _ rfl w_822 w_823 w_824 ⟨by decide, by decide⟩ rfl (Nat.le_of_ble_eq_true rfl) dL_law_215 (fun v15 M14 => ?_)
        refine J_aload_n dL_law_218 2 rfl ?_
        refine J_aload_n dL_law_219 0 rfl ?_
        refine J_iload_n dL_law_220 3 rfl ?_
        refine J_iconst (v := 1) dL_law_221 (by decide) ?_
        refine J_iadd dL_law_222 ?_
        refine J_iald dL_law_223 ?_
        refine J_aload_n dL_law_224 0 rfl ?_
        refine J_iload_n dL_law_225 3 rfl ?_
        refine J_iconst (v := 2) dL_law_226 (by decide) ?_
        refine J_iadd dL_law_227 ?_
        refine J_iald dL_law_228 ?_
        refine J_i2l dL_law_229 ?_
        refine J_bipush (v := 32) dL_law_230 (by decide) ?_
        refine J_lshlK dL_law_232 ?_
        refine J_aload_n dL_law_233 0 rfl ?_
        refine J_iload_n dL_law_234 3 rfl ?_
        refine J_iconst (v := 3) dL_law_235 (by decide) ?_
        refine J_iadd dL_law_236 ?_
        refine J_iald dL_law_237 ?_
        refine J_i2l dL_law_238 ?_
        refine J_ldc2 (v := 4294967295) dL_law_239 w_815 ?_
        refine J_land dL_law_242 ?_
        refine J_lor dL_law_243 ?_
        refine J_callVi (okX9_leg_ G l _ _ _ _) mkX9_leg_ _ _ rfl w_825 w_826 w_827 ⟨by decide, by decide⟩ rfl (Nat.le_of_ble_eq_true rfl) dL_law_244 (fun v20 M19 => ?_)
        refine J_icmp_eq (tgt := 1026) dL_law_247 (by decide) ?_ ?_
        · refine J_sub [0, 1, 2, 3] rfl ?_
          exact jL_law_1026 G l _ ih _ _ _ _ _
        · refine J_iconst (v := 0) dL_law_250 (by decide) ?_
          exact J_lawret dL_law_251
      refine J_ite (fun h33_2 => ?_) (fun h33_2 => ?_)
      · refine J_tabI (off := 219) (tgt := 252) dL_law_33 (by rw [h33_2]; decide) (by rw [h33_2]; decide) (by rw [h33_2]; decide) (by decide) ?_
        refine J_aload_n dL_law_252 1 rfl ?_
        refine J_callVi (okX8_clear G l _ _) mkX8_clear _ _ rfl w_828 w_829 w_830 ⟨by decide, by decide⟩ rfl (Nat.le_of_ble_eq_true rfl) dL_law_253 (fun v22 M21 => ?_)
        refine J_aload_n dL_law_256 2 rfl ?_
        refine J_callVi (okX9_clear G l _ _) mkX9_clear _ _ rfl w_831 w_832 w_833 ⟨by decide, by decide⟩ rfl (Nat.le_of_ble_eq_true rfl) dL_law_257 (fun v24 M23 => ?_)
        refine J_icmp_eq (tgt := 1026) dL_law_260 (by decide) ?_ ?_
        · refine J_sub [0, 1, 2, 3] rfl ?_
          exact jL_law_1026 G l _ ih _ _ _ _ _
        · refine J_iconst (v := 0) dL_law_263 (by decide) ?_
          exact J_lawret dL_law_264
      refine J_ite (fun h33_3 => ?_) (fun h33_3 => ?_)
      · refine J_tabI (off := 232) (tgt := 265) dL_law_33 (by rw [h33_3]; decide) (by rw [h33_3]; decide) (by rw [h33_3]; decide) (by decide) ?_
        refine J_aload_n dL_law_265 1 rfl ?_
        refine J_aload_n dL_law_266 0 rfl ?_
        refine J_iload_n dL_law_267 3 rfl ?_
        refine J_iconst (v := 1) dL_law_268 (by decide) ?_
        refine J_iadd dL_law_269 ?_
        refine J_iald dL_law_270 ?_
        refine J_i2l dL_law_271 ?_
        refine J_bipush (v := 32) dL_law_272 (by decide) ?_
        refine J_lshlK dL_law_274 ?_
        refine J_aload_n dL_law_275 0 rfl ?_
        refine J_iload_n dL_law_276 3 rfl ?_
        refine J_iconst (v := 2) dL_law_277 (by decide) ?_
        refine J_iadd dL_law_278 ?_
        refine J_iald dL_law_279 ?_
        refine J_i2l dL_law_280 ?_
        refine J_ldc2 (v := 4294967295) dL_law_281 w_815 ?_
        refine J_land dL_law_284 ?_
        refine J_lor dL_law_285 ?_
        refine J_callVi (okX8_post G l _ _ _) mkX8_post _ _ rfl w_834 w_835 w_836 ⟨by decide, by decide⟩ rfl (Nat.le_of_ble_eq_true rfl) dL_law_286 (fun v28 M27 => ?_)
        refine J_aload_n dL_law_289 2 rfl ?_
        refine J_aload_n dL_law_290 0 rfl ?_
        refine J_iload_n dL_law_291 3 rfl ?_
        refine J_iconst (v := 1) dL_law_292 (by decide) ?_
        refine J_iadd dL_law_293 ?_
        refine J_iald dL_law_294 ?_
        refine J_i2l dL_law_295 ?_
        refine J_bipush (v := 32) dL_law_296 (by decide) ?_
        refine J_lshlK dL_law_298 ?_
        refine J_aload_n dL_law_299 0 rfl ?_
        refine J_iload_n dL_law_300 3 rfl ?_
        refine J_iconst (v := 2) dL_law_301 (by decide) ?_
        refine J_iadd dL_law_302 ?_
        refine J_iald dL_law_303 ?_
        refine J_i2l dL_law_304 ?_
        refine J_ldc2 (v := 4294967295) dL_law_305 w_815 ?_
        refine J_land dL_law_308 ?_
        refine J_lor dL_law_309 ?_
        refine J_callVi (okX9_post G l _ _ _) mkX9_post _ _ rfl w_837 w_838 w_839 ⟨by decide, by decide⟩ rfl (Nat.le_of_ble_eq_true rfl) dL_law_310 (fun v32 M31 => ?_)
        refine J_icmp_eq (tgt := 1026) dL_law_313 (by decide) ?_ ?_
        · refine J_sub [0, 1, 2, 3] rfl ?_
          exact jL_law_1026 G l _ ih _ _ _ _ _
        · refine J_iconst (v := 0) dL_law_316 (by decide) ?_
          exact J_lawret dL_law_317
      refine J_ite (fun h33_4 => ?_) (fun h33_4 => ?_)
      · refine J_tabI (off := 285) (tgt := 318) dL_law_33 (by rw [h33_4]; decide) (by rw [h33_4]; decide) (by rw [h33_4]; decide) (by decide) ?_
        refine J_aload_n dL_law_318 1 rfl ?_
        refine J_aload_n dL_law_319 0 rfl ?_
        refine J_iload_n dL_law_320 3 rfl ?_
        refine J_iconst (v := 1) dL_law_321 (by decide) ?_
        refine J_iadd dL_law_322 ?_
        refine J_iald dL_law_323 ?_
        refine J_i2l dL_law_324 ?_
        refine J_bipush (v := 32) dL_law_325 (by decide) ?_
        refine J_lshlK dL_law_327 ?_
        refine J_aload_n dL_law_328 0 rfl ?_
        refine J_iload_n dL_law_329 3 rfl ?_
        refine J_iconst (v := 2) dL_law_330 (by decide) ?_
        refine J_iadd dL_law_331 ?_
        refine J_iald dL_law_332 ?_
        refine J_i2l dL_law_333 ?_
        refine J_ldc2 (v := 4294967295) dL_law_334 w_815 ?_
        refine J_land dL_law_337 ?_
        refine J_lor dL_law_338 ?_
        refine J_aload_n dL_law_339 0 rfl ?_
        refine J_iload_n dL_law_340 3 rfl ?_
        refine J_iconst (v := 3) dL_law_341 (by decide) ?_
        refine J_iadd dL_law_342 ?_
        refine J_iald dL_law_343 ?_
        refine J_aload_n dL_law_344 0 rfl ?_
        refine J_iload_n dL_law_345 3 rfl ?_
        refine J_iconst (v := 4) dL_law_346 (by decide) ?_
        refine J_iadd dL_law_347 ?_
        refine J_iald dL_law_348 ?_
        refine J_i2l dL_law_349 ?_
        refine J_bipush (v := 32) dL_law_350 (by decide) ?_
        refine J_lshlK dL_law_352 ?_
        refine J_aload_n dL_law_353 0 rfl ?_
        refine J_iload_n dL_law_354 3 rfl ?_
        refine J_iconst (v := 5) dL_law_355 (by decide) ?_
        refine J_iadd dL_law_356 ?_
        refine J_iald dL_law_357 ?_
        refine J_i2l dL_law_358 ?_
        refine J_ldc2 (v := 4294967295) dL_law_359 w_815 ?_
        refine J_land dL_law_362 ?_
        refine J_lor dL_law_363 ?_
        refine J_callVi (okX8_hold G l _ _ _ _ _) mkX8_hold _ _ rfl w_840 w_841 w_842 ⟨by decide, by decide⟩ rfl (Nat.le_of_ble_eq_true rfl) dL_law_364 (fun v39 M38 => ?_)
        refine J_aload_n dL_law_367 2 rfl ?_
        refine J_aload_n dL_law_368 0 rfl ?_
        refine J_iload_n dL_law_369 3 rfl ?_
        refine J_iconst (v := 1) dL_law_370 (by decide) ?_
        refine J_iadd dL_law_371 ?_
        refine J_iald dL_law_372 ?_
        refine J_i2l dL_law_373 ?_
        refine J_bipush (v := 32) dL_law_374 (by decide) ?_
        refine J_lshlK dL_law_376 ?_
        refine J_aload_n dL_law_377 0 rfl ?_
        refine J_iload_n dL_law_378 3 rfl ?_
        refine J_iconst (v := 2) dL_law_379 (by decide) ?_
        refine J_iadd dL_law_380 ?_
        refine J_iald dL_law_381 ?_
        refine J_i2l dL_law_382 ?_
        refine J_ldc2 (v := 4294967295) dL_law_383 w_815 ?_
        refine J_land dL_law_386 ?_
        refine J_lor dL_law_387 ?_
        refine J_aload_n dL_law_388 0 rfl ?_
        refine J_iload_n dL_law_389 3 rfl ?_
        refine J_iconst (v := 3) dL_law_390 (by decide) ?_
        refine J_iadd dL_law_391 ?_
        refine J_iald dL_law_392 ?_
        refine J_aload_n dL_law_393 0 rfl ?_
        refine J_iload_n dL_law_394 3 rfl ?_
        refine J_iconst (v := 4) dL_law_395 (by decide) ?_
        refine J_iadd dL_law_396 ?_
        refine J_iald dL_law_397 ?_
        refine J_i2l dL_law_398 ?_
        refine J_bipush (v := 32) dL_law_399 (by decide) ?_
        refine J_lshlK dL_law_401 ?_
        refine J_aload_n dL_law_402 0 rfl ?_
        refine J_iload_n dL_law_403 3 rfl ?_
        refine J_iconst (v := 5) dL_law_404 (by decide) ?_
        refine J_iadd dL_law_405 ?_
        refine J_iald dL_law_406 ?_
        refine J_i2l dL_law_407 ?_
        refine J_ldc2 (v := 4294967295) dL_law_408 w_815 ?_
        refine J_land dL_law_411 ?_
        refine J_lor dL_law_412 ?_
        refine J_callVi (okX9_hold_ G l _ _ _ _ _) mkX9_hold_ _ _ rfl w_843 w_844 w_845 ⟨by decide, by decide⟩ rfl (Nat.le_of_ble_eq_true rfl) dL_law_413 (fun v46 M45 => ?_)
        refine J_icmp_eq (tgt := 1026) dL_law_416 (by decide) ?_ ?_
        · refine J_sub [0, 1, 2, 3] rfl ?_
          exact jL_law_1026 G l _ ih _ _ _ _ _
        · refine J_iconst (v := 0) dL_law_419 (by decide) ?_
          exact J_lawret dL_law_420
      refine J_ite (fun h33_5 => ?_) (fun h33_5 => ?_)
      · refine J_tabI (off := 388) (tgt := 421) dL_law_33 (by rw [h33_5]; decide) (by rw [h33_5]; decide) (by rw [h33_5]; decide) (by decide) ?_
        refine J_aload_n dL_law_421 1 rfl ?_
        refine J_aload_n dL_law_422 0 rfl ?_
        refine J_iload_n dL_law_423 3 rfl ?_
        refine J_iconst (v := 1) dL_law_424 (by decide) ?_
        refine J_iadd dL_law_425 ?_
        refine J_iald dL_law_426 ?_
        refine J_callVi (okX8_release G l _ _ _) mkX8_release _ _ rfl w_846 w_847 w_848 ⟨by decide, by decide⟩ rfl (Nat.le_of_ble_eq_true rfl) dL_law_427 (fun v49 M48 => ?_)
        refine J_aload_n dL_law_430 2 rfl ?_
        refine J_aload_n dL_law_431 0 rfl ?_
        refine J_iload_n dL_law_432 3 rfl ?_
        refine J_iconst (v := 1) dL_law_433 (by decide) ?_
        refine J_iadd dL_law_434 ?_
        refine J_iald dL_law_435 ?_
        refine J_callVi (okX9_release G l _ _ _) mkX9_release _ _ rfl w_849 w_850 w_851 ⟨by decide, by decide⟩ rfl (Nat.le_of_ble_eq_true rfl) dL_law_436 (fun v52 M51 => ?_)
        refine J_icmp_eq (tgt := 1026) dL_law_439 (by decide) ?_ ?_
        · refine J_sub [0, 1, 2, 3] rfl ?_
          exact jL_law_1026 G l _ ih _ _ _ _ _
        · refine J_iconst (v := 0) dL_law_442 (by decide) ?_
          exact J_lawret dL_law_443
      refine J_ite (fun h33_6 => ?_) (fun h33_6 => ?_)
      · refine J_tabI (off := 411) (tgt := 444) dL_law_33 (by rw [h33_6]; decide) (by rw [h33_6]; decide) (by rw [h33_6]; decide) (by decide) ?_
        refine J_aload_n dL_law_444 1 rfl ?_
        refine J_aload_n dL_law_445 0 rfl ?_
        refine J_iload_n dL_law_446 3 rfl ?_
        refine J_iconst (v := 1) dL_law_447 (by decide) ?_
        refine J_iadd dL_law_448 ?_
        refine J_iald dL_law_449 ?_
        refine J_i2l dL_law_450 ?_
        refine J_bipush (v := 32) dL_law_451 (by decide) ?_
        refine J_lshlK dL_law_453 ?_
        refine J_aload_n dL_law_454 0 rfl ?_
        refine J_iload_n dL_law_455 3 rfl ?_
        refine J_iconst (v := 2) dL_law_456 (by decide) ?_
        refine J_iadd dL_law_457 ?_
        refine J_iald dL_law_458 ?_
        refine J_i2l dL_law_459 ?_
        refine J_ldc2 (v := 4294967295) dL_law_460 w_815 ?_
        refine J_land dL_law_463 ?_
        refine J_lor dL_law_464 ?_
        refine J_aload_n dL_law_465 0 rfl ?_
        refine J_iload_n dL_law_466 3 rfl ?_
        refine J_iconst (v := 3) dL_law_467 (by decide) ?_
        refine J_iadd dL_law_468 ?_
        refine J_iald dL_law_469 ?_
        refine J_aload_n dL_law_470 0 rfl ?_
        refine J_iload_n dL_law_471 3 rfl ?_
        refine J_iconst (v := 4) dL_law_472 (by decide) ?_
        refine J_iadd dL_law_473 ?_
        refine J_iald dL_law_474 ?_
        refine J_aload_n dL_law_475 0 rfl ?_
        refine J_iload_n dL_law_476 3 rfl ?_
        refine J_iconst (v := 5) dL_law_477 (by decide) ?_
        refine J_iadd dL_law_478 ?_
        refine J_iald dL_law_479 ?_
        refine J_i2l dL_law_480 ?_
        refine J_bipush (v := 32) dL_law_481 (by decide) ?_
        refine J_lshlK dL_law_483 ?_
        refine J_aload_n dL_law_484 0 rfl ?_
        refine J_iload_n dL_law_485 3 rfl ?_
        refine J_bipush (v := 6) dL_law_486 (by decide) ?_
        refine J_iadd dL_law_488 ?_
        refine J_iald dL_law_489 ?_
        refine J_i2l dL_law_490 ?_
        refine J_ldc2 (v := 4294967295) dL_law_491 w_815 ?_
        refine J_land dL_law_494 ?_
        refine J_lor dL_law_495 ?_
        refine J_callVi (okX8_capture G l _ _ _ _ _ _) mkX8_capture _ _ rfl w_852 w_853 w_854 ⟨by decide, by decide⟩ rfl (Nat.le_of_ble_eq_true rfl) dL_law_496 (fun v60 M59 => ?_)
        refine J_aload_n dL_law_499 2 rfl ?_
        refine J_aload_n dL_law_500 0 rfl ?_
        refine J_iload_n dL_law_501 3 rfl ?_
        refine J_iconst (v := 1) dL_law_502 (by decide) ?_
        refine J_iadd dL_law_503 ?_
        refine J_iald dL_law_504 ?_
        refine J_i2l dL_law_505 ?_
        refine J_bipush (v := 32) dL_law_506 (by decide) ?_
        refine J_lshlK dL_law_508 ?_
        refine J_aload_n dL_law_509 0 rfl ?_
        refine J_iload_n dL_law_510 3 rfl ?_
        refine J_iconst (v := 2) dL_law_511 (by decide) ?_
        refine J_iadd dL_law_512 ?_
        refine J_iald dL_law_513 ?_
        refine J_i2l dL_law_514 ?_
        refine J_ldc2 (v := 4294967295) dL_law_515 w_815 ?_
        refine J_land dL_law_518 ?_
        refine J_lor dL_law_519 ?_
        refine J_aload_n dL_law_520 0 rfl ?_
        refine J_iload_n dL_law_521 3 rfl ?_
        refine J_iconst (v := 3) dL_law_522 (by decide) ?_
        refine J_iadd dL_law_523 ?_
        refine J_iald dL_law_524 ?_
        refine J_aload_n dL_law_525 0 rfl ?_
        refine J_iload_n dL_law_526 3 rfl ?_
        refine J_iconst (v := 4) dL_law_527 (by decide) ?_
        refine J_iadd dL_law_528 ?_
        refine J_iald dL_law_529 ?_
        refine J_aload_n dL_law_530 0 rfl ?_
        refine J_iload_n dL_law_531 3 rfl ?_
        refine J_iconst (v := 5) dL_law_532 (by decide) ?_
        refine J_iadd dL_law_533 ?_
        refine J_iald dL_law_534 ?_
        refine J_i2l dL_law_535 ?_
        refine J_bipush (v := 32) dL_law_536 (by decide) ?_
        refine J_lshlK dL_law_538 ?_
        refine J_aload_n dL_law_539 0 rfl ?_
        refine J_iload_n dL_law_540 3 rfl ?_
        refine J_bipush (v := 6) dL_law_541 (by decide) ?_
        refine J_iadd dL_law_543 ?_
        refine J_iald dL_law_544 ?_
        refine J_i2l dL_law_545 ?_
        refine J_ldc2 (v := 4294967295) dL_law_546 w_815 ?_
        refine J_land dL_law_549 ?_
        refine J_lor dL_law_550 ?_
        refine J_callVi (okX9_capture G l _ _ _ _ _ _) mkX9_capture _ _ rfl w_855 w_856 w_857 ⟨by decide, by decide⟩ rfl (Nat.le_of_ble_eq_true rfl) dL_law_551 (fun v68 M67 => ?_)
        refine J_icmp_eq (tgt := 1026) dL_law_554 (by decide) ?_ ?_
        · refine J_sub [0, 1, 2, 3] rfl ?_
          exact jL_law_1026 G l _ ih _ _ _ _ _
        · refine J_iconst (v := 0) dL_law_557 (by decide) ?_
          exact J_lawret dL_law_558
      refine J_ite (fun h33_7 => ?_) (fun h33_7 => ?_)
      · refine J_tabI (off := 526) (tgt := 559) dL_law_33 (by rw [h33_7]; decide) (by rw [h33_7]; decide) (by rw [h33_7]; decide) (by decide) ?_
        refine J_aload_n dL_law_559 1 rfl ?_
        refine J_aload_n dL_law_560 0 rfl ?_
        refine J_iload_n dL_law_561 3 rfl ?_
        refine J_iconst (v := 1) dL_law_562 (by decide) ?_
        refine J_iadd dL_law_563 ?_
        refine J_iald dL_law_564 ?_
        refine J_i2l dL_law_565 ?_
        refine J_bipush (v := 32) dL_law_566 (by decide) ?_
        refine J_lshlK dL_law_568 ?_
        refine J_aload_n dL_law_569 0 rfl ?_
        refine J_iload_n dL_law_570 3 rfl ?_
        refine J_iconst (v := 2) dL_law_571 (by decide) ?_
        refine J_iadd dL_law_572 ?_
        refine J_iald dL_law_573 ?_
        refine J_i2l dL_law_574 ?_
        refine J_ldc2 (v := 4294967295) dL_law_575 w_815 ?_
        refine J_land dL_law_578 ?_
        refine J_lor dL_law_579 ?_
        refine J_aload_n dL_law_580 0 rfl ?_
        refine J_iload_n dL_law_581 3 rfl ?_
        refine J_iconst (v := 3) dL_law_582 (by decide) ?_
        refine J_iadd dL_law_583 ?_
        refine J_iald dL_law_584 ?_
        refine J_callVi (okX8_reverse G l _ _ _ _) mkX8_reverse _ _ rfl w_858 w_859 w_860 ⟨by decide, by decide⟩ rfl (Nat.le_of_ble_eq_true rfl) dL_law_585 (fun v73 M72 => ?_)
        refine J_aload_n dL_law_588 2 rfl ?_
        refine J_aload_n dL_law_589 0 rfl ?_
        refine J_iload_n dL_law_590 3 rfl ?_
        refine J_iconst (v := 1) dL_law_591 (by decide) ?_
        refine J_iadd dL_law_592 ?_
        refine J_iald dL_law_593 ?_
        refine J_i2l dL_law_594 ?_
        refine J_bipush (v := 32) dL_law_595 (by decide) ?_
        refine J_lshlK dL_law_597 ?_
        refine J_aload_n dL_law_598 0 rfl ?_
        refine J_iload_n dL_law_599 3 rfl ?_
        refine J_iconst (v := 2) dL_law_600 (by decide) ?_
        refine J_iadd dL_law_601 ?_
        refine J_iald dL_law_602 ?_
        refine J_i2l dL_law_603 ?_
        refine J_ldc2 (v := 4294967295) dL_law_604 w_815 ?_
        refine J_land dL_law_607 ?_
        refine J_lor dL_law_608 ?_
        refine J_aload_n dL_law_609 0 rfl ?_
        refine J_iload_n dL_law_610 3 rfl ?_
        refine J_iconst (v := 3) dL_law_611 (by decide) ?_
        refine J_iadd dL_law_612 ?_
        refine J_iald dL_law_613 ?_
        refine J_callVi (okX9_reverse G l _ _ _ _) mkX9_reverse _ _ rfl w_861 w_862 w_863 ⟨by decide, by decide⟩ rfl (Nat.le_of_ble_eq_true rfl) dL_law_614 (fun v78 M77 => ?_)
        refine J_icmp_eq (tgt := 1026) dL_law_617 (by decide) ?_ ?_
        · refine J_sub [0, 1, 2, 3] rfl ?_
          exact jL_law_1026 G l _ ih _ _ _ _ _
        · refine J_iconst (v := 0) dL_law_620 (by decide) ?_
          exact J_lawret dL_law_621
      refine J_ite (fun h33_8 => ?_) (fun h33_8 => ?_)
      · refine J_tabI (off := 589) (tgt := 622) dL_law_33 (by rw [h33_8]; decide) (by rw [h33_8]; decide) (by rw [h33_8]; decide) (by decide) ?_
        refine J_aload_n dL_law_622 1 rfl ?_
        refine J_aload_n dL_law_623 0 rfl ?_
        refine J_iload_n dL_law_624 3 rfl ?_
        refine J_iconst (v := 1) dL_law_625 (by decide) ?_
        refine J_iadd dL_law_626 ?_
        refine J_iald dL_law_627 ?_
        refine J_callVi (okX8_every G l _ _ _) mkX8_every _ _ rfl w_864 w_865 w_866 ⟨by decide, by decide⟩ rfl (Nat.le_of_ble_eq_true rfl) dL_law_628 (fun v81 M80 => ?_)
        refine J_aload_n dL_law_631 2 rfl ?_
        refine J_aload_n dL_law_632 0 rfl ?_
        refine J_iload_n dL_law_633 3 rfl ?_
        refine J_iconst (v := 1) dL_law_634 (by decide) ?_
        refine J_iadd dL_law_635 ?_
        refine J_iald dL_law_636 ?_
        refine J_callVi (okX9_every G l _ _ _) mkX9_every _ _ rfl w_867 w_868 w_869 ⟨by decide, by decide⟩ rfl (Nat.le_of_ble_eq_true rfl) dL_law_637 (fun v84 M83 => ?_)
        refine J_icmp_eq (tgt := 1026) dL_law_640 (by decide) ?_ ?_
        · refine J_sub [0, 1, 2, 3] rfl ?_
          exact jL_law_1026 G l _ ih _ _ _ _ _
        · refine J_iconst (v := 0) dL_law_643 (by decide) ?_
          exact J_lawret dL_law_644
      refine J_ite (fun h33_9 => ?_) (fun h33_9 => ?_)
      · refine J_tabI (off := 612) (tgt := 645) dL_law_33 (by rw [h33_9]; decide) (by rw [h33_9]; decide) (by rw [h33_9]; decide) (by decide) ?_
        refine J_aload_n dL_law_645 1 rfl ?_
        refine J_aload_n dL_law_646 0 rfl ?_
        refine J_iload_n dL_law_647 3 rfl ?_
        refine J_iconst (v := 1) dL_law_648 (by decide) ?_
        refine J_iadd dL_law_649 ?_
        refine J_iald dL_law_650 ?_
        refine J_aload_n dL_law_651 0 rfl ?_
        refine J_iload_n dL_law_652 3 rfl ?_
        refine J_iconst (v := 2) dL_law_653 (by decide) ?_
        refine J_iadd dL_law_654 ?_
        refine J_iald dL_law_655 ?_
        refine J_callVl (okX8_account G l _ _ _ _) mkX8_account _ _ rfl w_870 w_871 w_872 ⟨by decide, by decide⟩ rfl (Nat.le_of_ble_eq_true rfl) dL_law_656 (fun v88 M87 => ?_)
        refine J_aload_n dL_law_659 2 rfl ?_
        refine J_aload_n dL_law_660 0 rfl ?_
        refine J_iload_n dL_law_661 3 rfl ?_
        refine J_iconst (v := 1) dL_law_662 (by decide) ?_
        refine J_iadd dL_law_663 ?_
        refine J_iald dL_law_664 ?_
        refine J_aload_n dL_law_665 0 rfl ?_
        refine J_iload_n dL_law_666 3 rfl ?_
        refine J_iconst (v := 2) dL_law_667 (by decide) ?_
        refine J_iadd dL_law_668 ?_
        refine J_iald dL_law_669 ?_
        refine J_callVl (okX9_account G l _ _ _ _) mkX9_account _ _ rfl w_873 w_874 w_875 ⟨by decide, by decide⟩ rfl (Nat.le_of_ble_eq_true rfl) dL_law_670 (fun v92 M91 => ?_)
        refine J_lcmp_eq (tgt := 1026) dL_law_673 dL_law_674 (by decide) ?_ ?_
        · refine J_sub [0, 1, 2, 3] rfl ?_
          exact jL_law_1026 G l _ ih _ _ _ _ _
        · refine J_iconst (v := 0) dL_law_677 (by decide) ?_
          exact J_lawret dL_law_678
      refine J_ite (fun h33_10 => ?_) (fun h33_10 => ?_)
      · refine J_tabI (off := 646) (tgt := 679) dL_law_33 (by rw [h33_10]; decide) (by rw [h33_10]; decide) (by rw [h33_10]; decide) (by decide) ?_
        refine J_aload_n dL_law_679 1 rfl ?_
        refine J_aload_n dL_law_680 0 rfl ?_
        refine J_iload_n dL_law_681 3 rfl ?_
        refine J_iconst (v := 1) dL_law_682 (by decide) ?_
        refine J_iadd dL_law_683 ?_
        refine J_iald dL_law_684 ?_
        refine J_aload_n dL_law_685 0 rfl ?_
        refine J_iload_n dL_law_686 3 rfl ?_
        refine J_iconst (v := 2) dL_law_687 (by decide) ?_
        refine J_iadd dL_law_688 ?_
        refine J_iald dL_law_689 ?_
        refine J_callVl (okX8_entry G l _ _ _ _) mkX8_entry _ _ rfl w_876 w_877 w_878 ⟨by decide, by decide⟩ rfl (Nat.le_of_ble_eq_true rfl) dL_law_690 (fun v96 M95 => ?_)
        refine J_aload_n dL_law_693 2 rfl ?_
        refine J_aload_n dL_law_694 0 rfl ?_
        refine J_iload_n dL_law_695 3 rfl ?_
        refine J_iconst (v := 1) dL_law_696 (by decide) ?_
        refine J_iadd dL_law_697 ?_
        refine J_iald dL_law_698 ?_
        refine J_aload_n dL_law_699 0 rfl ?_
        refine J_iload_n dL_law_700 3 rfl ?_
        refine J_iconst (v := 2) dL_law_701 (by decide) ?_
        refine J_iadd dL_law_702 ?_
        refine J_iald dL_law_703 ?_
        refine J_callVl (okX9_entry G l _ _ _ _) mkX9_entry _ _ rfl w_879 w_880 w_881 ⟨by decide, by decide⟩ rfl (Nat.le_of_ble_eq_true rfl) dL_law_704 (fun v100 M99 => ?_)
        refine J_lcmp_eq (tgt := 1026) dL_law_707 dL_law_708 (by decide) ?_ ?_
        · refine J_sub [0, 1, 2, 3] rfl ?_
          exact jL_law_1026 G l _ ih _ _ _ _ _
        · refine J_iconst (v := 0) dL_law_711 (by decide) ?_
          exact J_lawret dL_law_712
      refine J_ite (fun h33_11 => ?_) (fun h33_11 => ?_)
      · refine J_tabI (off := 680) (tgt := 713) dL_law_33 (by rw [h33_11]; decide) (by rw [h33_11]; decide) (by rw [h33_11]; decide) (by decide) ?_
        refine J_aload_n dL_law_713 1 rfl ?_
        refine J_aload_n dL_law_714 0 rfl ?_
        refine J_iload_n dL_law_715 3 rfl ?_
        refine J_iconst (v := 1) dL_law_716 (by decide) ?_
        refine J_iadd dL_law_717 ?_
        refine J_iald dL_law_718 ?_
        refine J_callVi (okX8_data G l _ _ _) mkX8_data _ _ rfl w_882 w_883 w_884 ⟨by decide, by decide⟩ rfl (Nat.le_of_ble_eq_true rfl) dL_law_719 (fun v103 M102 => ?_)
        refine J_aload_n dL_law_722 2 rfl ?_
        refine J_aload_n dL_law_723 0 rfl ?_
        refine J_iload_n dL_law_724 3 rfl ?_
        refine J_iconst (v := 1) dL_law_725 (by decide) ?_
        refine J_iadd dL_law_726 ?_
        refine J_iald dL_law_727 ?_
        refine J_callVi (okX9_data G l _ _ _) mkX9_data _ _ rfl w_885 w_886 w_887 ⟨by decide, by decide⟩ rfl (Nat.le_of_ble_eq_true rfl) dL_law_728 (fun v106 M105 => ?_)
        refine J_icmp_eq (tgt := 1026) dL_law_731 (by decide) ?_ ?_
        · refine J_sub [0, 1, 2, 3] rfl ?_
          exact jL_law_1026 G l _ ih _ _ _ _ _
        · refine J_iconst (v := 0) dL_law_734 (by decide) ?_
          exact J_lawret dL_law_735
      refine J_ite (fun h33_12 => ?_) (fun h33_12 => ?_)
      · refine J_tabI (off := 703) (tgt := 736) dL_law_33 (by rw [h33_12]; decide) (by rw [h33_12]; decide) (by rw [h33_12]; decide) (by decide) ?_
        refine J_aload_n dL_law_736 1 rfl ?_
        refine J_aload_n dL_law_737 0 rfl ?_
        refine J_iload_n dL_law_738 3 rfl ?_
        refine J_iconst (v := 1) dL_law_739 (by decide) ?_
        refine J_iadd dL_law_740 ?_
        refine J_iald dL_law_741 ?_
        refine J_aload_n dL_law_742 0 rfl ?_
        refine J_iload_n dL_law_743 3 rfl ?_
        refine J_iconst (v := 2) dL_law_744 (by decide) ?_
        refine J_iadd dL_law_745 ?_
        refine J_iald dL_law_746 ?_
        refine J_callVi (okX8_alter G l _ _ _ _) mkX8_alter _ _ rfl w_888 w_889 w_890 ⟨by decide, by decide⟩ rfl (Nat.le_of_ble_eq_true rfl) dL_law_747 (fun v110 M109 => ?_)
        refine J_aload_n dL_law_750 2 rfl ?_
        refine J_aload_n dL_law_751 0 rfl ?_
        refine J_iload_n dL_law_752 3 rfl ?_
        refine J_iconst (v := 1) dL_law_753 (by decide) ?_
        refine J_iadd dL_law_754 ?_
        refine J_iald dL_law_755 ?_
        refine J_aload_n dL_law_756 0 rfl ?_
        refine J_iload_n dL_law_757 3 rfl ?_
        refine J_iconst (v := 2) dL_law_758 (by decide) ?_
        refine J_iadd dL_law_759 ?_
        refine J_iald dL_law_760 ?_
        refine J_callVi (okX9_alter G l _ _ _ _) mkX9_alter _ _ rfl w_891 w_892 w_893 ⟨by decide, by decide⟩ rfl (Nat.le_of_ble_eq_true rfl) dL_law_761 (fun v114 M113 => ?_)
        refine J_icmp_eq (tgt := 1026) dL_law_764 (by decide) ?_ ?_
        · refine J_sub [0, 1, 2, 3] rfl ?_
          exact jL_law_1026 G l _ ih _ _ _ _ _
        · refine J_iconst (v := 0) dL_law_767 (by decide) ?_
          exact J_lawret dL_law_768
      refine J_ite (fun h33_13 => ?_) (fun h33_13 => ?_)
      · refine J_tabI (off := 736) (tgt := 769) dL_law_33 (by rw [h33_13]; decide) (by rw [h33_13]; decide) (by rw [h33_13]; decide) (by decide) ?_
        refine J_aload_n dL_law_769 1 rfl ?_
        refine J_aload_n dL_law_770 0 rfl ?_
        refine J_iload_n dL_law_771 3 rfl ?_
        refine J_iconst (v := 1) dL_law_772 (by decide) ?_
        refine J_iadd dL_law_773 ?_
        refine J_iald dL_law_774 ?_
        refine J_aload_n dL_law_775 0 rfl ?_
        refine J_iload_n dL_law_776 3 rfl ?_
        refine J_iconst (v := 2) dL_law_777 (by decide) ?_
        refine J_iadd dL_law_778 ?_
        refine J_iald dL_law_779 ?_
        refine J_aload_n dL_law_780 0 rfl ?_
        refine J_iload_n dL_law_781 3 rfl ?_
        refine J_iconst (v := 3) dL_law_782 (by decide) ?_
        refine J_iadd dL_law_783 ?_
        refine J_iald dL_law_784 ?_
        refine J_callVi (okX8_hash G l _ _ _ _ _) mkX8_hash _ _ rfl w_894 w_895 w_896 ⟨by decide, by decide⟩ rfl (Nat.le_of_ble_eq_true rfl) dL_law_785 (fun v119 M118 => ?_)
        refine J_aload_n dL_law_788 2 rfl ?_
        refine J_aload_n dL_law_789 0 rfl ?_
        refine J_iload_n dL_law_790 3 rfl ?_
        refine J_iconst (v := 1) dL_law_791 (by decide) ?_
        refine J_iadd dL_law_792 ?_
        refine J_iald dL_law_793 ?_
        refine J_aload_n dL_law_794 0 rfl ?_
        refine J_iload_n dL_law_795 3 rfl ?_
        refine J_iconst (v := 2) dL_law_796 (by decide) ?_
        refine J_iadd dL_law_797 ?_
        refine J_iald dL_law_798 ?_
        refine J_aload_n dL_law_799 0 rfl ?_
        refine J_iload_n dL_law_800 3 rfl ?_
        refine J_iconst (v := 3) dL_law_801 (by decide) ?_
        refine J_iadd dL_law_802 ?_
        refine J_iald dL_law_803 ?_
        refine J_callVi (okX9_hash G l _ _ _ _ _) mkX9_hash _ _ rfl w_897 w_898 w_899 ⟨by decide, by decide⟩ rfl (Nat.le_of_ble_eq_true rfl) dL_law_804 (fun v124 M123 => ?_)
        refine J_icmp_eq (tgt := 1026) dL_law_807 (by decide) ?_ ?_
        · refine J_sub [0, 1, 2, 3] rfl ?_
          exact jL_law_1026 G l _ ih _ _ _ _ _
        · refine J_iconst (v := 0) dL_law_810 (by decide) ?_
          exact J_lawret dL_law_811
      refine J_ite (fun h33_14 => ?_) (fun h33_14 => ?_)
      · refine J_tabI (off := 779) (tgt := 812) dL_law_33 (by rw [h33_14]; decide) (by rw [h33_14]; decide) (by rw [h33_14]; decide) (by decide) ?_
        refine J_aload_n dL_law_812 1 rfl ?_
        refine J_aload_n dL_law_813 0 rfl ?_
        refine J_iload_n dL_law_814 3 rfl ?_
        refine J_iconst (v := 1) dL_law_815 (by decide) ?_
        refine J_iadd dL_law_816 ?_
        refine J_iald dL_law_817 ?_
        refine J_callVi (okX8_keep G l _ _ _) mkX8_keep _ _ rfl w_900 w_901 w_902 ⟨by decide, by decide⟩ rfl (Nat.le_of_ble_eq_true rfl) dL_law_818 (fun v127 M126 => ?_)
        refine J_aload_n dL_law_821 2 rfl ?_
        refine J_aload_n dL_law_822 0 rfl ?_
        refine J_iload_n dL_law_823 3 rfl ?_
        refine J_iconst (v := 1) dL_law_824 (by decide) ?_
        refine J_iadd dL_law_825 ?_
        refine J_iald dL_law_826 ?_
        refine J_callVi (okX9_keep G l _ _ _) mkX9_keep _ _ rfl w_903 w_904 w_905 ⟨by decide, by decide⟩ rfl (Nat.le_of_ble_eq_true rfl) dL_law_827 (fun v130 M129 => ?_)
        refine J_icmp_eq (tgt := 1026) dL_law_830 (by decide) ?_ ?_
        · refine J_sub [0, 1, 2, 3] rfl ?_
          exact jL_law_1026 G l _ ih _ _ _ _ _
        · refine J_iconst (v := 0) dL_law_833 (by decide) ?_
          exact J_lawret dL_law_834
      refine J_ite (fun h33_15 => ?_) (fun h33_15 => ?_)
      · refine J_tabI (off := 802) (tgt := 835) dL_law_33 (by rw [h33_15]; decide) (by rw [h33_15]; decide) (by rw [h33_15]; decide) (by decide) ?_
        refine J_aload_n dL_law_835 1 rfl ?_
        refine J_aload_n dL_law_836 0 rfl ?_
        refine J_iload_n dL_law_837 3 rfl ?_
        refine J_iconst (v := 1) dL_law_838 (by decide) ?_
        refine J_iadd dL_law_839 ?_
        refine J_iald dL_law_840 ?_
        refine J_callVi (okX8_verify G l _ _ _) mkX8_verify _ _ rfl w_906 w_907 w_908 ⟨by decide, by decide⟩ rfl (Nat.le_of_ble_eq_true rfl) dL_law_841 (fun v133 M132 => ?_)
        refine J_aload_n dL_law_844 2 rfl ?_
        refine J_aload_n dL_law_845 0 rfl ?_
        refine J_iload_n dL_law_846 3 rfl ?_
        refine J_iconst (v := 1) dL_law_847 (by decide) ?_
        refine J_iadd dL_law_848 ?_
        refine J_iald dL_law_849 ?_
        refine J_callVi (okX9_verify G l _ _ _) mkX9_verify _ _ rfl w_909 w_910 w_911 ⟨by decide, by decide⟩ rfl (Nat.le_of_ble_eq_true rfl) dL_law_850 (fun v136 M135 => ?_)
        refine J_icmp_eq (tgt := 1026) dL_law_853 (by decide) ?_ ?_
        · refine J_sub [0, 1, 2, 3] rfl ?_
          exact jL_law_1026 G l _ ih _ _ _ _ _
        · refine J_iconst (v := 0) dL_law_856 (by decide) ?_
          exact J_lawret dL_law_857
      refine J_ite (fun h33_16 => ?_) (fun h33_16 => ?_)
      · refine J_tabI (off := 825) (tgt := 858) dL_law_33 (by rw [h33_16]; decide) (by rw [h33_16]; decide) (by rw [h33_16]; decide) (by decide) ?_
        refine J_aload_n dL_law_858 1 rfl ?_
        refine J_aload_n dL_law_859 0 rfl ?_
        refine J_iload_n dL_law_860 3 rfl ?_
        refine J_iconst (v := 1) dL_law_861 (by decide) ?_
        refine J_iadd dL_law_862 ?_
        refine J_iald dL_law_863 ?_
        refine J_aload_n dL_law_864 0 rfl ?_
        refine J_iload_n dL_law_865 3 rfl ?_
        refine J_iconst (v := 2) dL_law_866 (by decide) ?_
        refine J_iadd dL_law_867 ?_
        refine J_iald dL_law_868 ?_
        refine J_callVi (okX8_path G l _ _ _ _) mkX8_path _ _ rfl w_912 w_913 w_914 ⟨by decide, by decide⟩ rfl (Nat.le_of_ble_eq_true rfl) dL_law_869 (fun v140 M139 => ?_)
        refine J_aload_n dL_law_872 2 rfl ?_
        refine J_aload_n dL_law_873 0 rfl ?_
        refine J_iload_n dL_law_874 3 rfl ?_
        refine J_iconst (v := 1) dL_law_875 (by decide) ?_
        refine J_iadd dL_law_876 ?_
        refine J_iald dL_law_877 ?_
        refine J_aload_n dL_law_878 0 rfl ?_
        refine J_iload_n dL_law_879 3 rfl ?_
        refine J_iconst (v := 2) dL_law_880 (by decide) ?_
        refine J_iadd dL_law_881 ?_
        refine J_iald dL_law_882 ?_
        refine J_callVi (okX9_path G l _ _ _ _) mkX9_path _ _ rfl w_915 w_916 w_917 ⟨by decide, by decide⟩ rfl (Nat.le_of_ble_eq_true rfl) dL_law_883 (fun v144 M143 => ?_)
        refine J_icmp_eq (tgt := 1026) dL_law_886 (by decide) ?_ ?_
        · refine J_sub [0, 1, 2, 3] rfl ?_
          exact jL_law_1026 G l _ ih _ _ _ _ _
        · refine J_iconst (v := 0) dL_law_889 (by decide) ?_
          exact J_lawret dL_law_890
      refine J_ite (fun h33_17 => ?_) (fun h33_17 => ?_)
      · refine J_tabI (off := 858) (tgt := 891) dL_law_33 (by rw [h33_17]; decide) (by rw [h33_17]; decide) (by rw [h33_17]; decide) (by decide) ?_
        refine J_aload_n dL_law_891 1 rfl ?_
        refine J_aload_n dL_law_892 0 rfl ?_
        refine J_iload_n dL_law_893 3 rfl ?_
        refine J_iconst (v := 1) dL_law_894 (by decide) ?_
        refine J_iadd dL_law_895 ?_
        refine J_iald dL_law_896 ?_
        refine J_aload_n dL_law_897 0 rfl ?_
        refine J_iload_n dL_law_898 3 rfl ?_
        refine J_iconst (v := 2) dL_law_899 (by decide) ?_
        refine J_iadd dL_law_900 ?_
        refine J_iald dL_law_901 ?_
        refine J_callVi (okX8_proof G l _ _ _ _) mkX8_proof _ _ rfl w_918 w_919 w_920 ⟨by decide, by decide⟩ rfl (Nat.le_of_ble_eq_true rfl) dL_law_902 (fun v148 M147 => ?_)
        refine J_aload_n dL_law_905 2 rfl ?_
        refine J_aload_n dL_law_906 0 rfl ?_
        refine J_iload_n dL_law_907 3 rfl ?_
        refine J_iconst (v := 1) dL_law_908 (by decide) ?_
        refine J_iadd dL_law_909 ?_
        refine J_iald dL_law_910 ?_
        refine J_aload_n dL_law_911 0 rfl ?_
        refine J_iload_n dL_law_912 3 rfl ?_
        refine J_iconst (v := 2) dL_law_913 (by decide) ?_
        refine J_iadd dL_law_914 ?_
        refine J_iald dL_law_915 ?_
        refine J_callVi (okX9_proof G l _ _ _ _) mkX9_proof _ _ rfl w_921 w_922 w_923 ⟨by decide, by decide⟩ rfl (Nat.le_of_ble_eq_true rfl) dL_law_916 (fun v152 M151 => ?_)
        refine J_icmp_eq (tgt := 1026) dL_law_919 (by decide) ?_ ?_
        · refine J_sub [0, 1, 2, 3] rfl ?_
          exact jL_law_1026 G l _ ih _ _ _ _ _
        · refine J_iconst (v := 0) dL_law_922 (by decide) ?_
          exact J_lawret dL_law_923
      refine J_ite (fun h33_18 => ?_) (fun h33_18 => ?_)
      · refine J_tabI (off := 891) (tgt := 924) dL_law_33 (by rw [h33_18]; decide) (by rw [h33_18]; decide) (by rw [h33_18]; decide) (by decide) ?_
        refine J_aload_n dL_law_924 1 rfl ?_
        refine J_aload_n dL_law_925 0 rfl ?_
        refine J_iload_n dL_law_926 3 rfl ?_
        refine J_iconst (v := 1) dL_law_927 (by decide) ?_
        refine J_iadd dL_law_928 ?_
        refine J_iald dL_law_929 ?_
        refine J_aload_n dL_law_930 0 rfl ?_
        refine J_iload_n dL_law_931 3 rfl ?_
        refine J_iconst (v := 2) dL_law_932 (by decide) ?_
        refine J_iadd dL_law_933 ?_
        refine J_iald dL_law_934 ?_
        refine J_callVi (okX8_step G l _ _ _ _) mkX8_step _ _ rfl w_924 w_925 w_926 ⟨by decide, by decide⟩ rfl (Nat.le_of_ble_eq_true rfl) dL_law_935 (fun v156 M155 => ?_)
        refine J_aload_n dL_law_938 2 rfl ?_
        refine J_aload_n dL_law_939 0 rfl ?_
        refine J_iload_n dL_law_940 3 rfl ?_
        refine J_iconst (v := 1) dL_law_941 (by decide) ?_
        refine J_iadd dL_law_942 ?_
        refine J_iald dL_law_943 ?_
        refine J_aload_n dL_law_944 0 rfl ?_
        refine J_iload_n dL_law_945 3 rfl ?_
        refine J_iconst (v := 2) dL_law_946 (by decide) ?_
        refine J_iadd dL_law_947 ?_
        refine J_iald dL_law_948 ?_
        refine J_callVi (okX9_step_ G l _ _ _ _) mkX9_step_ _ _ rfl w_927 w_928 w_929 ⟨by decide, by decide⟩ rfl (Nat.le_of_ble_eq_true rfl) dL_law_949 (fun v160 M159 => ?_)
        refine J_icmp_eq (tgt := 1026) dL_law_952 (by decide) ?_ ?_
        · refine J_sub [0, 1, 2, 3] rfl ?_
          exact jL_law_1026 G l _ ih _ _ _ _ _
        · refine J_iconst (v := 0) dL_law_955 (by decide) ?_
          exact J_lawret dL_law_956
      refine J_ite (fun h33_19 => ?_) (fun h33_19 => ?_)
      · refine J_tabI (off := 924) (tgt := 957) dL_law_33 (by rw [h33_19]; decide) (by rw [h33_19]; decide) (by rw [h33_19]; decide) (by decide) ?_
        refine J_aload_n dL_law_957 1 rfl ?_
        refine J_aload_n dL_law_958 0 rfl ?_
        refine J_iload_n dL_law_959 3 rfl ?_
        refine J_iconst (v := 1) dL_law_960 (by decide) ?_
        refine J_iadd dL_law_961 ?_
        refine J_iald dL_law_962 ?_
        refine J_aload_n dL_law_963 0 rfl ?_
        refine J_iload_n dL_law_964 3 rfl ?_
        refine J_iconst (v := 2) dL_law_965 (by decide) ?_
        refine J_iadd dL_law_966 ?_
        refine J_iald dL_law_967 ?_
        refine J_callVi (okX8_leads G l _ _ _ _) mkX8_leads _ _ rfl w_930 w_931 w_932 ⟨by decide, by decide⟩ rfl (Nat.le_of_ble_eq_true rfl) dL_law_968 (fun v164 M163 => ?_)
        refine J_aload_n dL_law_971 2 rfl ?_
        refine J_aload_n dL_law_972 0 rfl ?_
        refine J_iload_n dL_law_973 3 rfl ?_
        refine J_iconst (v := 1) dL_law_974 (by decide) ?_
        refine J_iadd dL_law_975 ?_
        refine J_iald dL_law_976 ?_
        refine J_aload_n dL_law_977 0 rfl ?_
        refine J_iload_n dL_law_978 3 rfl ?_
        refine J_iconst (v := 2) dL_law_979 (by decide) ?_
        refine J_iadd dL_law_980 ?_
        refine J_iald dL_law_981 ?_
        refine J_callVi (okX9_leads G l _ _ _ _) mkX9_leads _ _ rfl w_933 w_934 w_935 ⟨by decide, by decide⟩ rfl (Nat.le_of_ble_eq_true rfl) dL_law_982 (fun v168 M167 => ?_)
        refine J_icmp_eq (tgt := 1026) dL_law_985 (by decide) ?_ ?_
        · refine J_sub [0, 1, 2, 3] rfl ?_
          exact jL_law_1026 G l _ ih _ _ _ _ _
        · refine J_iconst (v := 0) dL_law_988 (by decide) ?_
          exact J_lawret dL_law_989
      refine J_ite (fun h33_20 => ?_) (fun h33_20 => ?_)
      · refine J_tabI (off := 957) (tgt := 990) dL_law_33 (by rw [h33_20]; decide) (by rw [h33_20]; decide) (by rw [h33_20]; decide) (by decide) ?_
        refine J_aload_n dL_law_990 1 rfl ?_
        refine J_callVi (okX8_audit G l _ _) mkX8_audit _ _ rfl w_936 w_937 w_938 ⟨by decide, by decide⟩ rfl (Nat.le_of_ble_eq_true rfl) dL_law_991 (fun v170 M169 => ?_)
        refine J_aload_n dL_law_994 2 rfl ?_
        refine J_callVi (okX9_audit G l _ _) mkX9_audit _ _ rfl w_939 w_940 w_941 ⟨by decide, by decide⟩ rfl (Nat.le_of_ble_eq_true rfl) dL_law_995 (fun v172 M171 => ?_)
        refine J_icmp_eq (tgt := 1026) dL_law_998 (by decide) ?_ ?_
        · refine J_sub [0, 1, 2, 3] rfl ?_
          exact jL_law_1026 G l _ ih _ _ _ _ _
        · refine J_iconst (v := 0) dL_law_1001 (by decide) ?_
          exact J_lawret dL_law_1002
      refine J_ite (fun h33_21 => ?_) (fun h33_21 => ?_)
      · refine J_tabI (off := 970) (tgt := 1003) dL_law_33 (by rw [h33_21]; decide) (by rw [h33_21]; decide) (by rw [h33_21]; decide) (by decide) ?_
        refine J_aload_n dL_law_1003 1 rfl ?_
        refine J_aload_n dL_law_1004 0 rfl ?_
        refine J_iload_n dL_law_1005 3 rfl ?_
        refine J_iconst (v := 1) dL_law_1006 (by decide) ?_
        refine J_iadd dL_law_1007 ?_
        refine J_iald dL_law_1008 ?_
        refine J_callVi (okX8_count G l _ _ _) mkX8_count _ _ rfl w_942 w_943 w_944 ⟨by decide, by decide⟩ rfl (Nat.le_of_ble_eq_true rfl) dL_law_1009 (fun v175 M174 => ?_)
        refine J_aload_n dL_law_1012 2 rfl ?_
        refine J_aload_n dL_law_1013 0 rfl ?_
        refine J_iload_n dL_law_1014 3 rfl ?_
        refine J_iconst (v := 1) dL_law_1015 (by decide) ?_
        refine J_iadd dL_law_1016 ?_
        refine J_iald dL_law_1017 ?_
        refine J_callVi (okX9_count G l _ _ _) mkX9_count _ _ rfl w_945 w_946 w_947 ⟨by decide, by decide⟩ rfl (Nat.le_of_ble_eq_true rfl) dL_law_1018 (fun v178 M177 => ?_)
        refine J_icmp_eq (tgt := 1026) dL_law_1021 (by decide) ?_ ?_
        · refine J_sub [0, 1, 2, 3] rfl ?_
          exact jL_law_1026 G l _ ih _ _ _ _ _
        · refine J_iconst (v := 0) dL_law_1024 (by decide) ?_
          exact J_lawret dL_law_1025
      refine J_tabO (tgt := 1026) dL_law_33 (by have h33_0 := lv_neT h33_0 (show (0 : Int32).toInt = 0 by decide); have h33_1 := lv_neT h33_1 (show (1 : Int32).toInt = 1 by decide); have h33_2 := lv_neT h33_2 (show (2 : Int32).toInt = 2 by decide); have h33_3 := lv_neT h33_3 (show (3 : Int32).toInt = 3 by decide); have h33_4 := lv_neT h33_4 (show (4 : Int32).toInt = 4 by decide); have h33_5 := lv_neT h33_5 (show (5 : Int32).toInt = 5 by decide); have h33_6 := lv_neT h33_6 (show (6 : Int32).toInt = 6 by decide); have h33_7 := lv_neT h33_7 (show (7 : Int32).toInt = 7 by decide); have h33_8 := lv_neT h33_8 (show (8 : Int32).toInt = 8 by decide); have h33_9 := lv_neT h33_9 (show (9 : Int32).toInt = 9 by decide); have h33_10 := lv_neT h33_10 (show (10 : Int32).toInt = 10 by decide); have h33_11 := lv_neT h33_11 (show (11 : Int32).toInt = 11 by decide); have h33_12 := lv_neT h33_12 (show (12 : Int32).toInt = 12 by decide); have h33_13 := lv_neT h33_13 (show (13 : Int32).toInt = 13 by decide); have h33_14 := lv_neT h33_14 (show (14 : Int32).toInt = 14 by decide); have h33_15 := lv_neT h33_15 (show (15 : Int32).toInt = 15 by decide); have h33_16 := lv_neT h33_16 (show (16 : Int32).toInt = 16 by decide); have h33_17 := lv_neT h33_17 (show (17 : Int32).toInt = 17 by decide); have h33_18 := lv_neT h33_18 (show (18 : Int32).toInt = 18 by decide); have h33_19 := lv_neT h33_19 (show (19 : Int32).toInt = 19 by decide); have h33_20 := lv_neT h33_20 (show (20 : Int32).toInt = 20 by decide); have h33_21 := lv_neT h33_21 (show (21 : Int32).toInt = 21 by decide); omega) (by decide) ?_
      refine J_sub [0, 1, 2, 3] rfl ?_
      exact jL_law_1026 G l _ ih _ _ _ _ _
def fL_law (l0 : Nat) (M : Mem) : Option (Int32 × Mem) := (nwO M 8 8 fun c1 M2 => (bd (fX8_init c1 M2) fun _u4 M3 => (nwO M3 9 67 fun c5 M6 => (bd (fX9_init c5 M6) fun _u8 M7 => fL_law_18  FU l0 c1 c5 (0 : Int32) M7))))
set_option maxHeartbeats 4000000 in
set_option maxRecDepth 100000 in
theorem jL_law (G : Gx) (l : Launch) (l0 : Nat) (M : Mem) : J G l code 4 RL ret "law" 8 198 (QL G) 0 [(0, .ref (adr G l0))] [] M (fL_law l0 M) := by
  unfold fL_law
  refine J_new nw_8 w_948 dL_law_0 ?_
  refine J_dup dL_law_3 rfl ?_
  refine J_callIv (okX8_init G l _ _) mkX8_init rfl w_950 w_949 ⟨by decide, by decide⟩ rfl (Nat.le_of_ble_eq_true rfl) dL_law_4 (fun _u4 M3 => ?_)
  refine J_astore_n (lv' := [(1, .ref _), (0, .ref _)]) dL_law_7 (by decide) rfl ?_
  refine J_new nw_9 w_951 dL_law_8 ?_
  refine J_dup dL_law_11 rfl ?_
  refine J_callIv (okX9_init G l _ _) mkX9_init rfl w_953 w_952 ⟨by decide, by decide⟩ rfl (Nat.le_of_ble_eq_true rfl) dL_law_12 (fun _u8 M7 => ?_)
  refine J_astore_n (lv' := [(2, .ref _), (1, .ref _), (0, .ref _)]) dL_law_15 (by decide) rfl ?_
  refine J_iconst (v := 0) dL_law_16 (by decide) ?_
  refine J_istore_n (lv' := [(3, .int _), (2, .ref _), (1, .ref _), (0, .ref _)]) dL_law_17 (by decide) rfl ?_
  refine J_sub [3, 2, 1, 0] rfl ?_
  exact jL_law_18 G l   FU _ _ _ _ _
