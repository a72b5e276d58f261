theorem w_0 : Cond.methodLink RX0 3 Lib.objectInit ∈ lwT := tb2 (List.mem_of_getElem? (i := 47) rfl) rfl
theorem w_1 : Cond.instanceMethod Lib.objectInit ∈ lwT := tb1 (List.mem_of_getElem? (i := 19) rfl) rfl
theorem w_2 : Cond.code Lib.objectInit ⟨#[0xb1]⟩ 1 none ∈ lwT := tb1 (List.mem_of_getElem? (i := 20) rfl) rfl
theorem w_3 : Cond.classLink RX0 9 RX3 ∈ lwT := tb2 (List.mem_of_getElem? (i := 48) rfl) rfl
theorem w_4 : Cond.methodLink RX3 3 Lib.objectInit ∈ lwT := tb1 (List.mem_of_getElem? (i := 26) rfl) rfl
theorem w_5 : Cond.arrayClass .long ∈ lwT := tb1 (List.mem_of_getElem? (i := 42) rfl) rfl
theorem w_6 : Cond.fieldLink RX3 9 "ChainBooks$Ledger" "floor" "[J" ∈ lwT := tb1 (List.mem_of_getElem? (i := 66) rfl) rfl
theorem w_7 : Cond.fieldLink RX3 15 "ChainBooks$Ledger" "balance" "[J" ∈ lwT := tb1 (List.mem_of_getElem? (i := 68) rfl) rfl
theorem w_8 : Cond.fieldLink RX3 18 "ChainBooks$Ledger" "held" "[J" ∈ lwT := tb1 (List.mem_of_getElem? (i := 70) rfl) rfl
theorem w_9 : Cond.fieldLink RX3 21 "ChainBooks$Ledger" "balanceBehind" "[J" ∈ lwT := tb1 (List.mem_of_getElem? (i := 72) rfl) rfl
theorem w_10 : Cond.arrayClass .byte ∈ lwT := tb1 (List.mem_of_getElem? (i := 43) rfl) rfl
theorem w_11 : Cond.fieldLink RX3 24 "ChainBooks$Ledger" "made" "[B" ∈ lwT := tb1 (List.mem_of_getElem? (i := 75) rfl) rfl
theorem w_12 : Cond.arrayClass .int ∈ lwT := tb1 (List.mem_of_getElem? (i := 44) rfl) rfl
theorem w_13 : Cond.fieldLink RX3 28 "ChainBooks$Ledger" "start" "[I" ∈ lwT := tb1 (List.mem_of_getElem? (i := 79) rfl) rfl
theorem w_14 : Cond.fieldLink RX3 32 "ChainBooks$Ledger" "keys" "[J" ∈ lwT := tb1 (List.mem_of_getElem? (i := 83) rfl) rfl
theorem w_15 : Cond.fieldLink RX3 35 "ChainBooks$Ledger" "endedBy" "[I" ∈ lwT := tb1 (List.mem_of_getElem? (i := 85) rfl) rfl
theorem w_16 : Cond.fieldLink RX3 38 "ChainBooks$Ledger" "legCount" "[I" ∈ lwT := tb1 (List.mem_of_getElem? (i := 87) rfl) rfl
theorem w_17 : Cond.fieldLink RX3 41 "ChainBooks$Ledger" "legAccount" "[I" ∈ lwT := tb1 (List.mem_of_getElem? (i := 89) rfl) rfl
theorem w_18 : Cond.fieldLink RX3 44 "ChainBooks$Ledger" "legAmount" "[J" ∈ lwT := tb1 (List.mem_of_getElem? (i := 91) rfl) rfl
theorem w_19 : Cond.classLink RX3 47 RX1 ∈ lwT := tb1 (List.mem_of_getElem? (i := 27) rfl) rfl
theorem w_20 : Cond.methodLink RX1 3 Lib.objectInit ∈ lwT := tb1 (List.mem_of_getElem? (i := 32) rfl) rfl
theorem w_21 : Cond.fieldLink RX1 9 "ChainBooks$Draft" "bytes" "[B" ∈ lwT := tb1 (List.mem_of_getElem? (i := 33) rfl) rfl
theorem w_22 : Cond.code yX1_init cX1_init 1 none ∈ lwT := tb1 (List.mem_of_getElem? (i := 31) rfl) rfl
theorem w_23 : Cond.instanceMethod yX1_init ∈ lwT := tb1 (List.mem_of_getElem? (i := 30) rfl) rfl
theorem w_24 : Cond.fieldLink RX3 50 "ChainBooks$Ledger" "draft" "LChainBooks$Draft;" ∈ lwT := tb1 (List.mem_of_getElem? (i := 97) rfl) rfl
theorem w_25 : Cond.classLink RX3 54 RX4 ∈ lwT := tb1 (List.mem_of_getElem? (i := 45) rfl) rfl
theorem w_26 : Cond.methodLink RX4 3 Lib.objectInit ∈ lwT := tb1 (List.mem_of_getElem? (i := 50) rfl) rfl
theorem w_27 : Cond.fieldLink RX4 9 "ChainBooks$Legs" "account" "[I" ∈ lwT := tb1 (List.mem_of_getElem? (i := 51) rfl) rfl
theorem w_28 : Cond.fieldLink RX4 15 "ChainBooks$Legs" "amount" "[J" ∈ lwT := tb1 (List.mem_of_getElem? (i := 53) rfl) rfl
theorem w_29 : Cond.code yX4_init cX4_init 1 none ∈ lwT := tb1 (List.mem_of_getElem? (i := 49) rfl) rfl
theorem w_30 : Cond.instanceMethod yX4_init ∈ lwT := tb1 (List.mem_of_getElem? (i := 48) rfl) rfl
theorem w_31 : Cond.fieldLink RX3 57 "ChainBooks$Ledger" "moving" "LChainBooks$Legs;" ∈ lwT := tb1 (List.mem_of_getElem? (i := 98) rfl) rfl
theorem w_32 : Cond.code yX3_init cX3_init 1 none ∈ lwT := tb1 (List.mem_of_getElem? (i := 25) rfl) rfl
theorem w_33 : Cond.instanceMethod yX3_init ∈ lwT := tb1 (List.mem_of_getElem? (i := 24) rfl) rfl
theorem w_34 : Cond.fieldLink RX0 12 "ChainBooks$Auditor" "mirror" "LChainBooks$Ledger;" ∈ lwT := tb2 (List.mem_of_getElem? (i := 52) rfl) rfl
theorem w_35 : Cond.classLink RX0 18 RX4 ∈ lwT := tb2 (List.mem_of_getElem? (i := 50) rfl) rfl
theorem w_36 : Cond.fieldLink RX0 21 "ChainBooks$Auditor" "legs" "LChainBooks$Legs;" ∈ lwT := tb2 (List.mem_of_getElem? (i := 53) rfl) rfl
theorem w_37 : Cond.code yX0_init cX0_init 1 none ∈ lwT := tb2 (List.mem_of_getElem? (i := 46) rfl) rfl
theorem w_38 : Cond.fieldLink RX0 36 "ChainBooks$Ledger" "entries" "I" ∈ lwT := tb1 (List.mem_of_getElem? (i := 94) rfl) rfl
theorem w_39 : Cond.fieldLink RX0 40 "ChainBooks$Ledger" "start" "[I" ∈ lwT := tb1 (List.mem_of_getElem? (i := 80) rfl) rfl
theorem w_40 : Cond.fieldLink RX0 94 "ChainBooks$Ledger" "made" "[B" ∈ lwT := tb1 (List.mem_of_getElem? (i := 77) rfl) rfl
theorem w_41 : Cond.fieldLink RX0 98 "ChainBooks$Pages" "now" "[B" ∈ lwT := tb1 (List.mem_of_getElem? (i := 172) rfl) rfl
theorem w_42 : Cond.fieldLink RX5 15 "ChainBooks$Pages" "start" "[I" ∈ lwT := tb1 (List.mem_of_getElem? (i := 174) rfl) rfl
theorem w_43 : Cond.fieldLink RX5 38 "ChainBooks$Pages" "entries" "I" ∈ lwT := tb1 (List.mem_of_getElem? (i := 175) rfl) rfl
theorem w_44 : Cond.code yX5_size cX5_size 1 (some .int) ∈ lwT := tb2 (List.mem_of_getElem? (i := 119) rfl) rfl
theorem w_45 : Cond.methodLink RX0 51 yX5_size ∈ lwT := tb3 (List.mem_of_getElem? (i := 203) rfl) rfl
theorem w_46 : Cond.instanceMethod yX5_size ∈ lwT := tb2 (List.mem_of_getElem? (i := 117) rfl) rfl
theorem w_47 : Cond.selects yX5_size.cls yX5_size yX5_size ∈ lwT := tb2 (List.mem_of_getElem? (i := 118) rfl) rfl
theorem w_48 : Cond.code yX0_stands cX0_stands 4 (some .boolean) ∈ lwT := tb3 (List.mem_of_getElem? (i := 227) rfl) rfl
theorem w_49 : Cond.methodLink RX0 48 yX0_stands ∈ lwT := tb3 (List.mem_of_getElem? (i := 224) rfl) rfl
theorem w_50 : Cond.instanceMethod yX0_stands ∈ lwT := tb3 (List.mem_of_getElem? (i := 226) rfl) rfl
theorem w_51 : Cond.selects yX0_stands.cls yX0_stands yX0_stands ∈ lwT := tb0 (List.mem_of_getElem? (i := 25) rfl) rfl
theorem w_52 : Cond.methodLink RX5 42 yX5_size ∈ lwT := tb2 (List.mem_of_getElem? (i := 116) rfl) rfl
theorem w_53 : Cond.fieldLink RX5 9 "ChainBooks$Pages" "now" "[B" ∈ lwT := tb1 (List.mem_of_getElem? (i := 171) rfl) rfl
theorem w_54 : Cond.code yX5_number cX5_number 6 (some .long) ∈ lwT := tb3 (List.mem_of_getElem? (i := 212) rfl) rfl
theorem w_55 : Cond.methodLink RX0 57 yX5_number ∈ lwT := tb3 (List.mem_of_getElem? (i := 209) rfl) rfl
theorem w_56 : Cond.instanceMethod yX5_number ∈ lwT := tb3 (List.mem_of_getElem? (i := 210) rfl) rfl
theorem w_57 : Cond.selects yX5_number.cls yX5_number yX5_number ∈ lwT := tb3 (List.mem_of_getElem? (i := 211) rfl) rfl
theorem w_58 : Cond.fieldLink RX3 65 "ChainBooks$Ledger" "entries" "I" ∈ lwT := tb1 (List.mem_of_getElem? (i := 93) rfl) rfl
theorem w_59 : Cond.fieldLink RX3 61 "ChainBooks$Ledger" "accounts" "I" ∈ lwT := tb1 (List.mem_of_getElem? (i := 73) rfl) rfl
theorem w_60 : Cond.fieldLink RX1 15 "ChainBooks$Draft" "size" "I" ∈ lwT := tb1 (List.mem_of_getElem? (i := 35) rfl) rfl
theorem w_61 : Cond.code yX1_add cX1_add 5 none ∈ lwT := tb2 (List.mem_of_getElem? (i := 99) rfl) rfl
theorem w_62 : Cond.methodLink RX1 19 yX1_add ∈ lwT := tb2 (List.mem_of_getElem? (i := 96) rfl) rfl
theorem w_63 : Cond.instanceMethod yX1_add ∈ lwT := tb2 (List.mem_of_getElem? (i := 97) rfl) rfl
theorem w_64 : Cond.selects yX1_add.cls yX1_add yX1_add ∈ lwT := tb2 (List.mem_of_getElem? (i := 98) rfl) rfl
theorem w_65 : Cond.code yX1_begin cX1_begin 2 none ∈ lwT := tb2 (List.mem_of_getElem? (i := 95) rfl) rfl
theorem w_66 : Cond.methodLink RX3 81 yX1_begin ∈ lwT := tb2 (List.mem_of_getElem? (i := 92) rfl) rfl
theorem w_67 : Cond.instanceMethod yX1_begin ∈ lwT := tb2 (List.mem_of_getElem? (i := 93) rfl) rfl
theorem w_68 : Cond.selects yX1_begin.cls yX1_begin yX1_begin ∈ lwT := tb2 (List.mem_of_getElem? (i := 94) rfl) rfl
theorem w_69 : Cond.methodLink RX3 84 yX1_add ∈ lwT := tb2 (List.mem_of_getElem? (i := 100) rfl) rfl
theorem w_70 : Cond.fieldLink RX3 157 "ChainBooks$Draft" "bytes" "[B" ∈ lwT := tb1 (List.mem_of_getElem? (i := 34) rfl) rfl
theorem w_71 : Cond.fieldLink RX3 156 "ChainBooks$Draft" "size" "I" ∈ lwT := tb1 (List.mem_of_getElem? (i := 36) rfl) rfl
theorem w_72 : Cond.methodLink RX3 160 arraycopyName ∈ lwT := tb2 (List.mem_of_getElem? (i := 105) rfl) rfl
theorem w_73 : Cond.native arraycopyName ∈ lwT := tb2 (List.mem_of_getElem? (i := 107) rfl) rfl
theorem w_74 : Cond.static arraycopyName ∈ lwT := tb2 (List.mem_of_getElem? (i := 106) rfl) rfl
theorem w_75 : Cond.initialized "java/lang/System" ∈ lwT := tb1 (List.mem_of_getElem? (i := 11) rfl) rfl
theorem w_76 : Cond.code yX3_append cX3_append 4 (some .int) ∈ lwT := tb2 (List.mem_of_getElem? (i := 104) rfl) rfl
theorem w_77 : Cond.methodLink RX3 88 yX3_append ∈ lwT := tb2 (List.mem_of_getElem? (i := 101) rfl) rfl
theorem w_78 : Cond.instanceMethod yX3_append ∈ lwT := tb2 (List.mem_of_getElem? (i := 103) rfl) rfl
theorem w_79 : Cond.selects yX3_append.cls yX3_append yX3_append ∈ lwT := tb0 (List.mem_of_getElem? (i := 0) rfl) rfl
theorem w_80 : Cond.code yX3_addAccount cX3_addAccount 4 (some .int) ∈ lwT := tb2 (List.mem_of_getElem? (i := 91) rfl) rfl
theorem w_81 : Cond.methodLink RX0 61 yX3_addAccount ∈ lwT := tb3 (List.mem_of_getElem? (i := 213) rfl) rfl
theorem w_82 : Cond.instanceMethod yX3_addAccount ∈ lwT := tb2 (List.mem_of_getElem? (i := 89) rfl) rfl
theorem w_83 : Cond.selects yX3_addAccount.cls yX3_addAccount yX3_addAccount ∈ lwT := tb2 (List.mem_of_getElem? (i := 90) rfl) rfl
theorem w_84 : Cond.fieldLink RX4 19 "ChainBooks$Legs" "size" "I" ∈ lwT := tb1 (List.mem_of_getElem? (i := 55) rfl) rfl
theorem w_85 : Cond.code yX8_isByte cX8_isByte 1 (some .boolean) ∈ lwT := tb2 (List.mem_of_getElem? (i := 131) rfl) rfl
theorem w_86 : Cond.static yX8_isByte ∈ lwT := tb2 (List.mem_of_getElem? (i := 130) rfl) rfl
theorem w_87 : Cond.constantLong RX4 27 (-9223372036854775808) ∈ lwT := tb2 (List.mem_of_getElem? (i := 132) rfl) rfl
theorem w_88 : Cond.code yX4_add cX4_add 4 (some .boolean) ∈ lwT := tb2 (List.mem_of_getElem? (i := 128) rfl) rfl
theorem w_89 : Cond.methodLink RX0 90 yX4_add ∈ lwT := tb3 (List.mem_of_getElem? (i := 218) rfl) rfl
theorem w_90 : Cond.instanceMethod yX4_add ∈ lwT := tb2 (List.mem_of_getElem? (i := 126) rfl) rfl
theorem w_91 : Cond.selects yX4_add.cls yX4_add yX4_add ∈ lwT := tb2 (List.mem_of_getElem? (i := 127) rfl) rfl
theorem w_92 : Cond.fieldLink RX0 88 "ChainBooks$Legs" "size" "I" ∈ lwT := tb1 (List.mem_of_getElem? (i := 58) rfl) rfl
theorem w_93 : Cond.code yX0_readLegs cX0_readLegs 6 (some .boolean) ∈ lwT := tb3 (List.mem_of_getElem? (i := 217) rfl) rfl
theorem w_94 : Cond.methodLink RX0 65 yX0_readLegs ∈ lwT := tb3 (List.mem_of_getElem? (i := 214) rfl) rfl
theorem w_95 : Cond.instanceMethod yX0_readLegs ∈ lwT := tb3 (List.mem_of_getElem? (i := 216) rfl) rfl
theorem w_96 : Cond.selects yX0_readLegs.cls yX0_readLegs yX0_readLegs ∈ lwT := tb0 (List.mem_of_getElem? (i := 24) rfl) rfl
theorem w_97 : Cond.fieldLink RX3 92 "ChainBooks$Legs" "size" "I" ∈ lwT := tb1 (List.mem_of_getElem? (i := 57) rfl) rfl
theorem w_98 : Cond.code yX3_isAsDrafted cX3_isAsDrafted 3 (some .boolean) ∈ lwT := tb2 (List.mem_of_getElem? (i := 157) rfl) rfl
theorem w_99 : Cond.methodLink RX3 153 yX3_isAsDrafted ∈ lwT := tb2 (List.mem_of_getElem? (i := 154) rfl) rfl
theorem w_100 : Cond.instanceMethod yX3_isAsDrafted ∈ lwT := tb2 (List.mem_of_getElem? (i := 156) rfl) rfl
theorem w_101 : Cond.selects yX3_isAsDrafted.cls yX3_isAsDrafted yX3_isAsDrafted ∈ lwT := tb0 (List.mem_of_getElem? (i := 3) rfl) rfl
theorem w_102 : Cond.code yX3_answeredBefore cX3_answeredBefore 4 (some .int) ∈ lwT := tb2 (List.mem_of_getElem? (i := 153) rfl) rfl
theorem w_103 : Cond.methodLink RX3 105 yX3_answeredBefore ∈ lwT := tb2 (List.mem_of_getElem? (i := 150) rfl) rfl
theorem w_104 : Cond.instanceMethod yX3_answeredBefore ∈ lwT := tb2 (List.mem_of_getElem? (i := 152) rfl) rfl
theorem w_105 : Cond.selects yX3_answeredBefore.cls yX3_answeredBefore yX3_answeredBefore ∈ lwT := tb0 (List.mem_of_getElem? (i := 2) rfl) rfl
theorem w_106 : Cond.fieldLink RX3 99 "ChainBooks$Legs" "account" "[I" ∈ lwT := tb1 (List.mem_of_getElem? (i := 52) rfl) rfl
theorem w_107 : Cond.code yX3_areThere cX3_areThere 3 (some .boolean) ∈ lwT := tb2 (List.mem_of_getElem? (i := 161) rfl) rfl
theorem w_108 : Cond.methodLink RX3 108 yX3_areThere ∈ lwT := tb2 (List.mem_of_getElem? (i := 158) rfl) rfl
theorem w_109 : Cond.instanceMethod yX3_areThere ∈ lwT := tb2 (List.mem_of_getElem? (i := 160) rfl) rfl
theorem w_110 : Cond.selects yX3_areThere.cls yX3_areThere yX3_areThere ∈ lwT := tb0 (List.mem_of_getElem? (i := 4) rfl) rfl
theorem w_111 : Cond.constantLong RX4 29 (4294967295) ∈ lwT := tb2 (List.mem_of_getElem? (i := 166) rfl) rfl
theorem w_112 : Cond.code yX4_comeToNothing cX4_comeToNothing 6 (some .boolean) ∈ lwT := tb2 (List.mem_of_getElem? (i := 165) rfl) rfl
theorem w_113 : Cond.methodLink RX3 112 yX4_comeToNothing ∈ lwT := tb2 (List.mem_of_getElem? (i := 162) rfl) rfl
theorem w_114 : Cond.instanceMethod yX4_comeToNothing ∈ lwT := tb2 (List.mem_of_getElem? (i := 163) rfl) rfl
theorem w_115 : Cond.selects yX4_comeToNothing.cls yX4_comeToNothing yX4_comeToNothing ∈ lwT := tb2 (List.mem_of_getElem? (i := 164) rfl) rfl
theorem w_116 : Cond.constantLong RX8 106 (-9223372036854775808) ∈ lwT := tb2 (List.mem_of_getElem? (i := 174) rfl) rfl
theorem w_117 : Cond.code yX8_isBelow cX8_isBelow 4 (some .boolean) ∈ lwT := tb2 (List.mem_of_getElem? (i := 173) rfl) rfl
theorem w_118 : Cond.static yX8_isBelow ∈ lwT := tb2 (List.mem_of_getElem? (i := 172) rfl) rfl
theorem w_119 : Cond.fieldLink RX3 102 "ChainBooks$Legs" "amount" "[J" ∈ lwT := tb1 (List.mem_of_getElem? (i := 54) rfl) rfl
theorem w_120 : Cond.code yX3_weigh cX3_weigh 10 (some .int) ∈ lwT := tb2 (List.mem_of_getElem? (i := 170) rfl) rfl
theorem w_121 : Cond.methodLink RX3 116 yX3_weigh ∈ lwT := tb2 (List.mem_of_getElem? (i := 167) rfl) rfl
theorem w_122 : Cond.instanceMethod yX3_weigh ∈ lwT := tb2 (List.mem_of_getElem? (i := 169) rfl) rfl
theorem w_123 : Cond.selects yX3_weigh.cls yX3_weigh yX3_weigh ∈ lwT := tb0 (List.mem_of_getElem? (i := 5) rfl) rfl
theorem w_124 : Cond.fieldLink RX3 78 "ChainBooks$Ledger" "sinceTrial" "I" ∈ lwT := tb1 (List.mem_of_getElem? (i := 103) rfl) rfl
theorem w_125 : Cond.fieldLink RX3 75 "ChainBooks$Ledger" "every" "I" ∈ lwT := tb1 (List.mem_of_getElem? (i := 101) rfl) rfl
theorem w_126 : Cond.code yX3_addTrial cX3_addTrial 6 none ∈ lwT := tb2 (List.mem_of_getElem? (i := 182) rfl) rfl
theorem w_127 : Cond.methodLink RX3 166 yX3_addTrial ∈ lwT := tb2 (List.mem_of_getElem? (i := 179) rfl) rfl
theorem w_128 : Cond.instanceMethod yX3_addTrial ∈ lwT := tb2 (List.mem_of_getElem? (i := 181) rfl) rfl
theorem w_129 : Cond.selects yX3_addTrial.cls yX3_addTrial yX3_addTrial ∈ lwT := tb0 (List.mem_of_getElem? (i := 7) rfl) rfl
theorem w_130 : Cond.code yX3_move cX3_move 6 (some .int) ∈ lwT := tb2 (List.mem_of_getElem? (i := 178) rfl) rfl
theorem w_131 : Cond.methodLink RX3 120 yX3_move ∈ lwT := tb2 (List.mem_of_getElem? (i := 175) rfl) rfl
theorem w_132 : Cond.instanceMethod yX3_move ∈ lwT := tb2 (List.mem_of_getElem? (i := 177) rfl) rfl
theorem w_133 : Cond.selects yX3_move.cls yX3_move yX3_move ∈ lwT := tb0 (List.mem_of_getElem? (i := 6) rfl) rfl
theorem w_134 : Cond.methodLink RX1 23 yX1_begin ∈ lwT := tb2 (List.mem_of_getElem? (i := 149) rfl) rfl
theorem w_135 : Cond.code yX1_beginKeyed cX1_beginKeyed 4 none ∈ lwT := tb2 (List.mem_of_getElem? (i := 148) rfl) rfl
theorem w_136 : Cond.methodLink RX3 95 yX1_beginKeyed ∈ lwT := tb2 (List.mem_of_getElem? (i := 145) rfl) rfl
theorem w_137 : Cond.instanceMethod yX1_beginKeyed ∈ lwT := tb2 (List.mem_of_getElem? (i := 146) rfl) rfl
theorem w_138 : Cond.selects yX1_beginKeyed.cls yX1_beginKeyed yX1_beginKeyed ∈ lwT := tb2 (List.mem_of_getElem? (i := 147) rfl) rfl
theorem w_139 : Cond.code yX3_addPost cX3_addPost 6 (some .int) ∈ lwT := tb2 (List.mem_of_getElem? (i := 144) rfl) rfl
theorem w_140 : Cond.methodLink RX0 68 yX3_addPost ∈ lwT := tb3 (List.mem_of_getElem? (i := 219) rfl) rfl
theorem w_141 : Cond.instanceMethod yX3_addPost ∈ lwT := tb2 (List.mem_of_getElem? (i := 142) rfl) rfl
theorem w_142 : Cond.selects yX3_addPost.cls yX3_addPost yX3_addPost ∈ lwT := tb2 (List.mem_of_getElem? (i := 143) rfl) rfl
theorem w_143 : Cond.fieldLink RX3 68 "ChainBooks$Ledger" "holdsThere" "I" ∈ lwT := tb1 (List.mem_of_getElem? (i := 99) rfl) rfl
theorem w_144 : Cond.code yX3_addHold cX3_addHold 7 (some .int) ∈ lwT := tb2 (List.mem_of_getElem? (i := 190) rfl) rfl
theorem w_145 : Cond.methodLink RX0 72 yX3_addHold ∈ lwT := tb3 (List.mem_of_getElem? (i := 220) rfl) rfl
theorem w_146 : Cond.instanceMethod yX3_addHold ∈ lwT := tb2 (List.mem_of_getElem? (i := 188) rfl) rfl
theorem w_147 : Cond.selects yX3_addHold.cls yX3_addHold yX3_addHold ∈ lwT := tb2 (List.mem_of_getElem? (i := 189) rfl) rfl
theorem w_148 : Cond.code yX8_canBeEntry cX8_canBeEntry 1 (some .boolean) ∈ lwT := tb2 (List.mem_of_getElem? (i := 202) rfl) rfl
theorem w_149 : Cond.static yX8_canBeEntry ∈ lwT := tb2 (List.mem_of_getElem? (i := 201) rfl) rfl
theorem w_150 : Cond.code yX3_kindOf cX3_kindOf 2 (some .int) ∈ lwT := tb2 (List.mem_of_getElem? (i := 210) rfl) rfl
theorem w_151 : Cond.methodLink RX3 169 yX3_kindOf ∈ lwT := tb2 (List.mem_of_getElem? (i := 207) rfl) rfl
theorem w_152 : Cond.instanceMethod yX3_kindOf ∈ lwT := tb2 (List.mem_of_getElem? (i := 208) rfl) rfl
theorem w_153 : Cond.selects yX3_kindOf.cls yX3_kindOf yX3_kindOf ∈ lwT := tb2 (List.mem_of_getElem? (i := 209) rfl) rfl
theorem w_154 : Cond.code yX3_isHoldThere cX3_isHoldThere 2 (some .boolean) ∈ lwT := tb2 (List.mem_of_getElem? (i := 206) rfl) rfl
theorem w_155 : Cond.methodLink RX3 135 yX3_isHoldThere ∈ lwT := tb2 (List.mem_of_getElem? (i := 203) rfl) rfl
theorem w_156 : Cond.instanceMethod yX3_isHoldThere ∈ lwT := tb2 (List.mem_of_getElem? (i := 205) rfl) rfl
theorem w_157 : Cond.selects yX3_isHoldThere.cls yX3_isHoldThere yX3_isHoldThere ∈ lwT := tb0 (List.mem_of_getElem? (i := 8) rfl) rfl
theorem w_158 : Cond.code yX3_accountHeld cX3_accountHeld 2 (some .int) ∈ lwT := tb2 (List.mem_of_getElem? (i := 218) rfl) rfl
theorem w_159 : Cond.methodLink RX3 146 yX3_accountHeld ∈ lwT := tb2 (List.mem_of_getElem? (i := 215) rfl) rfl
theorem w_160 : Cond.instanceMethod yX3_accountHeld ∈ lwT := tb2 (List.mem_of_getElem? (i := 217) rfl) rfl
theorem w_161 : Cond.selects yX3_accountHeld.cls yX3_accountHeld yX3_accountHeld ∈ lwT := tb0 (List.mem_of_getElem? (i := 10) rfl) rfl
theorem w_162 : Cond.code yX3_amountHeld cX3_amountHeld 5 (some .long) ∈ lwT := tb2 (List.mem_of_getElem? (i := 222) rfl) rfl
theorem w_163 : Cond.methodLink RX3 142 yX3_amountHeld ∈ lwT := tb2 (List.mem_of_getElem? (i := 219) rfl) rfl
theorem w_164 : Cond.instanceMethod yX3_amountHeld ∈ lwT := tb2 (List.mem_of_getElem? (i := 221) rfl) rfl
theorem w_165 : Cond.selects yX3_amountHeld.cls yX3_amountHeld yX3_amountHeld ∈ lwT := tb0 (List.mem_of_getElem? (i := 11) rfl) rfl
theorem w_166 : Cond.code yX3_endHold cX3_endHold 3 none ∈ lwT := tb2 (List.mem_of_getElem? (i := 214) rfl) rfl
theorem w_167 : Cond.methodLink RX3 138 yX3_endHold ∈ lwT := tb2 (List.mem_of_getElem? (i := 211) rfl) rfl
theorem w_168 : Cond.instanceMethod yX3_endHold ∈ lwT := tb2 (List.mem_of_getElem? (i := 213) rfl) rfl
theorem w_169 : Cond.selects yX3_endHold.cls yX3_endHold yX3_endHold ∈ lwT := tb0 (List.mem_of_getElem? (i := 9) rfl) rfl
theorem w_170 : Cond.code yX3_addRelease cX3_addRelease 2 (some .int) ∈ lwT := tb2 (List.mem_of_getElem? (i := 199) rfl) rfl
theorem w_171 : Cond.methodLink RX0 76 yX3_addRelease ∈ lwT := tb3 (List.mem_of_getElem? (i := 221) rfl) rfl
theorem w_172 : Cond.instanceMethod yX3_addRelease ∈ lwT := tb2 (List.mem_of_getElem? (i := 197) rfl) rfl
theorem w_173 : Cond.selects yX3_addRelease.cls yX3_addRelease yX3_addRelease ∈ lwT := tb2 (List.mem_of_getElem? (i := 198) rfl) rfl
theorem w_174 : Cond.methodLink RX3 150 yX4_add ∈ lwT := tb2 (List.mem_of_getElem? (i := 231) rfl) rfl
theorem w_175 : Cond.code yX3_addCapture cX3_addCapture 9 (some .int) ∈ lwT := tb2 (List.mem_of_getElem? (i := 230) rfl) rfl
theorem w_176 : Cond.methodLink RX0 80 yX3_addCapture ∈ lwT := tb3 (List.mem_of_getElem? (i := 222) rfl) rfl
theorem w_177 : Cond.instanceMethod yX3_addCapture ∈ lwT := tb2 (List.mem_of_getElem? (i := 228) rfl) rfl
theorem w_178 : Cond.selects yX3_addCapture.cls yX3_addCapture yX3_addCapture ∈ lwT := tb2 (List.mem_of_getElem? (i := 229) rfl) rfl
theorem w_179 : Cond.code yX3_addReversal cX3_addReversal 6 (some .int) ∈ lwT := tb2 (List.mem_of_getElem? (i := 239) rfl) rfl
theorem w_180 : Cond.methodLink RX0 84 yX3_addReversal ∈ lwT := tb3 (List.mem_of_getElem? (i := 223) rfl) rfl
theorem w_181 : Cond.instanceMethod yX3_addReversal ∈ lwT := tb2 (List.mem_of_getElem? (i := 237) rfl) rfl
theorem w_182 : Cond.selects yX3_addReversal.cls yX3_addReversal yX3_addReversal ∈ lwT := tb2 (List.mem_of_getElem? (i := 238) rfl) rfl
theorem w_183 : Cond.code yX0_callAgain cX0_callAgain 7 none ∈ lwT := tb3 (List.mem_of_getElem? (i := 208) rfl) rfl
theorem w_184 : Cond.methodLink RX0 44 yX0_callAgain ∈ lwT := tb3 (List.mem_of_getElem? (i := 205) rfl) rfl
theorem w_185 : Cond.instanceMethod yX0_callAgain ∈ lwT := tb3 (List.mem_of_getElem? (i := 207) rfl) rfl
theorem w_186 : Cond.selects yX0_callAgain.cls yX0_callAgain yX0_callAgain ∈ lwT := tb0 (List.mem_of_getElem? (i := 23) rfl) rfl
theorem w_187 : Cond.code yX0_hasToStand cX0_hasToStand 3 (some .boolean) ∈ lwT := tb3 (List.mem_of_getElem? (i := 202) rfl) rfl
theorem w_188 : Cond.methodLink RX0 28 yX0_hasToStand ∈ lwT := tb3 (List.mem_of_getElem? (i := 199) rfl) rfl
theorem w_189 : Cond.instanceMethod yX0_hasToStand ∈ lwT := tb3 (List.mem_of_getElem? (i := 201) rfl) rfl
theorem w_190 : Cond.selects yX0_hasToStand.cls yX0_hasToStand yX0_hasToStand ∈ lwT := tb0 (List.mem_of_getElem? (i := 22) rfl) rfl
theorem w_191 : Cond.code yX3_startEvery cX3_startEvery 2 none ∈ lwT := tb3 (List.mem_of_getElem? (i := 7) rfl) rfl
theorem w_192 : Cond.methodLink RX0 32 yX3_startEvery ∈ lwT := tb3 (List.mem_of_getElem? (i := 204) rfl) rfl
theorem w_193 : Cond.instanceMethod yX3_startEvery ∈ lwT := tb3 (List.mem_of_getElem? (i := 5) rfl) rfl
theorem w_194 : Cond.selects yX3_startEvery.cls yX3_startEvery yX3_startEvery ∈ lwT := tb3 (List.mem_of_getElem? (i := 6) rfl) rfl
theorem w_195 : Cond.methodLink RX3 71 yX3_startEvery ∈ lwT := tb3 (List.mem_of_getElem? (i := 198) rfl) rfl
theorem w_196 : Cond.code yX3_startAnew cX3_startAnew 1 none ∈ lwT := tb3 (List.mem_of_getElem? (i := 197) rfl) rfl
theorem w_197 : Cond.methodLink RX0 25 yX3_startAnew ∈ lwT := tb3 (List.mem_of_getElem? (i := 194) rfl) rfl
theorem w_198 : Cond.instanceMethod yX3_startAnew ∈ lwT := tb3 (List.mem_of_getElem? (i := 195) rfl) rfl
theorem w_199 : Cond.selects yX3_startAnew.cls yX3_startAnew yX3_startAnew ∈ lwT := tb3 (List.mem_of_getElem? (i := 196) rfl) rfl
theorem w_200 : Cond.code yX0_firstBad cX0_firstBad 4 (some .int) ∈ lwT := tb3 (List.mem_of_getElem? (i := 193) rfl) rfl
theorem w_201 : Cond.methodLink RX2 3 Lib.objectInit ∈ lwT := tb1 (List.mem_of_getElem? (i := 206) rfl) rfl
theorem w_202 : Cond.fieldLink RX2 9 "ChainBooks$Head" "chain" "[I" ∈ lwT := tb1 (List.mem_of_getElem? (i := 207) rfl) rfl
theorem w_203 : Cond.fieldLink RX2 15 "ChainBooks$Head" "tree" "[I" ∈ lwT := tb1 (List.mem_of_getElem? (i := 209) rfl) rfl
theorem w_204 : Cond.fieldLink RX2 18 "ChainBooks$Head" "entries" "I" ∈ lwT := tb1 (List.mem_of_getElem? (i := 212) rfl) rfl
theorem w_205 : Cond.code yX2_init cX2_init 1 none ∈ lwT := tb1 (List.mem_of_getElem? (i := 205) rfl) rfl
theorem w_206 : Cond.methodLink RX5 3 Lib.objectInit ∈ lwT := tb1 (List.mem_of_getElem? (i := 149) rfl) rfl
theorem w_207 : Cond.classLink RX5 19 RX6 ∈ lwT := tb1 (List.mem_of_getElem? (i := 150) rfl) rfl
theorem w_208 : Cond.methodLink RX6 3 Lib.objectInit ∈ lwT := tb1 (List.mem_of_getElem? (i := 155) rfl) rfl
theorem w_209 : Cond.fieldLink RX6 11 "ChainBooks$Sha" "text" "[B" ∈ lwT := tb1 (List.mem_of_getElem? (i := 156) rfl) rfl
theorem w_210 : Cond.fieldLink RX6 15 "ChainBooks$Sha" "schedule" "[I" ∈ lwT := tb1 (List.mem_of_getElem? (i := 158) rfl) rfl
theorem w_211 : Cond.fieldLink RX6 19 "ChainBooks$Sha" "state" "[I" ∈ lwT := tb1 (List.mem_of_getElem? (i := 159) rfl) rfl
theorem w_212 : Cond.code yX6_init cX6_init 1 none ∈ lwT := tb1 (List.mem_of_getElem? (i := 154) rfl) rfl
theorem w_213 : Cond.instanceMethod yX6_init ∈ lwT := tb1 (List.mem_of_getElem? (i := 153) rfl) rfl
theorem w_214 : Cond.fieldLink RX5 22 "ChainBooks$Pages" "sha" "LChainBooks$Sha;" ∈ lwT := tb1 (List.mem_of_getElem? (i := 177) rfl) rfl
theorem w_215 : Cond.classLink RX5 26 "[[I" ∈ lwT := tb1 (List.mem_of_getElem? (i := 169) rfl) rfl
theorem w_216 : Cond.fieldLink RX5 28 "ChainBooks$Pages" "chain" "[[I" ∈ lwT := tb1 (List.mem_of_getElem? (i := 178) rfl) rfl
theorem w_217 : Cond.fieldLink RX5 31 "ChainBooks$Pages" "nodes" "[[I" ∈ lwT := tb1 (List.mem_of_getElem? (i := 180) rfl) rfl
theorem w_218 : Cond.arrayClass .boolean ∈ lwT := tb1 (List.mem_of_getElem? (i := 199) rfl) rfl
theorem w_219 : Cond.fieldLink RX5 34 "ChainBooks$Pages" "known" "[Z" ∈ lwT := tb1 (List.mem_of_getElem? (i := 181) rfl) rfl
theorem w_220 : Cond.code yX5_init cX5_init 1 none ∈ lwT := tb1 (List.mem_of_getElem? (i := 148) rfl) rfl
theorem w_221 : Cond.fieldLink RX5 46 "ChainBooks$Ledger" "start" "[I" ∈ lwT := tb1 (List.mem_of_getElem? (i := 81) rfl) rfl
theorem w_222 : Cond.fieldLink RX5 49 "ChainBooks$Ledger" "entries" "I" ∈ lwT := tb1 (List.mem_of_getElem? (i := 95) rfl) rfl
theorem w_223 : Cond.fieldLink RX5 50 "ChainBooks$Ledger" "made" "[B" ∈ lwT := tb1 (List.mem_of_getElem? (i := 76) rfl) rfl
theorem w_224 : Cond.methodLink RX5 53 arraycopyName ∈ lwT := tb2 (List.mem_of_getElem? (i := 120) rfl) rfl
theorem w_225 : Cond.code yX5_follow cX5_follow 4 none ∈ lwT := tb2 (List.mem_of_getElem? (i := 115) rfl) rfl
theorem w_226 : Cond.code yX5_entryWith cX5_entryWith 3 (some .int) ∈ lwT := tb3 (List.mem_of_getElem? (i := 37) rfl) rfl
theorem w_227 : Cond.methodLink RX5 59 yX5_entryWith ∈ lwT := tb3 (List.mem_of_getElem? (i := 34) rfl) rfl
theorem w_228 : Cond.instanceMethod yX5_entryWith ∈ lwT := tb3 (List.mem_of_getElem? (i := 35) rfl) rfl
theorem w_229 : Cond.selects yX5_entryWith.cls yX5_entryWith yX5_entryWith ∈ lwT := tb3 (List.mem_of_getElem? (i := 36) rfl) rfl
theorem w_230 : Cond.fieldLink RX5 63 "ChainBooks$Pages" "chained" "I" ∈ lwT := tb1 (List.mem_of_getElem? (i := 179) rfl) rfl
theorem w_231 : Cond.methodLink RX5 66 Lib.Math.min.name ∈ lwT := tb3 (List.mem_of_getElem? (i := 38) rfl) rfl
theorem w_232 : Cond.static Lib.Math.min.name ∈ lwT := tb3 (List.mem_of_getElem? (i := 39) rfl) rfl
theorem w_233 : Cond.initialized "java/lang/Math" ∈ lwT := tb1 (List.mem_of_getElem? (i := 12) rfl) rfl
theorem w_234 : Cond.code Lib.Math.min.name Lib.Math.min.code 2 (some .int) ∈ lwT := tb3 (List.mem_of_getElem? (i := 40) rfl) rfl
theorem w_235 : Cond.code yX5_flip cX5_flip 5 none ∈ lwT := tb3 (List.mem_of_getElem? (i := 33) rfl) rfl
theorem w_236 : Cond.methodLink RX5 86 Lib.Math.max.name ∈ lwT := tb3 (List.mem_of_getElem? (i := 87) rfl) rfl
theorem w_237 : Cond.static Lib.Math.max.name ∈ lwT := tb3 (List.mem_of_getElem? (i := 88) rfl) rfl
theorem w_238 : Cond.code Lib.Math.max.name Lib.Math.max.code 2 (some .int) ∈ lwT := tb3 (List.mem_of_getElem? (i := 89) rfl) rfl
theorem w_239 : Cond.fieldLink RX6 22 "ChainBooks$Sha" "size" "I" ∈ lwT := tb1 (List.mem_of_getElem? (i := 157) rfl) rfl
theorem w_240 : Cond.code yX6_begin cX6_begin 1 none ∈ lwT := tb3 (List.mem_of_getElem? (i := 52) rfl) rfl
theorem w_241 : Cond.methodLink RX5 72 yX6_begin ∈ lwT := tb3 (List.mem_of_getElem? (i := 49) rfl) rfl
theorem w_242 : Cond.instanceMethod yX6_begin ∈ lwT := tb3 (List.mem_of_getElem? (i := 50) rfl) rfl
theorem w_243 : Cond.selects yX6_begin.cls yX6_begin yX6_begin ∈ lwT := tb3 (List.mem_of_getElem? (i := 51) rfl) rfl
theorem w_244 : Cond.code yX8_byteOf cX8_byteOf 2 (some .int) ∈ lwT := tb3 (List.mem_of_getElem? (i := 59) rfl) rfl
theorem w_245 : Cond.static yX8_byteOf ∈ lwT := tb3 (List.mem_of_getElem? (i := 58) rfl) rfl
theorem w_246 : Cond.code yX6_add cX6_add 2 none ∈ lwT := tb3 (List.mem_of_getElem? (i := 63) rfl) rfl
theorem w_247 : Cond.methodLink RX6 26 yX6_add ∈ lwT := tb3 (List.mem_of_getElem? (i := 60) rfl) rfl
theorem w_248 : Cond.instanceMethod yX6_add ∈ lwT := tb3 (List.mem_of_getElem? (i := 61) rfl) rfl
theorem w_249 : Cond.selects yX6_add.cls yX6_add yX6_add ∈ lwT := tb3 (List.mem_of_getElem? (i := 62) rfl) rfl
theorem w_250 : Cond.code yX6_addHash cX6_addHash 3 none ∈ lwT := tb3 (List.mem_of_getElem? (i := 56) rfl) rfl
theorem w_251 : Cond.methodLink RX5 75 yX6_addHash ∈ lwT := tb3 (List.mem_of_getElem? (i := 53) rfl) rfl
theorem w_252 : Cond.instanceMethod yX6_addHash ∈ lwT := tb3 (List.mem_of_getElem? (i := 54) rfl) rfl
theorem w_253 : Cond.selects yX6_addHash.cls yX6_addHash yX6_addHash ∈ lwT := tb3 (List.mem_of_getElem? (i := 55) rfl) rfl
theorem w_254 : Cond.code yX6_addBytes cX6_addBytes 5 none ∈ lwT := tb3 (List.mem_of_getElem? (i := 67) rfl) rfl
theorem w_255 : Cond.methodLink RX5 79 yX6_addBytes ∈ lwT := tb3 (List.mem_of_getElem? (i := 64) rfl) rfl
theorem w_256 : Cond.instanceMethod yX6_addBytes ∈ lwT := tb3 (List.mem_of_getElem? (i := 65) rfl) rfl
theorem w_257 : Cond.selects yX6_addBytes.cls yX6_addBytes yX6_addBytes ∈ lwT := tb3 (List.mem_of_getElem? (i := 66) rfl) rfl
theorem w_258 : Cond.code yX8_copyHash cX8_copyHash 3 none ∈ lwT := tb3 (List.mem_of_getElem? (i := 76) rfl) rfl
theorem w_259 : Cond.static yX8_copyHash ∈ lwT := tb3 (List.mem_of_getElem? (i := 75) rfl) rfl
theorem w_260 : Cond.code yX6_readSchedule cX6_readSchedule 5 none ∈ lwT := tb3 (List.mem_of_getElem? (i := 80) rfl) rfl
theorem w_261 : Cond.methodLink RX6 51 yX6_readSchedule ∈ lwT := tb3 (List.mem_of_getElem? (i := 77) rfl) rfl
theorem w_262 : Cond.instanceMethod yX6_readSchedule ∈ lwT := tb3 (List.mem_of_getElem? (i := 79) rfl) rfl
theorem w_263 : Cond.selects yX6_readSchedule.cls yX6_readSchedule yX6_readSchedule ∈ lwT := tb0 (List.mem_of_getElem? (i := 13) rfl) rfl
theorem w_264 : Cond.fieldLink RX6 57 "ChainBooks$Sha" "ROUND" "[I" ∈ lwT := tb3 (List.mem_of_getElem? (i := 85) rfl) rfl
theorem w_265 : Cond.code yX6_mix cX6_mix 12 none ∈ lwT := tb3 (List.mem_of_getElem? (i := 84) rfl) rfl
theorem w_266 : Cond.methodLink RX6 54 yX6_mix ∈ lwT := tb3 (List.mem_of_getElem? (i := 81) rfl) rfl
theorem w_267 : Cond.instanceMethod yX6_mix ∈ lwT := tb3 (List.mem_of_getElem? (i := 83) rfl) rfl
theorem w_268 : Cond.selects yX6_mix.cls yX6_mix yX6_mix ∈ lwT := tb0 (List.mem_of_getElem? (i := 14) rfl) rfl
theorem w_269 : Cond.fieldLink RX6 44 "ChainBooks$Sha" "FIRST" "[I" ∈ lwT := tb3 (List.mem_of_getElem? (i := 72) rfl) rfl
theorem w_270 : Cond.code yX6_end cX6_end 5 none ∈ lwT := tb3 (List.mem_of_getElem? (i := 71) rfl) rfl
theorem w_271 : Cond.methodLink RX5 83 yX6_end ∈ lwT := tb3 (List.mem_of_getElem? (i := 68) rfl) rfl
theorem w_272 : Cond.instanceMethod yX6_end ∈ lwT := tb3 (List.mem_of_getElem? (i := 69) rfl) rfl
theorem w_273 : Cond.selects yX6_end.cls yX6_end yX6_end ∈ lwT := tb3 (List.mem_of_getElem? (i := 70) rfl) rfl
theorem w_274 : Cond.code yX5_chainBehind cX5_chainBehind 3 (some (.array .int)) ∈ lwT := tb3 (List.mem_of_getElem? (i := 48) rfl) rfl
theorem w_275 : Cond.methodLink RX5 105 yX6_add ∈ lwT := tb3 (List.mem_of_getElem? (i := 110) rfl) rfl
theorem w_276 : Cond.methodLink RX6 34 yX6_begin ∈ lwT := tb3 (List.mem_of_getElem? (i := 107) rfl) rfl
theorem w_277 : Cond.methodLink RX6 37 yX6_addHash ∈ lwT := tb3 (List.mem_of_getElem? (i := 108) rfl) rfl
theorem w_278 : Cond.methodLink RX6 41 yX6_end ∈ lwT := tb3 (List.mem_of_getElem? (i := 109) rfl) rfl
theorem w_279 : Cond.code yX6_join cX6_join 4 none ∈ lwT := tb3 (List.mem_of_getElem? (i := 106) rfl) rfl
theorem w_280 : Cond.methodLink RX5 97 yX6_join ∈ lwT := tb3 (List.mem_of_getElem? (i := 103) rfl) rfl
theorem w_281 : Cond.instanceMethod yX6_join ∈ lwT := tb3 (List.mem_of_getElem? (i := 104) rfl) rfl
theorem w_282 : Cond.selects yX6_join.cls yX6_join yX6_join ∈ lwT := tb3 (List.mem_of_getElem? (i := 105) rfl) rfl
theorem w_283 : Cond.code yX5_learn cX5_learn 2 none ∈ lwT := tb3 (List.mem_of_getElem? (i := 102) rfl) rfl
theorem w_284 : Cond.methodLink RX5 101 yX5_learn ∈ lwT := tb3 (List.mem_of_getElem? (i := 99) rfl) rfl
theorem w_285 : Cond.instanceMethod yX5_learn ∈ lwT := tb3 (List.mem_of_getElem? (i := 101) rfl) rfl
theorem w_286 : Cond.selects yX5_learn.cls yX5_learn yX5_learn ∈ lwT := tb0 (List.mem_of_getElem? (i := 16) rfl) rfl
theorem w_287 : Cond.code yX5_nodeOf cX5_nodeOf 7 (some (.array .int)) ∈ lwT := tb3 (List.mem_of_getElem? (i := 98) rfl) rfl
theorem w_288 : Cond.methodLink RX5 89 yX5_nodeOf ∈ lwT := tb3 (List.mem_of_getElem? (i := 95) rfl) rfl
theorem w_289 : Cond.instanceMethod yX5_nodeOf ∈ lwT := tb3 (List.mem_of_getElem? (i := 97) rfl) rfl
theorem w_290 : Cond.selects yX5_nodeOf.cls yX5_nodeOf yX5_nodeOf ∈ lwT := tb0 (List.mem_of_getElem? (i := 15) rfl) rfl
theorem w_291 : Cond.code yX5_leafOf cX5_leafOf 2 (some (.array .int)) ∈ lwT := tb3 (List.mem_of_getElem? (i := 115) rfl) rfl
theorem w_292 : Cond.code yX5_treeOf cX5_treeOf 7 none ∈ lwT := tb3 (List.mem_of_getElem? (i := 94) rfl) rfl
theorem w_293 : Cond.methodLink RX7 3 Lib.objectInit ∈ lwT := tb1 (List.mem_of_getElem? (i := 226) rfl) rfl
theorem w_294 : Cond.classLink RX7 9 "[[I" ∈ lwT := tb1 (List.mem_of_getElem? (i := 227) rfl) rfl
theorem w_295 : Cond.fieldLink RX7 11 "ChainBooks$Trail" "hashes" "[[I" ∈ lwT := tb1 (List.mem_of_getElem? (i := 230) rfl) rfl
theorem w_296 : Cond.fieldLink RX7 16 "ChainBooks$Trail" "wentRight" "[Z" ∈ lwT := tb2 (List.mem_of_getElem? (i := 2) rfl) rfl
theorem w_297 : Cond.fieldLink RX7 20 "ChainBooks$Trail" "asideFirst" "[I" ∈ lwT := tb2 (List.mem_of_getElem? (i := 3) rfl) rfl
theorem w_298 : Cond.fieldLink RX7 24 "ChainBooks$Trail" "asideSize" "[I" ∈ lwT := tb2 (List.mem_of_getElem? (i := 4) rfl) rfl
theorem w_299 : Cond.classLink RX7 27 RX6 ∈ lwT := tb1 (List.mem_of_getElem? (i := 228) rfl) rfl
theorem w_300 : Cond.fieldLink RX7 30 "ChainBooks$Trail" "sha" "LChainBooks$Sha;" ∈ lwT := tb2 (List.mem_of_getElem? (i := 8) rfl) rfl
theorem w_301 : Cond.fieldLink RX7 34 "ChainBooks$Trail" "older" "[I" ∈ lwT := tb2 (List.mem_of_getElem? (i := 9) rfl) rfl
theorem w_302 : Cond.fieldLink RX7 37 "ChainBooks$Trail" "newer" "[I" ∈ lwT := tb2 (List.mem_of_getElem? (i := 10) rfl) rfl
theorem w_303 : Cond.code yX7_init cX7_init 1 none ∈ lwT := tb1 (List.mem_of_getElem? (i := 225) rfl) rfl
theorem w_304 : Cond.fieldLink RX7 54 "ChainBooks$Trail" "steps" "I" ∈ lwT := tb1 (List.mem_of_getElem? (i := 232) rfl) rfl
theorem w_305 : Cond.methodLink RX7 71 yX5_treeOf ∈ lwT := tb3 (List.mem_of_getElem? (i := 151) rfl) rfl
theorem w_306 : Cond.instanceMethod yX5_treeOf ∈ lwT := tb3 (List.mem_of_getElem? (i := 92) rfl) rfl
theorem w_307 : Cond.selects yX5_treeOf.cls yX5_treeOf yX5_treeOf ∈ lwT := tb3 (List.mem_of_getElem? (i := 93) rfl) rfl
theorem w_308 : Cond.fieldLink RX7 77 "ChainBooks$Trail" "turns" "I" ∈ lwT := tb2 (List.mem_of_getElem? (i := 5) rfl) rfl
theorem w_309 : Cond.fieldLink RX7 68 "ChainBooks$Trail" "endSize" "I" ∈ lwT := tb2 (List.mem_of_getElem? (i := 7) rfl) rfl
theorem w_310 : Cond.fieldLink RX7 65 "ChainBooks$Trail" "endFirst" "I" ∈ lwT := tb2 (List.mem_of_getElem? (i := 6) rfl) rfl
theorem w_311 : Cond.fieldLink RX7 44 "ChainBooks$Trail" "isProof" "Z" ∈ lwT := tb1 (List.mem_of_getElem? (i := 236) rfl) rfl
theorem w_312 : Cond.code yX7_isEnd cX7_isEnd 2 (some .boolean) ∈ lwT := tb3 (List.mem_of_getElem? (i := 143) rfl) rfl
theorem w_313 : Cond.methodLink RX7 93 yX7_isEnd ∈ lwT := tb3 (List.mem_of_getElem? (i := 140) rfl) rfl
theorem w_314 : Cond.instanceMethod yX7_isEnd ∈ lwT := tb3 (List.mem_of_getElem? (i := 142) rfl) rfl
theorem w_315 : Cond.selects yX7_isEnd.cls yX7_isEnd yX7_isEnd ∈ lwT := tb0 (List.mem_of_getElem? (i := 18) rfl) rfl
theorem w_316 : Cond.code yX7_powerBelow cX7_powerBelow 3 (some .int) ∈ lwT := tb3 (List.mem_of_getElem? (i := 146) rfl) rfl
theorem w_317 : Cond.static yX7_powerBelow ∈ lwT := tb3 (List.mem_of_getElem? (i := 145) rfl) rfl
theorem w_318 : Cond.methodLink RX7 97 yX7_powerBelow ∈ lwT := tb3 (List.mem_of_getElem? (i := 144) rfl) rfl
theorem w_319 : Cond.fieldLink RX7 51 "ChainBooks$Trail" "till" "I" ∈ lwT := tb2 (List.mem_of_getElem? (i := 0) rfl) rfl
theorem w_320 : Cond.code yX7_goDown cX7_goDown 4 none ∈ lwT := tb3 (List.mem_of_getElem? (i := 139) rfl) rfl
theorem w_321 : Cond.methodLink RX7 57 yX7_goDown ∈ lwT := tb3 (List.mem_of_getElem? (i := 136) rfl) rfl
theorem w_322 : Cond.instanceMethod yX7_goDown ∈ lwT := tb3 (List.mem_of_getElem? (i := 138) rfl) rfl
theorem w_323 : Cond.selects yX7_goDown.cls yX7_goDown yX7_goDown ∈ lwT := tb0 (List.mem_of_getElem? (i := 17) rfl) rfl
theorem w_324 : Cond.code yX7_hasOwnBeginning cX7_hasOwnBeginning 1 (some .boolean) ∈ lwT := tb3 (List.mem_of_getElem? (i := 150) rfl) rfl
theorem w_325 : Cond.methodLink RX7 61 yX7_hasOwnBeginning ∈ lwT := tb3 (List.mem_of_getElem? (i := 147) rfl) rfl
theorem w_326 : Cond.instanceMethod yX7_hasOwnBeginning ∈ lwT := tb3 (List.mem_of_getElem? (i := 149) rfl) rfl
theorem w_327 : Cond.selects yX7_hasOwnBeginning.cls yX7_hasOwnBeginning yX7_hasOwnBeginning ∈ lwT := tb0 (List.mem_of_getElem? (i := 19) rfl) rfl
theorem w_328 : Cond.fieldLink RX7 40 "ChainBooks$Trail" "isMade" "Z" ∈ lwT := tb1 (List.mem_of_getElem? (i := 234) rfl) rfl
theorem w_329 : Cond.fieldLink RX7 47 "ChainBooks$Trail" "from" "I" ∈ lwT := tb1 (List.mem_of_getElem? (i := 238) rfl) rfl
theorem w_330 : Cond.code yX7_make cX7_make 6 none ∈ lwT := tb3 (List.mem_of_getElem? (i := 135) rfl) rfl
theorem w_331 : Cond.methodLink RX7 105 yX6_join ∈ lwT := tb3 (List.mem_of_getElem? (i := 177) rfl) rfl
theorem w_332 : Cond.code yX7_goUp cX7_goUp 4 none ∈ lwT := tb3 (List.mem_of_getElem? (i := 175) rfl) rfl
theorem w_333 : Cond.methodLink RX7 80 yX7_goUp ∈ lwT := tb3 (List.mem_of_getElem? (i := 172) rfl) rfl
theorem w_334 : Cond.instanceMethod yX7_goUp ∈ lwT := tb3 (List.mem_of_getElem? (i := 174) rfl) rfl
theorem w_335 : Cond.selects yX7_goUp.cls yX7_goUp yX7_goUp ∈ lwT := tb0 (List.mem_of_getElem? (i := 21) rfl) rfl
theorem w_336 : Cond.fieldLink RX7 84 "ChainBooks$Head" "tree" "[I" ∈ lwT := tb1 (List.mem_of_getElem? (i := 210) rfl) rfl
theorem w_337 : Cond.code yX8_sameHash cX8_sameHash 3 (some .boolean) ∈ lwT := tb3 (List.mem_of_getElem? (i := 127) rfl) rfl
theorem w_338 : Cond.static yX8_sameHash ∈ lwT := tb3 (List.mem_of_getElem? (i := 126) rfl) rfl
theorem w_339 : Cond.code yX7_reaches cX7_reaches 3 (some .boolean) ∈ lwT := tb3 (List.mem_of_getElem? (i := 185) rfl) rfl
theorem w_340 : Cond.code yX7_joins cX7_joins 3 (some .boolean) ∈ lwT := tb3 (List.mem_of_getElem? (i := 171) rfl) rfl
theorem w_341 : Cond.classLink RX8 41 RX7 ∈ lwT := tb1 (List.mem_of_getElem? (i := 221) rfl) rfl
theorem w_342 : Cond.instanceMethod yX7_init ∈ lwT := tb1 (List.mem_of_getElem? (i := 224) rfl) rfl
theorem w_343 : Cond.fieldLink RX8 44 "ChainBooks" "trail" "LChainBooks$Trail;" ∈ lwT := tb2 (List.mem_of_getElem? (i := 64) rfl) rfl
theorem w_344 : Cond.classLink RX8 48 RX0 ∈ lwT := tb2 (List.mem_of_getElem? (i := 42) rfl) rfl
theorem w_345 : Cond.instanceMethod yX0_init ∈ lwT := tb2 (List.mem_of_getElem? (i := 45) rfl) rfl
theorem w_346 : Cond.fieldLink RX8 51 "ChainBooks" "auditor" "LChainBooks$Auditor;" ∈ lwT := tb2 (List.mem_of_getElem? (i := 65) rfl) rfl
theorem w_347 : Cond.fieldLink RX8 55 "ChainBooks" "spareHash" "[I" ∈ lwT := tb2 (List.mem_of_getElem? (i := 66) rfl) rfl
theorem w_348 : Cond.fieldLink RX8 36 "ChainBooks" "heads" "[LChainBooks$Head;" ∈ lwT := tb2 (List.mem_of_getElem? (i := 63) rfl) rfl
theorem w_349 : Cond.classLink RX8 34 RX2 ∈ lwT := tb1 (List.mem_of_getElem? (i := 200) rfl) rfl
theorem w_350 : Cond.instanceMethod yX2_init ∈ lwT := tb1 (List.mem_of_getElem? (i := 204) rfl) rfl
theorem w_351 : Cond.classLink RX8 27 RX5 ∈ lwT := tb1 (List.mem_of_getElem? (i := 144) rfl) rfl
theorem w_352 : Cond.instanceMethod yX5_init ∈ lwT := tb1 (List.mem_of_getElem? (i := 147) rfl) rfl
theorem w_353 : Cond.fieldLink RX8 30 "ChainBooks" "pages" "LChainBooks$Pages;" ∈ lwT := tb2 (List.mem_of_getElem? (i := 62) rfl) rfl
theorem w_354 : Cond.fieldLink RX8 23 "ChainBooks" "everyTold" "[I" ∈ lwT := tb2 (List.mem_of_getElem? (i := 61) rfl) rfl
theorem w_355 : Cond.methodLink RX8 3 Lib.objectInit ∈ lwT := tb1 (List.mem_of_getElem? (i := 18) rfl) rfl
theorem w_356 : Cond.classLink RX8 9 RX3 ∈ lwT := tb1 (List.mem_of_getElem? (i := 21) rfl) rfl
theorem w_357 : Cond.fieldLink RX8 12 "ChainBooks" "ledger" "LChainBooks$Ledger;" ∈ lwT := tb2 (List.mem_of_getElem? (i := 59) rfl) rfl
theorem w_358 : Cond.classLink RX8 16 RX4 ∈ lwT := tb1 (List.mem_of_getElem? (i := 142) rfl) rfl
theorem w_359 : Cond.fieldLink RX8 19 "ChainBooks" "told" "LChainBooks$Legs;" ∈ lwT := tb2 (List.mem_of_getElem? (i := 60) rfl) rfl
theorem w_360 : Cond.code yX8_init cX8_init 2 none ∈ lwT := tb1 (List.mem_of_getElem? (i := 17) rfl) rfl
theorem w_361 : Cond.methodLink RX8 58 yX3_addAccount ∈ lwT := tb2 (List.mem_of_getElem? (i := 88) rfl) rfl
theorem w_362 : Cond.methodLink RX8 238 yX5_follow ∈ lwT := tb2 (List.mem_of_getElem? (i := 112) rfl) rfl
theorem w_363 : Cond.instanceMethod yX5_follow ∈ lwT := tb2 (List.mem_of_getElem? (i := 113) rfl) rfl
theorem w_364 : Cond.selects yX5_follow.cls yX5_follow yX5_follow ∈ lwT := tb2 (List.mem_of_getElem? (i := 114) rfl) rfl
theorem w_365 : Cond.code yX8_written cX8_written 2 (some .int) ∈ lwT := tb2 (List.mem_of_getElem? (i := 111) rfl) rfl
theorem w_366 : Cond.methodLink RX8 62 yX8_written ∈ lwT := tb2 (List.mem_of_getElem? (i := 108) rfl) rfl
theorem w_367 : Cond.instanceMethod yX8_written ∈ lwT := tb2 (List.mem_of_getElem? (i := 110) rfl) rfl
theorem w_368 : Cond.selects yX8_written.cls yX8_written yX8_written ∈ lwT := tb0 (List.mem_of_getElem? (i := 1) rfl) rfl
theorem w_369 : Cond.code yX8_open cX8_open 3 (some .int) ∈ lwT := tb2 (List.mem_of_getElem? (i := 87) rfl) rfl
theorem w_370 : Cond.methodLink RX8 66 yX4_add ∈ lwT := tb2 (List.mem_of_getElem? (i := 125) rfl) rfl
theorem w_371 : Cond.fieldLink RX8 70 "ChainBooks$Legs" "size" "I" ∈ lwT := tb1 (List.mem_of_getElem? (i := 56) rfl) rfl
theorem w_372 : Cond.code yX8_leg cX8_leg 4 (some .int) ∈ lwT := tb2 (List.mem_of_getElem? (i := 124) rfl) rfl
theorem w_373 : Cond.code yX8_clear cX8_clear 2 (some .int) ∈ lwT := tb2 (List.mem_of_getElem? (i := 136) rfl) rfl
theorem w_374 : Cond.methodLink RX8 74 yX3_addPost ∈ lwT := tb2 (List.mem_of_getElem? (i := 141) rfl) rfl
theorem w_375 : Cond.code yX8_post cX8_post 4 (some .int) ∈ lwT := tb2 (List.mem_of_getElem? (i := 140) rfl) rfl
theorem w_376 : Cond.methodLink RX8 78 yX3_addHold ∈ lwT := tb2 (List.mem_of_getElem? (i := 187) rfl) rfl
theorem w_377 : Cond.code yX8_hold cX8_hold 6 (some .int) ∈ lwT := tb2 (List.mem_of_getElem? (i := 186) rfl) rfl
theorem w_378 : Cond.methodLink RX8 82 yX3_addRelease ∈ lwT := tb2 (List.mem_of_getElem? (i := 196) rfl) rfl
theorem w_379 : Cond.code yX8_release cX8_release 2 (some .int) ∈ lwT := tb2 (List.mem_of_getElem? (i := 195) rfl) rfl
theorem w_380 : Cond.methodLink RX8 85 yX3_addCapture ∈ lwT := tb2 (List.mem_of_getElem? (i := 227) rfl) rfl
theorem w_381 : Cond.code yX8_capture cX8_capture 7 (some .int) ∈ lwT := tb2 (List.mem_of_getElem? (i := 226) rfl) rfl
theorem w_382 : Cond.methodLink RX8 89 yX3_addReversal ∈ lwT := tb2 (List.mem_of_getElem? (i := 236) rfl) rfl
theorem w_383 : Cond.code yX8_reverse cX8_reverse 4 (some .int) ∈ lwT := tb2 (List.mem_of_getElem? (i := 235) rfl) rfl
theorem w_384 : Cond.fieldLink RX8 93 "ChainBooks$Ledger" "every" "I" ∈ lwT := tb1 (List.mem_of_getElem? (i := 102) rfl) rfl
theorem w_385 : Cond.methodLink RX8 96 yX3_startEvery ∈ lwT := tb3 (List.mem_of_getElem? (i := 4) rfl) rfl
theorem w_386 : Cond.fieldLink RX8 100 "ChainBooks$Ledger" "entries" "I" ∈ lwT := tb1 (List.mem_of_getElem? (i := 96) rfl) rfl
theorem w_387 : Cond.code yX8_every cX8_every 3 (some .int) ∈ lwT := tb3 (List.mem_of_getElem? (i := 3) rfl) rfl
theorem w_388 : Cond.fieldLink RX8 103 "ChainBooks$Ledger" "accounts" "I" ∈ lwT := tb1 (List.mem_of_getElem? (i := 74) rfl) rfl
theorem w_389 : Cond.fieldLink RX8 108 "ChainBooks$Ledger" "balance" "[J" ∈ lwT := tb1 (List.mem_of_getElem? (i := 69) rfl) rfl
theorem w_390 : Cond.fieldLink RX8 112 "ChainBooks$Ledger" "held" "[J" ∈ lwT := tb1 (List.mem_of_getElem? (i := 71) rfl) rfl
theorem w_391 : Cond.fieldLink RX8 115 "ChainBooks$Ledger" "floor" "[J" ∈ lwT := tb1 (List.mem_of_getElem? (i := 67) rfl) rfl
theorem w_392 : Cond.code yX8_account cX8_account 3 (some .long) ∈ lwT := tb3 (List.mem_of_getElem? (i := 11) rfl) rfl
theorem w_393 : Cond.methodLink RX8 118 yX3_kindOf ∈ lwT := tb3 (List.mem_of_getElem? (i := 16) rfl) rfl
theorem w_394 : Cond.fieldLink RX8 121 "ChainBooks$Ledger" "start" "[I" ∈ lwT := tb1 (List.mem_of_getElem? (i := 82) rfl) rfl
theorem w_395 : Cond.fieldLink RX8 124 "ChainBooks$Ledger" "keys" "[J" ∈ lwT := tb1 (List.mem_of_getElem? (i := 84) rfl) rfl
theorem w_396 : Cond.fieldLink RX8 127 "ChainBooks$Ledger" "legCount" "[I" ∈ lwT := tb1 (List.mem_of_getElem? (i := 88) rfl) rfl
theorem w_397 : Cond.fieldLink RX8 130 "ChainBooks$Ledger" "endedBy" "[I" ∈ lwT := tb1 (List.mem_of_getElem? (i := 86) rfl) rfl
theorem w_398 : Cond.fieldLink RX8 245 "ChainBooks$Ledger" "legAmount" "[J" ∈ lwT := tb1 (List.mem_of_getElem? (i := 92) rfl) rfl
theorem w_399 : Cond.fieldLink RX8 242 "ChainBooks$Ledger" "legAccount" "[I" ∈ lwT := tb1 (List.mem_of_getElem? (i := 90) rfl) rfl
theorem w_400 : Cond.code yX8_legOf cX8_legOf 4 (some .long) ∈ lwT := tb3 (List.mem_of_getElem? (i := 20) rfl) rfl
theorem w_401 : Cond.methodLink RX8 133 yX8_legOf ∈ lwT := tb3 (List.mem_of_getElem? (i := 17) rfl) rfl
theorem w_402 : Cond.instanceMethod yX8_legOf ∈ lwT := tb3 (List.mem_of_getElem? (i := 19) rfl) rfl
theorem w_403 : Cond.selects yX8_legOf.cls yX8_legOf yX8_legOf ∈ lwT := tb0 (List.mem_of_getElem? (i := 12) rfl) rfl
theorem w_404 : Cond.code yX8_entry cX8_entry 3 (some .long) ∈ lwT := tb3 (List.mem_of_getElem? (i := 15) rfl) rfl
theorem w_405 : Cond.methodLink RX8 137 yX5_size ∈ lwT := tb3 (List.mem_of_getElem? (i := 25) rfl) rfl
theorem w_406 : Cond.fieldLink RX8 140 "ChainBooks$Pages" "now" "[B" ∈ lwT := tb1 (List.mem_of_getElem? (i := 173) rfl) rfl
theorem w_407 : Cond.code yX8_data cX8_data 2 (some .int) ∈ lwT := tb3 (List.mem_of_getElem? (i := 24) rfl) rfl
theorem w_408 : Cond.methodLink RX8 144 yX5_flip ∈ lwT := tb3 (List.mem_of_getElem? (i := 30) rfl) rfl
theorem w_409 : Cond.instanceMethod yX5_flip ∈ lwT := tb3 (List.mem_of_getElem? (i := 31) rfl) rfl
theorem w_410 : Cond.selects yX5_flip.cls yX5_flip yX5_flip ∈ lwT := tb3 (List.mem_of_getElem? (i := 32) rfl) rfl
theorem w_411 : Cond.code yX8_alter cX8_alter 3 (some .int) ∈ lwT := tb3 (List.mem_of_getElem? (i := 29) rfl) rfl
theorem w_412 : Cond.fieldLink RX8 148 "ChainBooks$Pages" "entries" "I" ∈ lwT := tb1 (List.mem_of_getElem? (i := 176) rfl) rfl
theorem w_413 : Cond.methodLink RX8 149 yX5_chainBehind ∈ lwT := tb3 (List.mem_of_getElem? (i := 45) rfl) rfl
theorem w_414 : Cond.instanceMethod yX5_chainBehind ∈ lwT := tb3 (List.mem_of_getElem? (i := 46) rfl) rfl
theorem w_415 : Cond.selects yX5_chainBehind.cls yX5_chainBehind yX5_chainBehind ∈ lwT := tb3 (List.mem_of_getElem? (i := 47) rfl) rfl
theorem w_416 : Cond.methodLink RX8 153 yX8_byteOf ∈ lwT := tb3 (List.mem_of_getElem? (i := 90) rfl) rfl
theorem w_417 : Cond.methodLink RX8 157 yX5_treeOf ∈ lwT := tb3 (List.mem_of_getElem? (i := 91) rfl) rfl
theorem w_418 : Cond.methodLink RX8 161 yX5_leafOf ∈ lwT := tb3 (List.mem_of_getElem? (i := 112) rfl) rfl
theorem w_419 : Cond.instanceMethod yX5_leafOf ∈ lwT := tb3 (List.mem_of_getElem? (i := 113) rfl) rfl
theorem w_420 : Cond.selects yX5_leafOf.cls yX5_leafOf yX5_leafOf ∈ lwT := tb3 (List.mem_of_getElem? (i := 114) rfl) rfl
theorem w_421 : Cond.code yX8_hash cX8_hash 4 (some .int) ∈ lwT := tb3 (List.mem_of_getElem? (i := 44) rfl) rfl
theorem w_422 : Cond.fieldLink RX8 164 "ChainBooks$Head" "entries" "I" ∈ lwT := tb1 (List.mem_of_getElem? (i := 213) rfl) rfl
theorem w_423 : Cond.fieldLink RX8 165 "ChainBooks$Head" "chain" "[I" ∈ lwT := tb1 (List.mem_of_getElem? (i := 208) rfl) rfl
theorem w_424 : Cond.methodLink RX8 168 yX8_copyHash ∈ lwT := tb3 (List.mem_of_getElem? (i := 120) rfl) rfl
theorem w_425 : Cond.fieldLink RX8 172 "ChainBooks$Head" "tree" "[I" ∈ lwT := tb1 (List.mem_of_getElem? (i := 211) rfl) rfl
theorem w_426 : Cond.code yX8_keep cX8_keep 3 (some .int) ∈ lwT := tb3 (List.mem_of_getElem? (i := 119) rfl) rfl
theorem w_427 : Cond.methodLink RX8 175 yX8_sameHash ∈ lwT := tb3 (List.mem_of_getElem? (i := 125) rfl) rfl
theorem w_428 : Cond.code yX8_verify cX8_verify 3 (some .int) ∈ lwT := tb3 (List.mem_of_getElem? (i := 124) rfl) rfl
theorem w_429 : Cond.methodLink RX8 179 yX7_make ∈ lwT := tb3 (List.mem_of_getElem? (i := 132) rfl) rfl
theorem w_430 : Cond.instanceMethod yX7_make ∈ lwT := tb3 (List.mem_of_getElem? (i := 133) rfl) rfl
theorem w_431 : Cond.selects yX7_make.cls yX7_make yX7_make ∈ lwT := tb3 (List.mem_of_getElem? (i := 134) rfl) rfl
theorem w_432 : Cond.fieldLink RX8 183 "ChainBooks$Trail" "steps" "I" ∈ lwT := tb1 (List.mem_of_getElem? (i := 233) rfl) rfl
theorem w_433 : Cond.code yX8_path cX8_path 3 (some .int) ∈ lwT := tb3 (List.mem_of_getElem? (i := 131) rfl) rfl
theorem w_434 : Cond.code yX8_proof cX8_proof 3 (some .int) ∈ lwT := tb3 (List.mem_of_getElem? (i := 155) rfl) rfl
theorem w_435 : Cond.fieldLink RX8 186 "ChainBooks$Trail" "hashes" "[[I" ∈ lwT := tb1 (List.mem_of_getElem? (i := 231) rfl) rfl
theorem w_436 : Cond.code yX8_step cX8_step 3 (some .int) ∈ lwT := tb3 (List.mem_of_getElem? (i := 159) rfl) rfl
theorem w_437 : Cond.fieldLink RX8 190 "ChainBooks$Trail" "isMade" "Z" ∈ lwT := tb1 (List.mem_of_getElem? (i := 235) rfl) rfl
theorem w_438 : Cond.fieldLink RX8 194 "ChainBooks$Trail" "till" "I" ∈ lwT := tb2 (List.mem_of_getElem? (i := 1) rfl) rfl
theorem w_439 : Cond.code yX8_isHeadOf cX8_isHeadOf 3 (some .boolean) ∈ lwT := tb3 (List.mem_of_getElem? (i := 167) rfl) rfl
theorem w_440 : Cond.methodLink RX8 197 yX8_isHeadOf ∈ lwT := tb3 (List.mem_of_getElem? (i := 164) rfl) rfl
theorem w_441 : Cond.instanceMethod yX8_isHeadOf ∈ lwT := tb3 (List.mem_of_getElem? (i := 166) rfl) rfl
theorem w_442 : Cond.selects yX8_isHeadOf.cls yX8_isHeadOf yX8_isHeadOf ∈ lwT := tb0 (List.mem_of_getElem? (i := 20) rfl) rfl
theorem w_443 : Cond.fieldLink RX8 201 "ChainBooks$Trail" "isProof" "Z" ∈ lwT := tb1 (List.mem_of_getElem? (i := 237) rfl) rfl
theorem w_444 : Cond.fieldLink RX8 204 "ChainBooks$Trail" "from" "I" ∈ lwT := tb1 (List.mem_of_getElem? (i := 239) rfl) rfl
theorem w_445 : Cond.methodLink RX8 215 yX7_reaches ∈ lwT := tb3 (List.mem_of_getElem? (i := 182) rfl) rfl
theorem w_446 : Cond.instanceMethod yX7_reaches ∈ lwT := tb3 (List.mem_of_getElem? (i := 183) rfl) rfl
theorem w_447 : Cond.selects yX7_reaches.cls yX7_reaches yX7_reaches ∈ lwT := tb3 (List.mem_of_getElem? (i := 184) rfl) rfl
theorem w_448 : Cond.code yX8_oneIf cX8_oneIf 1 (some .int) ∈ lwT := tb3 (List.mem_of_getElem? (i := 181) rfl) rfl
theorem w_449 : Cond.static yX8_oneIf ∈ lwT := tb3 (List.mem_of_getElem? (i := 180) rfl) rfl
theorem w_450 : Cond.methodLink RX8 211 yX8_oneIf ∈ lwT := tb3 (List.mem_of_getElem? (i := 179) rfl) rfl
theorem w_451 : Cond.methodLink RX8 207 yX7_joins ∈ lwT := tb3 (List.mem_of_getElem? (i := 168) rfl) rfl
theorem w_452 : Cond.instanceMethod yX7_joins ∈ lwT := tb3 (List.mem_of_getElem? (i := 169) rfl) rfl
theorem w_453 : Cond.selects yX7_joins.cls yX7_joins yX7_joins ∈ lwT := tb3 (List.mem_of_getElem? (i := 170) rfl) rfl
theorem w_454 : Cond.code yX8_leads cX8_leads 3 (some .int) ∈ lwT := tb3 (List.mem_of_getElem? (i := 163) rfl) rfl
theorem w_455 : Cond.fieldLink RX8 223 "ChainBooks$Ledger" "made" "[B" ∈ lwT := tb1 (List.mem_of_getElem? (i := 78) rfl) rfl
theorem w_456 : Cond.methodLink RX8 226 yX5_entryWith ∈ lwT := tb3 (List.mem_of_getElem? (i := 228) rfl) rfl
theorem w_457 : Cond.methodLink RX8 219 yX0_firstBad ∈ lwT := tb3 (List.mem_of_getElem? (i := 190) rfl) rfl
theorem w_458 : Cond.instanceMethod yX0_firstBad ∈ lwT := tb3 (List.mem_of_getElem? (i := 191) rfl) rfl
theorem w_459 : Cond.selects yX0_firstBad.cls yX0_firstBad yX0_firstBad ∈ lwT := tb3 (List.mem_of_getElem? (i := 192) rfl) rfl
theorem w_460 : Cond.code yX8_audit cX8_audit 3 (some .int) ∈ lwT := tb3 (List.mem_of_getElem? (i := 189) rfl) rfl
theorem w_461 : Cond.fieldLink RX8 229 "ChainBooks$Ledger" "holdsThere" "I" ∈ lwT := tb1 (List.mem_of_getElem? (i := 100) rfl) rfl
theorem w_462 : Cond.fieldLink RX8 232 "ChainBooks$Ledger" "sinceTrial" "I" ∈ lwT := tb1 (List.mem_of_getElem? (i := 104) rfl) rfl
theorem w_463 : Cond.code yX8_alteredBytes cX8_alteredBytes 3 (some .int) ∈ lwT := tb3 (List.mem_of_getElem? (i := 236) rfl) rfl
theorem w_464 : Cond.methodLink RX8 235 yX8_alteredBytes ∈ lwT := tb3 (List.mem_of_getElem? (i := 233) rfl) rfl
theorem w_465 : Cond.instanceMethod yX8_alteredBytes ∈ lwT := tb3 (List.mem_of_getElem? (i := 235) rfl) rfl
theorem w_466 : Cond.selects yX8_alteredBytes.cls yX8_alteredBytes yX8_alteredBytes ∈ lwT := tb0 (List.mem_of_getElem? (i := 26) rfl) rfl
theorem w_467 : Cond.code yX8_count cX8_count 2 (some .int) ∈ lwT := tb3 (List.mem_of_getElem? (i := 232) rfl) rfl
theorem w_468 : Cond.methodLink RX9 1 Lib.objectInit ∈ lwT := tb4 (List.mem_of_getElem? (i := 2) rfl) rfl
theorem w_469 : Cond.fieldLink RX9 7 "ChainBooksModel" "accounts" "[I" ∈ lwT := tb4 (List.mem_of_getElem? (i := 67) rfl) rfl
theorem w_470 : Cond.fieldLink RX9 13 "ChainBooksModel" "entries" "[I" ∈ lwT := tb4 (List.mem_of_getElem? (i := 68) rfl) rfl
theorem w_471 : Cond.fieldLink RX9 16 "ChainBooksModel" "every" "[I" ∈ lwT := tb4 (List.mem_of_getElem? (i := 69) rfl) rfl
theorem w_472 : Cond.fieldLink RX9 19 "ChainBooksModel" "since" "[I" ∈ lwT := tb4 (List.mem_of_getElem? (i := 70) rfl) rfl
theorem w_473 : Cond.fieldLink RX9 22 "ChainBooksModel" "isDue" "[Z" ∈ lwT := tb4 (List.mem_of_getElem? (i := 71) rfl) rfl
theorem w_474 : Cond.fieldLink RX9 26 "ChainBooksModel" "floor" "[J" ∈ lwT := tb4 (List.mem_of_getElem? (i := 72) rfl) rfl
theorem w_475 : Cond.fieldLink RX9 30 "ChainBooksModel" "balance" "[J" ∈ lwT := tb4 (List.mem_of_getElem? (i := 73) rfl) rfl
theorem w_476 : Cond.fieldLink RX9 33 "ChainBooksModel" "heldHigh" "[J" ∈ lwT := tb4 (List.mem_of_getElem? (i := 74) rfl) rfl
theorem w_477 : Cond.fieldLink RX9 36 "ChainBooksModel" "heldLow" "[J" ∈ lwT := tb4 (List.mem_of_getElem? (i := 75) rfl) rfl
theorem w_478 : Cond.fieldLink RX9 39 "ChainBooksModel" "kind" "[I" ∈ lwT := tb4 (List.mem_of_getElem? (i := 76) rfl) rfl
theorem w_479 : Cond.fieldLink RX9 42 "ChainBooksModel" "keys" "[J" ∈ lwT := tb4 (List.mem_of_getElem? (i := 77) rfl) rfl
theorem w_480 : Cond.fieldLink RX9 45 "ChainBooksModel" "legs" "[I" ∈ lwT := tb4 (List.mem_of_getElem? (i := 78) rfl) rfl
theorem w_481 : Cond.fieldLink RX9 48 "ChainBooksModel" "legAccount" "[I" ∈ lwT := tb4 (List.mem_of_getElem? (i := 79) rfl) rfl
theorem w_482 : Cond.fieldLink RX9 51 "ChainBooksModel" "legAmount" "[J" ∈ lwT := tb4 (List.mem_of_getElem? (i := 80) rfl) rfl
theorem w_483 : Cond.fieldLink RX9 54 "ChainBooksModel" "holdAccount" "[I" ∈ lwT := tb4 (List.mem_of_getElem? (i := 81) rfl) rfl
theorem w_484 : Cond.fieldLink RX9 57 "ChainBooksModel" "holdAmount" "[J" ∈ lwT := tb4 (List.mem_of_getElem? (i := 82) rfl) rfl
theorem w_485 : Cond.fieldLink RX9 60 "ChainBooksModel" "isThere" "[Z" ∈ lwT := tb4 (List.mem_of_getElem? (i := 83) rfl) rfl
theorem w_486 : Cond.fieldLink RX9 63 "ChainBooksModel" "endedBy" "[I" ∈ lwT := tb4 (List.mem_of_getElem? (i := 84) rfl) rfl
theorem w_487 : Cond.fieldLink RX9 66 "ChainBooksModel" "data" "[I" ∈ lwT := tb4 (List.mem_of_getElem? (i := 85) rfl) rfl
theorem w_488 : Cond.fieldLink RX9 69 "ChainBooksModel" "made" "[I" ∈ lwT := tb4 (List.mem_of_getElem? (i := 86) rfl) rfl
theorem w_489 : Cond.fieldLink RX9 72 "ChainBooksModel" "begin" "[I" ∈ lwT := tb4 (List.mem_of_getElem? (i := 88) rfl) rfl
theorem w_490 : Cond.fieldLink RX9 75 "ChainBooksModel" "size" "[I" ∈ lwT := tb4 (List.mem_of_getElem? (i := 89) rfl) rfl
theorem w_491 : Cond.fieldLink RX9 78 "ChainBooksModel" "toldAt" "[I" ∈ lwT := tb4 (List.mem_of_getElem? (i := 90) rfl) rfl
theorem w_492 : Cond.fieldLink RX9 81 "ChainBooksModel" "toldEvery" "[I" ∈ lwT := tb4 (List.mem_of_getElem? (i := 91) rfl) rfl
theorem w_493 : Cond.fieldLink RX9 84 "ChainBooksModel" "cLegAccount" "[I" ∈ lwT := tb4 (List.mem_of_getElem? (i := 99) rfl) rfl
theorem w_494 : Cond.fieldLink RX9 87 "ChainBooksModel" "cLegAmount" "[J" ∈ lwT := tb4 (List.mem_of_getElem? (i := 100) rfl) rfl
theorem w_495 : Cond.fieldLink RX9 90 "ChainBooksModel" "row" "[I" ∈ lwT := tb4 (List.mem_of_getElem? (i := 101) rfl) rfl
theorem w_496 : Cond.fieldLink RX9 93 "ChainBooksModel" "after" "[J" ∈ lwT := tb4 (List.mem_of_getElem? (i := 103) rfl) rfl
theorem w_497 : Cond.fieldLink RX9 96 "ChainBooksModel" "toldAccount" "[I" ∈ lwT := tb4 (List.mem_of_getElem? (i := 105) rfl) rfl
theorem w_498 : Cond.fieldLink RX9 99 "ChainBooksModel" "toldAmount" "[J" ∈ lwT := tb4 (List.mem_of_getElem? (i := 106) rfl) rfl
theorem w_499 : Cond.constant RX9 102 (1116352408) ∈ lwT := tb4 (List.mem_of_getElem? (i := 3) rfl) rfl
theorem w_500 : Cond.constant RX9 103 (1899447441) ∈ lwT := tb4 (List.mem_of_getElem? (i := 4) rfl) rfl
theorem w_501 : Cond.constant RX9 104 (-1245643825) ∈ lwT := tb4 (List.mem_of_getElem? (i := 5) rfl) rfl
theorem w_502 : Cond.constant RX9 105 (-373957723) ∈ lwT := tb4 (List.mem_of_getElem? (i := 6) rfl) rfl
theorem w_503 : Cond.constant RX9 106 (961987163) ∈ lwT := tb4 (List.mem_of_getElem? (i := 7) rfl) rfl
theorem w_504 : Cond.constant RX9 107 (1508970993) ∈ lwT := tb4 (List.mem_of_getElem? (i := 8) rfl) rfl
theorem w_505 : Cond.constant RX9 108 (-1841331548) ∈ lwT := tb4 (List.mem_of_getElem? (i := 9) rfl) rfl
theorem w_506 : Cond.constant RX9 109 (-1424204075) ∈ lwT := tb4 (List.mem_of_getElem? (i := 10) rfl) rfl
theorem w_507 : Cond.constant RX9 110 (-670586216) ∈ lwT := tb4 (List.mem_of_getElem? (i := 11) rfl) rfl
theorem w_508 : Cond.constant RX9 111 (310598401) ∈ lwT := tb4 (List.mem_of_getElem? (i := 12) rfl) rfl
theorem w_509 : Cond.constant RX9 112 (607225278) ∈ lwT := tb4 (List.mem_of_getElem? (i := 13) rfl) rfl
theorem w_510 : Cond.constant RX9 113 (1426881987) ∈ lwT := tb4 (List.mem_of_getElem? (i := 14) rfl) rfl
theorem w_511 : Cond.constant RX9 114 (1925078388) ∈ lwT := tb4 (List.mem_of_getElem? (i := 15) rfl) rfl
theorem w_512 : Cond.constant RX9 115 (-2132889090) ∈ lwT := tb4 (List.mem_of_getElem? (i := 16) rfl) rfl
theorem w_513 : Cond.constant RX9 116 (-1680079193) ∈ lwT := tb4 (List.mem_of_getElem? (i := 17) rfl) rfl
theorem w_514 : Cond.constant RX9 117 (-1046744716) ∈ lwT := tb4 (List.mem_of_getElem? (i := 18) rfl) rfl
theorem w_515 : Cond.constant RX9 118 (-459576895) ∈ lwT := tb4 (List.mem_of_getElem? (i := 19) rfl) rfl
theorem w_516 : Cond.constant RX9 119 (-272742522) ∈ lwT := tb4 (List.mem_of_getElem? (i := 20) rfl) rfl
theorem w_517 : Cond.constant RX9 120 (264347078) ∈ lwT := tb4 (List.mem_of_getElem? (i := 21) rfl) rfl
theorem w_518 : Cond.constant RX9 121 (604807628) ∈ lwT := tb4 (List.mem_of_getElem? (i := 22) rfl) rfl
theorem w_519 : Cond.constant RX9 122 (770255983) ∈ lwT := tb4 (List.mem_of_getElem? (i := 23) rfl) rfl
theorem w_520 : Cond.constant RX9 123 (1249150122) ∈ lwT := tb4 (List.mem_of_getElem? (i := 24) rfl) rfl
theorem w_521 : Cond.constant RX9 124 (1555081692) ∈ lwT := tb4 (List.mem_of_getElem? (i := 25) rfl) rfl
theorem w_522 : Cond.constant RX9 125 (1996064986) ∈ lwT := tb4 (List.mem_of_getElem? (i := 26) rfl) rfl
theorem w_523 : Cond.constant RX9 126 (-1740746414) ∈ lwT := tb4 (List.mem_of_getElem? (i := 27) rfl) rfl
theorem w_524 : Cond.constant RX9 127 (-1473132947) ∈ lwT := tb4 (List.mem_of_getElem? (i := 28) rfl) rfl
theorem w_525 : Cond.constant RX9 128 (-1341970488) ∈ lwT := tb4 (List.mem_of_getElem? (i := 29) rfl) rfl
theorem w_526 : Cond.constant RX9 129 (-1084653625) ∈ lwT := tb4 (List.mem_of_getElem? (i := 30) rfl) rfl
theorem w_527 : Cond.constant RX9 130 (-958395405) ∈ lwT := tb4 (List.mem_of_getElem? (i := 31) rfl) rfl
theorem w_528 : Cond.constant RX9 131 (-710438585) ∈ lwT := tb4 (List.mem_of_getElem? (i := 32) rfl) rfl
theorem w_529 : Cond.constant RX9 132 (113926993) ∈ lwT := tb4 (List.mem_of_getElem? (i := 33) rfl) rfl
theorem w_530 : Cond.constant RX9 133 (338241895) ∈ lwT := tb4 (List.mem_of_getElem? (i := 34) rfl) rfl
theorem w_531 : Cond.constant RX9 134 (666307205) ∈ lwT := tb4 (List.mem_of_getElem? (i := 35) rfl) rfl
theorem w_532 : Cond.constant RX9 135 (773529912) ∈ lwT := tb4 (List.mem_of_getElem? (i := 36) rfl) rfl
theorem w_533 : Cond.constant RX9 136 (1294757372) ∈ lwT := tb4 (List.mem_of_getElem? (i := 37) rfl) rfl
theorem w_534 : Cond.constant RX9 137 (1396182291) ∈ lwT := tb4 (List.mem_of_getElem? (i := 38) rfl) rfl
theorem w_535 : Cond.constant RX9 138 (1695183700) ∈ lwT := tb4 (List.mem_of_getElem? (i := 39) rfl) rfl
theorem w_536 : Cond.constant RX9 139 (1986661051) ∈ lwT := tb4 (List.mem_of_getElem? (i := 40) rfl) rfl
theorem w_537 : Cond.constant RX9 140 (-2117940946) ∈ lwT := tb4 (List.mem_of_getElem? (i := 41) rfl) rfl
theorem w_538 : Cond.constant RX9 141 (-1838011259) ∈ lwT := tb4 (List.mem_of_getElem? (i := 42) rfl) rfl
theorem w_539 : Cond.constant RX9 142 (-1564481375) ∈ lwT := tb4 (List.mem_of_getElem? (i := 43) rfl) rfl
theorem w_540 : Cond.constant RX9 143 (-1474664885) ∈ lwT := tb4 (List.mem_of_getElem? (i := 44) rfl) rfl
theorem w_541 : Cond.constant RX9 144 (-1035236496) ∈ lwT := tb4 (List.mem_of_getElem? (i := 45) rfl) rfl
theorem w_542 : Cond.constant RX9 145 (-949202525) ∈ lwT := tb4 (List.mem_of_getElem? (i := 46) rfl) rfl
theorem w_543 : Cond.constant RX9 146 (-778901479) ∈ lwT := tb4 (List.mem_of_getElem? (i := 47) rfl) rfl
theorem w_544 : Cond.constant RX9 147 (-694614492) ∈ lwT := tb4 (List.mem_of_getElem? (i := 48) rfl) rfl
theorem w_545 : Cond.constant RX9 148 (-200395387) ∈ lwT := tb4 (List.mem_of_getElem? (i := 49) rfl) rfl
theorem w_546 : Cond.constant RX9 149 (275423344) ∈ lwT := tb4 (List.mem_of_getElem? (i := 50) rfl) rfl
theorem w_547 : Cond.constant RX9 150 (430227734) ∈ lwT := tb4 (List.mem_of_getElem? (i := 51) rfl) rfl
theorem w_548 : Cond.constant RX9 151 (506948616) ∈ lwT := tb4 (List.mem_of_getElem? (i := 52) rfl) rfl
theorem w_549 : Cond.constant RX9 152 (659060556) ∈ lwT := tb4 (List.mem_of_getElem? (i := 53) rfl) rfl
theorem w_550 : Cond.constant RX9 153 (883997877) ∈ lwT := tb4 (List.mem_of_getElem? (i := 54) rfl) rfl
theorem w_551 : Cond.constant RX9 154 (958139571) ∈ lwT := tb4 (List.mem_of_getElem? (i := 55) rfl) rfl
theorem w_552 : Cond.constant RX9 155 (1322822218) ∈ lwT := tb4 (List.mem_of_getElem? (i := 56) rfl) rfl
theorem w_553 : Cond.constant RX9 156 (1537002063) ∈ lwT := tb4 (List.mem_of_getElem? (i := 57) rfl) rfl
theorem w_554 : Cond.constant RX9 157 (1747873779) ∈ lwT := tb4 (List.mem_of_getElem? (i := 58) rfl) rfl
theorem w_555 : Cond.constant RX9 158 (1955562222) ∈ lwT := tb4 (List.mem_of_getElem? (i := 59) rfl) rfl
theorem w_556 : Cond.constant RX9 159 (2024104815) ∈ lwT := tb4 (List.mem_of_getElem? (i := 60) rfl) rfl
theorem w_557 : Cond.constant RX9 160 (-2067236844) ∈ lwT := tb4 (List.mem_of_getElem? (i := 61) rfl) rfl
theorem w_558 : Cond.constant RX9 161 (-1933114872) ∈ lwT := tb4 (List.mem_of_getElem? (i := 62) rfl) rfl
theorem w_559 : Cond.constant RX9 162 (-1866530822) ∈ lwT := tb4 (List.mem_of_getElem? (i := 63) rfl) rfl
theorem w_560 : Cond.constant RX9 163 (-1538233109) ∈ lwT := tb4 (List.mem_of_getElem? (i := 64) rfl) rfl
theorem w_561 : Cond.constant RX9 164 (-1090935817) ∈ lwT := tb4 (List.mem_of_getElem? (i := 65) rfl) rfl
theorem w_562 : Cond.constant RX9 165 (-965641998) ∈ lwT := tb4 (List.mem_of_getElem? (i := 66) rfl) rfl
theorem w_563 : Cond.fieldLink RX9 166 "ChainBooksModel" "rounds" "[I" ∈ lwT := tb4 (List.mem_of_getElem? (i := 107) rfl) rfl
theorem w_564 : Cond.fieldLink RX9 169 "ChainBooksModel" "message" "[I" ∈ lwT := tb4 (List.mem_of_getElem? (i := 108) rfl) rfl
theorem w_565 : Cond.fieldLink RX9 172 "ChainBooksModel" "words" "[I" ∈ lwT := tb4 (List.mem_of_getElem? (i := 110) rfl) rfl
theorem w_566 : Cond.fieldLink RX9 175 "ChainBooksModel" "state" "[I" ∈ lwT := tb4 (List.mem_of_getElem? (i := 111) rfl) rfl
theorem w_567 : Cond.fieldLink RX9 178 "ChainBooksModel" "hash" "[I" ∈ lwT := tb4 (List.mem_of_getElem? (i := 112) rfl) rfl
theorem w_568 : Cond.fieldLink RX9 181 "ChainBooksModel" "waits" "[I" ∈ lwT := tb4 (List.mem_of_getElem? (i := 113) rfl) rfl
theorem w_569 : Cond.fieldLink RX9 184 "ChainBooksModel" "waitSize" "[I" ∈ lwT := tb4 (List.mem_of_getElem? (i := 114) rfl) rfl
theorem w_570 : Cond.fieldLink RX9 187 "ChainBooksModel" "headMany" "[I" ∈ lwT := tb4 (List.mem_of_getElem? (i := 115) rfl) rfl
theorem w_571 : Cond.fieldLink RX9 190 "ChainBooksModel" "isKept" "[Z" ∈ lwT := tb4 (List.mem_of_getElem? (i := 116) rfl) rfl
theorem w_572 : Cond.fieldLink RX9 193 "ChainBooksModel" "headChain" "[I" ∈ lwT := tb4 (List.mem_of_getElem? (i := 117) rfl) rfl
theorem w_573 : Cond.fieldLink RX9 196 "ChainBooksModel" "headTree" "[I" ∈ lwT := tb4 (List.mem_of_getElem? (i := 118) rfl) rfl
theorem w_574 : Cond.fieldLink RX9 199 "ChainBooksModel" "stepHash" "[I" ∈ lwT := tb4 (List.mem_of_getElem? (i := 123) rfl) rfl
theorem w_575 : Cond.fieldLink RX9 202 "ChainBooksModel" "isLeft" "[Z" ∈ lwT := tb4 (List.mem_of_getElem? (i := 124) rfl) rfl
theorem w_576 : Cond.fieldLink RX9 205 "ChainBooksModel" "sideFrom" "[I" ∈ lwT := tb4 (List.mem_of_getElem? (i := 125) rfl) rfl
theorem w_577 : Cond.fieldLink RX9 208 "ChainBooksModel" "sideTo" "[I" ∈ lwT := tb4 (List.mem_of_getElem? (i := 126) rfl) rfl
theorem w_578 : Cond.fieldLink RX9 211 "ChainBooksModel" "older" "[I" ∈ lwT := tb4 (List.mem_of_getElem? (i := 131) rfl) rfl
theorem w_579 : Cond.fieldLink RX9 214 "ChainBooksModel" "newer" "[I" ∈ lwT := tb4 (List.mem_of_getElem? (i := 132) rfl) rfl
theorem w_580 : Cond.code yX9_init cX9_init 1 none ∈ lwT := tb4 (List.mem_of_getElem? (i := 1) rfl) rfl
theorem w_581 : Cond.fieldLink RX9 217 "ChainBooksModel" "cKind" "I" ∈ lwT := tb4 (List.mem_of_getElem? (i := 93) rfl) rfl
theorem w_582 : Cond.fieldLink RX9 221 "ChainBooksModel" "cKey" "J" ∈ lwT := tb4 (List.mem_of_getElem? (i := 97) rfl) rfl
theorem w_583 : Cond.fieldLink RX9 225 "ChainBooksModel" "cLegs" "I" ∈ lwT := tb4 (List.mem_of_getElem? (i := 94) rfl) rfl
theorem w_584 : Cond.fieldLink RX9 228 "ChainBooksModel" "cEntry" "I" ∈ lwT := tb4 (List.mem_of_getElem? (i := 95) rfl) rfl
theorem w_585 : Cond.fieldLink RX9 231 "ChainBooksModel" "cAccount" "I" ∈ lwT := tb4 (List.mem_of_getElem? (i := 96) rfl) rfl
theorem w_586 : Cond.fieldLink RX9 234 "ChainBooksModel" "cAmount" "J" ∈ lwT := tb4 (List.mem_of_getElem? (i := 98) rfl) rfl
theorem w_587 : Cond.fieldLink RX9 237 "ChainBooksModel" "rowSize" "I" ∈ lwT := tb4 (List.mem_of_getElem? (i := 102) rfl) rfl
theorem w_588 : Cond.code yX9_put cX9_put 2 none ∈ lwT := tb5 (List.mem_of_getElem? (i := 40) rfl) rfl
theorem w_589 : Cond.methodLink RX9 240 yX9_put ∈ lwT := tb5 (List.mem_of_getElem? (i := 37) rfl) rfl
theorem w_590 : Cond.instanceMethod yX9_put ∈ lwT := tb5 (List.mem_of_getElem? (i := 39) rfl) rfl
theorem w_591 : Cond.selects yX9_put.cls yX9_put yX9_put ∈ lwT := tb0 (List.mem_of_getElem? (i := 28) rfl) rfl
theorem w_592 : Cond.constantLong RX9 248 (255) ∈ lwT := tb5 (List.mem_of_getElem? (i := 45) rfl) rfl
theorem w_593 : Cond.code yX9_putLong cX9_putLong 4 none ∈ lwT := tb5 (List.mem_of_getElem? (i := 44) rfl) rfl
theorem w_594 : Cond.methodLink RX9 244 yX9_putLong ∈ lwT := tb5 (List.mem_of_getElem? (i := 41) rfl) rfl
theorem w_595 : Cond.instanceMethod yX9_putLong ∈ lwT := tb5 (List.mem_of_getElem? (i := 43) rfl) rfl
theorem w_596 : Cond.selects yX9_putLong.cls yX9_putLong yX9_putLong ∈ lwT := tb0 (List.mem_of_getElem? (i := 29) rfl) rfl
theorem w_597 : Cond.code yX9_begins cX9_begins 4 none ∈ lwT := tb5 (List.mem_of_getElem? (i := 36) rfl) rfl
theorem w_598 : Cond.code yX9_putShort cX9_putShort 2 none ∈ lwT := tb5 (List.mem_of_getElem? (i := 134) rfl) rfl
theorem w_599 : Cond.code yX9_leg cX9_leg 5 none ∈ lwT := tb5 (List.mem_of_getElem? (i := 78) rfl) rfl
theorem w_600 : Cond.code yX9_byKey cX9_byKey 5 (some .int) ∈ lwT := tb5 (List.mem_of_getElem? (i := 86) rfl) rfl
theorem w_601 : Cond.code yX9_isSame cX9_isSame 4 (some .boolean) ∈ lwT := tb5 (List.mem_of_getElem? (i := 90) rfl) rfl
theorem w_602 : Cond.code yX9_isHold cX9_isHold 3 (some .boolean) ∈ lwT := tb5 (List.mem_of_getElem? (i := 106) rfl) rfl
theorem w_603 : Cond.code yX9_isAccount cX9_isAccount 3 (some .boolean) ∈ lwT := tb5 (List.mem_of_getElem? (i := 102) rfl) rfl
theorem w_604 : Cond.methodLink RX9 257 yX9_leg ∈ lwT := tb5 (List.mem_of_getElem? (i := 75) rfl) rfl
theorem w_605 : Cond.instanceMethod yX9_leg ∈ lwT := tb5 (List.mem_of_getElem? (i := 77) rfl) rfl
theorem w_606 : Cond.selects yX9_leg.cls yX9_leg yX9_leg ∈ lwT := tb0 (List.mem_of_getElem? (i := 33) rfl) rfl
theorem w_607 : Cond.methodLink RX9 250 yX9_isAccount ∈ lwT := tb5 (List.mem_of_getElem? (i := 99) rfl) rfl
theorem w_608 : Cond.instanceMethod yX9_isAccount ∈ lwT := tb5 (List.mem_of_getElem? (i := 101) rfl) rfl
theorem w_609 : Cond.selects yX9_isAccount.cls yX9_isAccount yX9_isAccount ∈ lwT := tb0 (List.mem_of_getElem? (i := 39) rfl) rfl
theorem w_610 : Cond.methodLink RX9 254 yX9_isHold ∈ lwT := tb5 (List.mem_of_getElem? (i := 103) rfl) rfl
theorem w_611 : Cond.instanceMethod yX9_isHold ∈ lwT := tb5 (List.mem_of_getElem? (i := 105) rfl) rfl
theorem w_612 : Cond.selects yX9_isHold.cls yX9_isHold yX9_isHold ∈ lwT := tb0 (List.mem_of_getElem? (i := 40) rfl) rfl
theorem w_613 : Cond.code yX9_isUnknown cX9_isUnknown 5 (some .boolean) ∈ lwT := tb5 (List.mem_of_getElem? (i := 98) rfl) rfl
theorem w_614 : Cond.constantLong RX9 261 (4294967295) ∈ lwT := tb5 (List.mem_of_getElem? (i := 58) rfl) rfl
theorem w_615 : Cond.code yX9_isUneven cX9_isUneven 6 (some .boolean) ∈ lwT := tb5 (List.mem_of_getElem? (i := 110) rfl) rfl
theorem w_616 : Cond.code yX9_isOver cX9_isOver 8 (some .boolean) ∈ lwT := tb5 (List.mem_of_getElem? (i := 114) rfl) rfl
theorem w_617 : Cond.code yX9_isBelow cX9_isBelow 13 (some .boolean) ∈ lwT := tb5 (List.mem_of_getElem? (i := 118) rfl) rfl
theorem w_618 : Cond.methodLink RX9 274 yX9_isBelow ∈ lwT := tb5 (List.mem_of_getElem? (i := 115) rfl) rfl
theorem w_619 : Cond.instanceMethod yX9_isBelow ∈ lwT := tb5 (List.mem_of_getElem? (i := 117) rfl) rfl
theorem w_620 : Cond.selects yX9_isBelow.cls yX9_isBelow yX9_isBelow ∈ lwT := tb0 (List.mem_of_getElem? (i := 43) rfl) rfl
theorem w_621 : Cond.methodLink RX9 271 yX9_isOver ∈ lwT := tb5 (List.mem_of_getElem? (i := 111) rfl) rfl
theorem w_622 : Cond.instanceMethod yX9_isOver ∈ lwT := tb5 (List.mem_of_getElem? (i := 113) rfl) rfl
theorem w_623 : Cond.selects yX9_isOver.cls yX9_isOver yX9_isOver ∈ lwT := tb0 (List.mem_of_getElem? (i := 42) rfl) rfl
theorem w_624 : Cond.methodLink RX9 263 yX9_isUnknown ∈ lwT := tb5 (List.mem_of_getElem? (i := 95) rfl) rfl
theorem w_625 : Cond.instanceMethod yX9_isUnknown ∈ lwT := tb5 (List.mem_of_getElem? (i := 97) rfl) rfl
theorem w_626 : Cond.selects yX9_isUnknown.cls yX9_isUnknown yX9_isUnknown ∈ lwT := tb0 (List.mem_of_getElem? (i := 38) rfl) rfl
theorem w_627 : Cond.methodLink RX9 267 yX9_isUneven ∈ lwT := tb5 (List.mem_of_getElem? (i := 107) rfl) rfl
theorem w_628 : Cond.instanceMethod yX9_isUneven ∈ lwT := tb5 (List.mem_of_getElem? (i := 109) rfl) rfl
theorem w_629 : Cond.selects yX9_isUneven.cls yX9_isUneven yX9_isUneven ∈ lwT := tb0 (List.mem_of_getElem? (i := 41) rfl) rfl
theorem w_630 : Cond.code yX9_refused cX9_refused 4 (some .int) ∈ lwT := tb5 (List.mem_of_getElem? (i := 94) rfl) rfl
theorem w_631 : Cond.code yX9_hold cX9_hold 9 none ∈ lwT := tb5 (List.mem_of_getElem? (i := 57) rfl) rfl
theorem w_632 : Cond.methodLink RX9 277 yX9_hold ∈ lwT := tb5 (List.mem_of_getElem? (i := 54) rfl) rfl
theorem w_633 : Cond.instanceMethod yX9_hold ∈ lwT := tb5 (List.mem_of_getElem? (i := 56) rfl) rfl
theorem w_634 : Cond.selects yX9_hold.cls yX9_hold yX9_hold ∈ lwT := tb0 (List.mem_of_getElem? (i := 32) rfl) rfl
theorem w_635 : Cond.code yX9_does cX9_does 5 (some .int) ∈ lwT := tb5 (List.mem_of_getElem? (i := 53) rfl) rfl
theorem w_636 : Cond.methodLink RX9 281 yX9_begins ∈ lwT := tb5 (List.mem_of_getElem? (i := 33) rfl) rfl
theorem w_637 : Cond.instanceMethod yX9_begins ∈ lwT := tb5 (List.mem_of_getElem? (i := 35) rfl) rfl
theorem w_638 : Cond.selects yX9_begins.cls yX9_begins yX9_begins ∈ lwT := tb0 (List.mem_of_getElem? (i := 27) rfl) rfl
theorem w_639 : Cond.code yX9_trial cX9_trial 9 none ∈ lwT := tb5 (List.mem_of_getElem? (i := 122) rfl) rfl
theorem w_640 : Cond.fieldLink RX9 285 "ChainBooksModel" "bytes" "I" ∈ lwT := tb4 (List.mem_of_getElem? (i := 87) rfl) rfl
theorem w_641 : Cond.code yX9_writes cX9_writes 3 none ∈ lwT := tb5 (List.mem_of_getElem? (i := 49) rfl) rfl
theorem w_642 : Cond.methodLink RX9 288 yX9_byKey ∈ lwT := tb5 (List.mem_of_getElem? (i := 83) rfl) rfl
theorem w_643 : Cond.instanceMethod yX9_byKey ∈ lwT := tb5 (List.mem_of_getElem? (i := 85) rfl) rfl
theorem w_644 : Cond.selects yX9_byKey.cls yX9_byKey yX9_byKey ∈ lwT := tb0 (List.mem_of_getElem? (i := 35) rfl) rfl
theorem w_645 : Cond.methodLink RX9 295 yX9_refused ∈ lwT := tb5 (List.mem_of_getElem? (i := 91) rfl) rfl
theorem w_646 : Cond.instanceMethod yX9_refused ∈ lwT := tb5 (List.mem_of_getElem? (i := 93) rfl) rfl
theorem w_647 : Cond.selects yX9_refused.cls yX9_refused yX9_refused ∈ lwT := tb0 (List.mem_of_getElem? (i := 37) rfl) rfl
theorem w_648 : Cond.methodLink RX9 299 yX9_writes ∈ lwT := tb5 (List.mem_of_getElem? (i := 46) rfl) rfl
theorem w_649 : Cond.instanceMethod yX9_writes ∈ lwT := tb5 (List.mem_of_getElem? (i := 48) rfl) rfl
theorem w_650 : Cond.selects yX9_writes.cls yX9_writes yX9_writes ∈ lwT := tb0 (List.mem_of_getElem? (i := 30) rfl) rfl
theorem w_651 : Cond.methodLink RX9 302 yX9_does ∈ lwT := tb5 (List.mem_of_getElem? (i := 50) rfl) rfl
theorem w_652 : Cond.instanceMethod yX9_does ∈ lwT := tb5 (List.mem_of_getElem? (i := 52) rfl) rfl
theorem w_653 : Cond.selects yX9_does.cls yX9_does yX9_does ∈ lwT := tb0 (List.mem_of_getElem? (i := 31) rfl) rfl
theorem w_654 : Cond.methodLink RX9 305 yX9_trial ∈ lwT := tb5 (List.mem_of_getElem? (i := 119) rfl) rfl
theorem w_655 : Cond.instanceMethod yX9_trial ∈ lwT := tb5 (List.mem_of_getElem? (i := 121) rfl) rfl
theorem w_656 : Cond.selects yX9_trial.cls yX9_trial yX9_trial ∈ lwT := tb0 (List.mem_of_getElem? (i := 44) rfl) rfl
theorem w_657 : Cond.methodLink RX9 292 yX9_isSame ∈ lwT := tb5 (List.mem_of_getElem? (i := 87) rfl) rfl
theorem w_658 : Cond.instanceMethod yX9_isSame ∈ lwT := tb5 (List.mem_of_getElem? (i := 89) rfl) rfl
theorem w_659 : Cond.selects yX9_isSame.cls yX9_isSame yX9_isSame ∈ lwT := tb0 (List.mem_of_getElem? (i := 36) rfl) rfl
theorem w_660 : Cond.code yX9_calls cX9_calls 4 (some .int) ∈ lwT := tb5 (List.mem_of_getElem? (i := 82) rfl) rfl
theorem w_661 : Cond.code yX9_in cX9_in 3 (some .boolean) ∈ lwT := tb5 (List.mem_of_getElem? (i := 65) rfl) rfl
theorem w_662 : Cond.code yX9_open cX9_open 3 (some .int) ∈ lwT := tb5 (List.mem_of_getElem? (i := 32) rfl) rfl
theorem w_663 : Cond.fieldLink RX9 308 "ChainBooksModel" "told" "I" ∈ lwT := tb4 (List.mem_of_getElem? (i := 104) rfl) rfl
theorem w_664 : Cond.static yX9_in ∈ lwT := tb5 (List.mem_of_getElem? (i := 64) rfl) rfl
theorem w_665 : Cond.methodLink RX9 311 yX9_in ∈ lwT := tb5 (List.mem_of_getElem? (i := 63) rfl) rfl
theorem w_666 : Cond.constantLong RX9 315 (-9223372036854775808) ∈ lwT := tb5 (List.mem_of_getElem? (i := 66) rfl) rfl
theorem w_667 : Cond.code yX9_leg_ cX9_leg_ 4 (some .int) ∈ lwT := tb5 (List.mem_of_getElem? (i := 62) rfl) rfl
theorem w_668 : Cond.code yX9_clear cX9_clear 2 (some .int) ∈ lwT := tb5 (List.mem_of_getElem? (i := 70) rfl) rfl
theorem w_669 : Cond.methodLink RX9 317 yX9_calls ∈ lwT := tb5 (List.mem_of_getElem? (i := 79) rfl) rfl
theorem w_670 : Cond.instanceMethod yX9_calls ∈ lwT := tb5 (List.mem_of_getElem? (i := 81) rfl) rfl
theorem w_671 : Cond.selects yX9_calls.cls yX9_calls yX9_calls ∈ lwT := tb0 (List.mem_of_getElem? (i := 34) rfl) rfl
theorem w_672 : Cond.code yX9_post cX9_post 4 (some .int) ∈ lwT := tb5 (List.mem_of_getElem? (i := 74) rfl) rfl
theorem w_673 : Cond.code yX9_hold_ cX9_hold_ 6 (some .int) ∈ lwT := tb5 (List.mem_of_getElem? (i := 126) rfl) rfl
theorem w_674 : Cond.methodLink RX9 321 yX9_putShort ∈ lwT := tb5 (List.mem_of_getElem? (i := 131) rfl) rfl
theorem w_675 : Cond.instanceMethod yX9_putShort ∈ lwT := tb5 (List.mem_of_getElem? (i := 133) rfl) rfl
theorem w_676 : Cond.selects yX9_putShort.cls yX9_putShort yX9_putShort ∈ lwT := tb0 (List.mem_of_getElem? (i := 45) rfl) rfl
theorem w_677 : Cond.code yX9_release cX9_release 2 (some .int) ∈ lwT := tb5 (List.mem_of_getElem? (i := 130) rfl) rfl
theorem w_678 : Cond.code yX9_capture cX9_capture 7 (some .int) ∈ lwT := tb5 (List.mem_of_getElem? (i := 138) rfl) rfl
theorem w_679 : Cond.code yX9_reverse cX9_reverse 4 (some .int) ∈ lwT := tb5 (List.mem_of_getElem? (i := 142) rfl) rfl
theorem w_680 : Cond.fieldLink RX9 324 "ChainBooksModel" "tolds" "I" ∈ lwT := tb4 (List.mem_of_getElem? (i := 92) rfl) rfl
theorem w_681 : Cond.code yX9_every cX9_every 3 (some .int) ∈ lwT := tb5 (List.mem_of_getElem? (i := 146) rfl) rfl
theorem w_682 : Cond.code yX9_account cX9_account 3 (some .long) ∈ lwT := tb5 (List.mem_of_getElem? (i := 150) rfl) rfl
theorem w_683 : Cond.code yX9_entry cX9_entry 3 (some .long) ∈ lwT := tb5 (List.mem_of_getElem? (i := 154) rfl) rfl
theorem w_684 : Cond.code yX9_data cX9_data 2 (some .int) ∈ lwT := tb5 (List.mem_of_getElem? (i := 158) rfl) rfl
theorem w_685 : Cond.code yX9_alter cX9_alter 3 (some .int) ∈ lwT := tb5 (List.mem_of_getElem? (i := 162) rfl) rfl
theorem w_686 : Cond.code yX9_turn cX9_turn 2 (some .int) ∈ lwT := tb5 (List.mem_of_getElem? (i := 197) rfl) rfl
theorem w_687 : Cond.fieldLink RX9 327 "ChainBooksModel" "length" "I" ∈ lwT := tb4 (List.mem_of_getElem? (i := 109) rfl) rfl
theorem w_688 : Cond.code yX9_says cX9_says 2 none ∈ lwT := tb5 (List.mem_of_getElem? (i := 174) rfl) rfl
theorem w_689 : Cond.static yX9_turn ∈ lwT := tb5 (List.mem_of_getElem? (i := 196) rfl) rfl
theorem w_690 : Cond.methodLink RX9 344 yX9_turn ∈ lwT := tb5 (List.mem_of_getElem? (i := 195) rfl) rfl
theorem w_691 : Cond.code yX9_block cX9_block 15 none ∈ lwT := tb5 (List.mem_of_getElem? (i := 194) rfl) rfl
theorem w_692 : Cond.methodLink RX9 341 yX9_block ∈ lwT := tb5 (List.mem_of_getElem? (i := 191) rfl) rfl
theorem w_693 : Cond.instanceMethod yX9_block ∈ lwT := tb5 (List.mem_of_getElem? (i := 193) rfl) rfl
theorem w_694 : Cond.selects yX9_block.cls yX9_block yX9_block ∈ lwT := tb0 (List.mem_of_getElem? (i := 50) rfl) rfl
theorem w_695 : Cond.constant RX9 333 (1779033703) ∈ lwT := tb5 (List.mem_of_getElem? (i := 183) rfl) rfl
theorem w_696 : Cond.constant RX9 334 (-1150833019) ∈ lwT := tb5 (List.mem_of_getElem? (i := 184) rfl) rfl
theorem w_697 : Cond.constant RX9 335 (1013904242) ∈ lwT := tb5 (List.mem_of_getElem? (i := 185) rfl) rfl
theorem w_698 : Cond.constant RX9 336 (-1521486534) ∈ lwT := tb5 (List.mem_of_getElem? (i := 186) rfl) rfl
theorem w_699 : Cond.constant RX9 337 (1359893119) ∈ lwT := tb5 (List.mem_of_getElem? (i := 187) rfl) rfl
theorem w_700 : Cond.constant RX9 338 (-1694144372) ∈ lwT := tb5 (List.mem_of_getElem? (i := 188) rfl) rfl
theorem w_701 : Cond.constant RX9 339 (528734635) ∈ lwT := tb5 (List.mem_of_getElem? (i := 189) rfl) rfl
theorem w_702 : Cond.constant RX9 340 (1541459225) ∈ lwT := tb5 (List.mem_of_getElem? (i := 190) rfl) rfl
theorem w_703 : Cond.methodLink RX9 330 yX9_says ∈ lwT := tb5 (List.mem_of_getElem? (i := 171) rfl) rfl
theorem w_704 : Cond.instanceMethod yX9_says ∈ lwT := tb5 (List.mem_of_getElem? (i := 173) rfl) rfl
theorem w_705 : Cond.selects yX9_says.cls yX9_says yX9_says ∈ lwT := tb0 (List.mem_of_getElem? (i := 47) rfl) rfl
theorem w_706 : Cond.code yX9_sum cX9_sum 3 none ∈ lwT := tb5 (List.mem_of_getElem? (i := 182) rfl) rfl
theorem w_707 : Cond.code yX9_saysEntry cX9_saysEntry 3 none ∈ lwT := tb5 (List.mem_of_getElem? (i := 178) rfl) rfl
theorem w_708 : Cond.methodLink RX9 348 yX9_saysEntry ∈ lwT := tb5 (List.mem_of_getElem? (i := 175) rfl) rfl
theorem w_709 : Cond.instanceMethod yX9_saysEntry ∈ lwT := tb5 (List.mem_of_getElem? (i := 177) rfl) rfl
theorem w_710 : Cond.selects yX9_saysEntry.cls yX9_saysEntry yX9_saysEntry ∈ lwT := tb0 (List.mem_of_getElem? (i := 48) rfl) rfl
theorem w_711 : Cond.methodLink RX9 351 yX9_sum ∈ lwT := tb5 (List.mem_of_getElem? (i := 179) rfl) rfl
theorem w_712 : Cond.instanceMethod yX9_sum ∈ lwT := tb5 (List.mem_of_getElem? (i := 181) rfl) rfl
theorem w_713 : Cond.selects yX9_sum.cls yX9_sum yX9_sum ∈ lwT := tb0 (List.mem_of_getElem? (i := 49) rfl) rfl
theorem w_714 : Cond.code yX9_chain cX9_chain 4 none ∈ lwT := tb5 (List.mem_of_getElem? (i := 170) rfl) rfl
theorem w_715 : Cond.code yX9_leaf cX9_leaf 2 none ∈ lwT := tb5 (List.mem_of_getElem? (i := 205) rfl) rfl
theorem w_716 : Cond.code yX9_keepWait cX9_keepWait 3 none ∈ lwT := tb5 (List.mem_of_getElem? (i := 213) rfl) rfl
theorem w_717 : Cond.code yX9_joins cX9_joins 3 none ∈ lwT := tb5 (List.mem_of_getElem? (i := 209) rfl) rfl
theorem w_718 : Cond.methodLink RX9 357 yX9_joins ∈ lwT := tb5 (List.mem_of_getElem? (i := 206) rfl) rfl
theorem w_719 : Cond.instanceMethod yX9_joins ∈ lwT := tb5 (List.mem_of_getElem? (i := 208) rfl) rfl
theorem w_720 : Cond.selects yX9_joins.cls yX9_joins yX9_joins ∈ lwT := tb0 (List.mem_of_getElem? (i := 53) rfl) rfl
theorem w_721 : Cond.methodLink RX9 360 yX9_keepWait ∈ lwT := tb5 (List.mem_of_getElem? (i := 210) rfl) rfl
theorem w_722 : Cond.instanceMethod yX9_keepWait ∈ lwT := tb5 (List.mem_of_getElem? (i := 212) rfl) rfl
theorem w_723 : Cond.selects yX9_keepWait.cls yX9_keepWait yX9_keepWait ∈ lwT := tb0 (List.mem_of_getElem? (i := 54) rfl) rfl
theorem w_724 : Cond.methodLink RX9 354 yX9_leaf ∈ lwT := tb5 (List.mem_of_getElem? (i := 202) rfl) rfl
theorem w_725 : Cond.instanceMethod yX9_leaf ∈ lwT := tb5 (List.mem_of_getElem? (i := 204) rfl) rfl
theorem w_726 : Cond.selects yX9_leaf.cls yX9_leaf yX9_leaf ∈ lwT := tb0 (List.mem_of_getElem? (i := 52) rfl) rfl
theorem w_727 : Cond.code yX9_tree cX9_tree 6 none ∈ lwT := tb5 (List.mem_of_getElem? (i := 201) rfl) rfl
theorem w_728 : Cond.methodLink RX9 366 yX9_tree ∈ lwT := tb5 (List.mem_of_getElem? (i := 198) rfl) rfl
theorem w_729 : Cond.instanceMethod yX9_tree ∈ lwT := tb5 (List.mem_of_getElem? (i := 200) rfl) rfl
theorem w_730 : Cond.selects yX9_tree.cls yX9_tree yX9_tree ∈ lwT := tb0 (List.mem_of_getElem? (i := 51) rfl) rfl
theorem w_731 : Cond.methodLink RX9 363 yX9_chain ∈ lwT := tb5 (List.mem_of_getElem? (i := 167) rfl) rfl
theorem w_732 : Cond.instanceMethod yX9_chain ∈ lwT := tb5 (List.mem_of_getElem? (i := 169) rfl) rfl
theorem w_733 : Cond.selects yX9_chain.cls yX9_chain yX9_chain ∈ lwT := tb0 (List.mem_of_getElem? (i := 46) rfl) rfl
theorem w_734 : Cond.code yX9_hash cX9_hash 4 (some .int) ∈ lwT := tb5 (List.mem_of_getElem? (i := 166) rfl) rfl
theorem w_735 : Cond.code yX9_keep cX9_keep 3 (some .int) ∈ lwT := tb5 (List.mem_of_getElem? (i := 217) rfl) rfl
theorem w_736 : Cond.code yX9_isAs cX9_isAs 5 (some .boolean) ∈ lwT := tb5 (List.mem_of_getElem? (i := 225) rfl) rfl
theorem w_737 : Cond.methodLink RX9 370 yX9_isAs ∈ lwT := tb5 (List.mem_of_getElem? (i := 222) rfl) rfl
theorem w_738 : Cond.instanceMethod yX9_isAs ∈ lwT := tb5 (List.mem_of_getElem? (i := 224) rfl) rfl
theorem w_739 : Cond.selects yX9_isAs.cls yX9_isAs yX9_isAs ∈ lwT := tb0 (List.mem_of_getElem? (i := 55) rfl) rfl
theorem w_740 : Cond.code yX9_verify cX9_verify 2 (some .int) ∈ lwT := tb5 (List.mem_of_getElem? (i := 221) rfl) rfl
theorem w_741 : Cond.code yX9_half cX9_half 2 (some .int) ∈ lwT := tb5 (List.mem_of_getElem? (i := 236) rfl) rfl
theorem w_742 : Cond.fieldLink RX9 384 "ChainBooksModel" "downFrom" "I" ∈ lwT := tb4 (List.mem_of_getElem? (i := 128) rfl) rfl
theorem w_743 : Cond.fieldLink RX9 387 "ChainBooksModel" "downTo" "I" ∈ lwT := tb4 (List.mem_of_getElem? (i := 129) rfl) rfl
theorem w_744 : Cond.fieldLink RX9 378 "ChainBooksModel" "ways" "I" ∈ lwT := tb4 (List.mem_of_getElem? (i := 127) rfl) rfl
theorem w_745 : Cond.fieldLink RX9 374 "ChainBooksModel" "isWhole" "Z" ∈ lwT := tb4 (List.mem_of_getElem? (i := 130) rfl) rfl
theorem w_746 : Cond.static yX9_half ∈ lwT := tb5 (List.mem_of_getElem? (i := 235) rfl) rfl
theorem w_747 : Cond.methodLink RX9 381 yX9_half ∈ lwT := tb5 (List.mem_of_getElem? (i := 234) rfl) rfl
theorem w_748 : Cond.code yX9_down cX9_down 9 none ∈ lwT := tb5 (List.mem_of_getElem? (i := 233) rfl) rfl
theorem w_749 : Cond.fieldLink RX9 390 "ChainBooksModel" "steps" "I" ∈ lwT := tb4 (List.mem_of_getElem? (i := 122) rfl) rfl
theorem w_750 : Cond.code yX9_step cX9_step 2 none ∈ lwT := tb6 (List.mem_of_getElem? (i := 4) rfl) rfl
theorem w_751 : Cond.methodLink RX9 393 yX9_step ∈ lwT := tb6 (List.mem_of_getElem? (i := 1) rfl) rfl
theorem w_752 : Cond.instanceMethod yX9_step ∈ lwT := tb6 (List.mem_of_getElem? (i := 3) rfl) rfl
theorem w_753 : Cond.selects yX9_step.cls yX9_step yX9_step ∈ lwT := tb0 (List.mem_of_getElem? (i := 58) rfl) rfl
theorem w_754 : Cond.code yX9_sides cX9_sides 2 none ∈ lwT := tb6 (List.mem_of_getElem? (i := 0) rfl) rfl
theorem w_755 : Cond.fieldLink RX9 396 "ChainBooksModel" "sort" "I" ∈ lwT := tb4 (List.mem_of_getElem? (i := 119) rfl) rfl
theorem w_756 : Cond.fieldLink RX9 399 "ChainBooksModel" "first" "I" ∈ lwT := tb4 (List.mem_of_getElem? (i := 120) rfl) rfl
theorem w_757 : Cond.fieldLink RX9 402 "ChainBooksModel" "all" "I" ∈ lwT := tb4 (List.mem_of_getElem? (i := 121) rfl) rfl
theorem w_758 : Cond.methodLink RX9 405 yX9_down ∈ lwT := tb5 (List.mem_of_getElem? (i := 230) rfl) rfl
theorem w_759 : Cond.instanceMethod yX9_down ∈ lwT := tb5 (List.mem_of_getElem? (i := 232) rfl) rfl
theorem w_760 : Cond.selects yX9_down.cls yX9_down yX9_down ∈ lwT := tb0 (List.mem_of_getElem? (i := 56) rfl) rfl
theorem w_761 : Cond.methodLink RX9 409 yX9_sides ∈ lwT := tb5 (List.mem_of_getElem? (i := 237) rfl) rfl
theorem w_762 : Cond.instanceMethod yX9_sides ∈ lwT := tb5 (List.mem_of_getElem? (i := 239) rfl) rfl
theorem w_763 : Cond.selects yX9_sides.cls yX9_sides yX9_sides ∈ lwT := tb0 (List.mem_of_getElem? (i := 57) rfl) rfl
theorem w_764 : Cond.code yX9_path cX9_path 3 (some .int) ∈ lwT := tb5 (List.mem_of_getElem? (i := 229) rfl) rfl
theorem w_765 : Cond.code yX9_proof cX9_proof 3 (some .int) ∈ lwT := tb6 (List.mem_of_getElem? (i := 8) rfl) rfl
theorem w_766 : Cond.code yX9_step_ cX9_step_ 3 (some .int) ∈ lwT := tb6 (List.mem_of_getElem? (i := 12) rfl) rfl
theorem w_767 : Cond.code yX9_beside cX9_beside 5 none ∈ lwT := tb6 (List.mem_of_getElem? (i := 24) rfl) rfl
theorem w_768 : Cond.code yX9_isHead cX9_isHead 5 (some .boolean) ∈ lwT := tb6 (List.mem_of_getElem? (i := 28) rfl) rfl
theorem w_769 : Cond.code yX9_isHeadOf cX9_isHeadOf 3 (some .boolean) ∈ lwT := tb6 (List.mem_of_getElem? (i := 20) rfl) rfl
theorem w_770 : Cond.methodLink RX9 415 yX9_beside ∈ lwT := tb6 (List.mem_of_getElem? (i := 21) rfl) rfl
theorem w_771 : Cond.instanceMethod yX9_beside ∈ lwT := tb6 (List.mem_of_getElem? (i := 23) rfl) rfl
theorem w_772 : Cond.selects yX9_beside.cls yX9_beside yX9_beside ∈ lwT := tb0 (List.mem_of_getElem? (i := 60) rfl) rfl
theorem w_773 : Cond.methodLink RX9 419 yX9_isHead ∈ lwT := tb6 (List.mem_of_getElem? (i := 25) rfl) rfl
theorem w_774 : Cond.instanceMethod yX9_isHead ∈ lwT := tb6 (List.mem_of_getElem? (i := 27) rfl) rfl
theorem w_775 : Cond.selects yX9_isHead.cls yX9_isHead yX9_isHead ∈ lwT := tb0 (List.mem_of_getElem? (i := 61) rfl) rfl
theorem w_776 : Cond.methodLink RX9 412 yX9_isHeadOf ∈ lwT := tb6 (List.mem_of_getElem? (i := 17) rfl) rfl
theorem w_777 : Cond.instanceMethod yX9_isHeadOf ∈ lwT := tb6 (List.mem_of_getElem? (i := 19) rfl) rfl
theorem w_778 : Cond.selects yX9_isHeadOf.cls yX9_isHeadOf yX9_isHeadOf ∈ lwT := tb0 (List.mem_of_getElem? (i := 59) rfl) rfl
theorem w_779 : Cond.code yX9_leads cX9_leads 5 (some .int) ∈ lwT := tb6 (List.mem_of_getElem? (i := 16) rfl) rfl
theorem w_780 : Cond.fieldLink RX9 422 "ChainBooksModel" "at" "I" ∈ lwT := tb4 (List.mem_of_getElem? (i := 133) rfl) rfl
theorem w_781 : Cond.code yX9_number cX9_number 5 (some .long) ∈ lwT := tb6 (List.mem_of_getElem? (i := 52) rfl) rfl
theorem w_782 : Cond.code yX9_sizeOf cX9_sizeOf 2 (some .int) ∈ lwT := tb6 (List.mem_of_getElem? (i := 40) rfl) rfl
theorem w_783 : Cond.methodLink RX9 425 yX9_number ∈ lwT := tb6 (List.mem_of_getElem? (i := 49) rfl) rfl
theorem w_784 : Cond.instanceMethod yX9_number ∈ lwT := tb6 (List.mem_of_getElem? (i := 51) rfl) rfl
theorem w_785 : Cond.selects yX9_number.cls yX9_number yX9_number ∈ lwT := tb0 (List.mem_of_getElem? (i := 66) rfl) rfl
theorem w_786 : Cond.code yX9_readsLegs cX9_readsLegs 7 (some .boolean) ∈ lwT := tb6 (List.mem_of_getElem? (i := 56) rfl) rfl
theorem w_787 : Cond.methodLink RX9 429 yX9_readsLegs ∈ lwT := tb6 (List.mem_of_getElem? (i := 53) rfl) rfl
theorem w_788 : Cond.instanceMethod yX9_readsLegs ∈ lwT := tb6 (List.mem_of_getElem? (i := 55) rfl) rfl
theorem w_789 : Cond.selects yX9_readsLegs.cls yX9_readsLegs yX9_readsLegs ∈ lwT := tb0 (List.mem_of_getElem? (i := 67) rfl) rfl
theorem w_790 : Cond.code yX9_reads cX9_reads 5 (some .boolean) ∈ lwT := tb6 (List.mem_of_getElem? (i := 48) rfl) rfl
theorem w_791 : Cond.code yX9_isTrial cX9_isTrial 3 (some .boolean) ∈ lwT := tb6 (List.mem_of_getElem? (i := 44) rfl) rfl
theorem w_792 : Cond.code yX9_tells cX9_tells 3 (some .int) ∈ lwT := tb6 (List.mem_of_getElem? (i := 36) rfl) rfl
theorem w_793 : Cond.methodLink RX9 432 yX9_tells ∈ lwT := tb6 (List.mem_of_getElem? (i := 33) rfl) rfl
theorem w_794 : Cond.instanceMethod yX9_tells ∈ lwT := tb6 (List.mem_of_getElem? (i := 35) rfl) rfl
theorem w_795 : Cond.selects yX9_tells.cls yX9_tells yX9_tells ∈ lwT := tb0 (List.mem_of_getElem? (i := 62) rfl) rfl
theorem w_796 : Cond.methodLink RX9 438 yX9_isTrial ∈ lwT := tb6 (List.mem_of_getElem? (i := 41) rfl) rfl
theorem w_797 : Cond.instanceMethod yX9_isTrial ∈ lwT := tb6 (List.mem_of_getElem? (i := 43) rfl) rfl
theorem w_798 : Cond.selects yX9_isTrial.cls yX9_isTrial yX9_isTrial ∈ lwT := tb0 (List.mem_of_getElem? (i := 64) rfl) rfl
theorem w_799 : Cond.methodLink RX9 435 yX9_sizeOf ∈ lwT := tb6 (List.mem_of_getElem? (i := 37) rfl) rfl
theorem w_800 : Cond.instanceMethod yX9_sizeOf ∈ lwT := tb6 (List.mem_of_getElem? (i := 39) rfl) rfl
theorem w_801 : Cond.selects yX9_sizeOf.cls yX9_sizeOf yX9_sizeOf ∈ lwT := tb0 (List.mem_of_getElem? (i := 63) rfl) rfl
theorem w_802 : Cond.methodLink RX9 441 yX9_reads ∈ lwT := tb6 (List.mem_of_getElem? (i := 45) rfl) rfl
theorem w_803 : Cond.instanceMethod yX9_reads ∈ lwT := tb6 (List.mem_of_getElem? (i := 47) rfl) rfl
theorem w_804 : Cond.selects yX9_reads.cls yX9_reads yX9_reads ∈ lwT := tb0 (List.mem_of_getElem? (i := 65) rfl) rfl
theorem w_805 : Cond.code yX9_audit cX9_audit 4 (some .int) ∈ lwT := tb6 (List.mem_of_getElem? (i := 32) rfl) rfl
theorem w_806 : Cond.code yX9_altered cX9_altered 3 (some .int) ∈ lwT := tb6 (List.mem_of_getElem? (i := 68) rfl) rfl
theorem w_807 : Cond.code yX9_there cX9_there 3 (some .int) ∈ lwT := tb6 (List.mem_of_getElem? (i := 64) rfl) rfl
theorem w_808 : Cond.methodLink RX9 444 yX9_there ∈ lwT := tb6 (List.mem_of_getElem? (i := 61) rfl) rfl
theorem w_809 : Cond.instanceMethod yX9_there ∈ lwT := tb6 (List.mem_of_getElem? (i := 63) rfl) rfl
theorem w_810 : Cond.selects yX9_there.cls yX9_there yX9_there ∈ lwT := tb0 (List.mem_of_getElem? (i := 68) rfl) rfl
theorem w_811 : Cond.methodLink RX9 447 yX9_altered ∈ lwT := tb6 (List.mem_of_getElem? (i := 65) rfl) rfl
theorem w_812 : Cond.instanceMethod yX9_altered ∈ lwT := tb6 (List.mem_of_getElem? (i := 67) rfl) rfl
theorem w_813 : Cond.selects yX9_altered.cls yX9_altered yX9_altered ∈ lwT := tb0 (List.mem_of_getElem? (i := 69) rfl) rfl
theorem w_814 : Cond.code yX9_count cX9_count 2 (some .int) ∈ lwT := tb6 (List.mem_of_getElem? (i := 60) rfl) rfl
theorem w_815 : Cond.constantLong RL 13 (4294967295) ∈ lwT := tb6 (List.mem_of_getElem? (i := 69) rfl) rfl
theorem w_816 : Cond.methodLink RL 15 yX8_open ∈ lwT := tb2 (List.mem_of_getElem? (i := 84) rfl) rfl
theorem w_817 : Cond.instanceMethod yX8_open ∈ lwT := tb2 (List.mem_of_getElem? (i := 85) rfl) rfl
theorem w_818 : Cond.selects yX8_open.cls yX8_open yX8_open ∈ lwT := tb2 (List.mem_of_getElem? (i := 86) rfl) rfl
theorem w_819 : Cond.methodLink RL 19 yX9_open ∈ lwT := tb5 (List.mem_of_getElem? (i := 29) rfl) rfl
theorem w_820 : Cond.instanceMethod yX9_open ∈ lwT := tb5 (List.mem_of_getElem? (i := 30) rfl) rfl
theorem w_821 : Cond.selects yX9_open.cls yX9_open yX9_open ∈ lwT := tb5 (List.mem_of_getElem? (i := 31) rfl) rfl
theorem w_822 : Cond.methodLink RL 20 yX8_leg ∈ lwT := tb2 (List.mem_of_getElem? (i := 121) rfl) rfl
theorem w_823 : Cond.instanceMethod yX8_leg ∈ lwT := tb2 (List.mem_of_getElem? (i := 122) rfl) rfl
theorem w_824 : Cond.selects yX8_leg.cls yX8_leg yX8_leg ∈ lwT := tb2 (List.mem_of_getElem? (i := 123) rfl) rfl
theorem w_825 : Cond.methodLink RL 24 yX9_leg_ ∈ lwT := tb5 (List.mem_of_getElem? (i := 59) rfl) rfl
theorem w_826 : Cond.instanceMethod yX9_leg_ ∈ lwT := tb5 (List.mem_of_getElem? (i := 60) rfl) rfl
theorem w_827 : Cond.selects yX9_leg_.cls yX9_leg_ yX9_leg_ ∈ lwT := tb5 (List.mem_of_getElem? (i := 61) rfl) rfl
theorem w_828 : Cond.methodLink RL 25 yX8_clear ∈ lwT := tb2 (List.mem_of_getElem? (i := 133) rfl) rfl
theorem w_829 : Cond.instanceMethod yX8_clear ∈ lwT := tb2 (List.mem_of_getElem? (i := 134) rfl) rfl
theorem w_830 : Cond.selects yX8_clear.cls yX8_clear yX8_clear ∈ lwT := tb2 (List.mem_of_getElem? (i := 135) rfl) rfl
theorem w_831 : Cond.methodLink RL 29 yX9_clear ∈ lwT := tb5 (List.mem_of_getElem? (i := 67) rfl) rfl
theorem w_832 : Cond.instanceMethod yX9_clear ∈ lwT := tb5 (List.mem_of_getElem? (i := 68) rfl) rfl
theorem w_833 : Cond.selects yX9_clear.cls yX9_clear yX9_clear ∈ lwT := tb5 (List.mem_of_getElem? (i := 69) rfl) rfl
theorem w_834 : Cond.methodLink RL 30 yX8_post ∈ lwT := tb2 (List.mem_of_getElem? (i := 137) rfl) rfl
theorem w_835 : Cond.instanceMethod yX8_post ∈ lwT := tb2 (List.mem_of_getElem? (i := 138) rfl) rfl
theorem w_836 : Cond.selects yX8_post.cls yX8_post yX8_post ∈ lwT := tb2 (List.mem_of_getElem? (i := 139) rfl) rfl
theorem w_837 : Cond.methodLink RL 33 yX9_post ∈ lwT := tb5 (List.mem_of_getElem? (i := 71) rfl) rfl
theorem w_838 : Cond.instanceMethod yX9_post ∈ lwT := tb5 (List.mem_of_getElem? (i := 72) rfl) rfl
theorem w_839 : Cond.selects yX9_post.cls yX9_post yX9_post ∈ lwT := tb5 (List.mem_of_getElem? (i := 73) rfl) rfl
theorem w_840 : Cond.methodLink RL 34 yX8_hold ∈ lwT := tb2 (List.mem_of_getElem? (i := 183) rfl) rfl
theorem w_841 : Cond.instanceMethod yX8_hold ∈ lwT := tb2 (List.mem_of_getElem? (i := 184) rfl) rfl
theorem w_842 : Cond.selects yX8_hold.cls yX8_hold yX8_hold ∈ lwT := tb2 (List.mem_of_getElem? (i := 185) rfl) rfl
theorem w_843 : Cond.methodLink RL 38 yX9_hold_ ∈ lwT := tb5 (List.mem_of_getElem? (i := 123) rfl) rfl
theorem w_844 : Cond.instanceMethod yX9_hold_ ∈ lwT := tb5 (List.mem_of_getElem? (i := 124) rfl) rfl
theorem w_845 : Cond.selects yX9_hold_.cls yX9_hold_ yX9_hold_ ∈ lwT := tb5 (List.mem_of_getElem? (i := 125) rfl) rfl
theorem w_846 : Cond.methodLink RL 39 yX8_release ∈ lwT := tb2 (List.mem_of_getElem? (i := 192) rfl) rfl
theorem w_847 : Cond.instanceMethod yX8_release ∈ lwT := tb2 (List.mem_of_getElem? (i := 193) rfl) rfl
theorem w_848 : Cond.selects yX8_release.cls yX8_release yX8_release ∈ lwT := tb2 (List.mem_of_getElem? (i := 194) rfl) rfl
theorem w_849 : Cond.methodLink RL 43 yX9_release ∈ lwT := tb5 (List.mem_of_getElem? (i := 127) rfl) rfl
theorem w_850 : Cond.instanceMethod yX9_release ∈ lwT := tb5 (List.mem_of_getElem? (i := 128) rfl) rfl
theorem w_851 : Cond.selects yX9_release.cls yX9_release yX9_release ∈ lwT := tb5 (List.mem_of_getElem? (i := 129) rfl) rfl
theorem w_852 : Cond.methodLink RL 44 yX8_capture ∈ lwT := tb2 (List.mem_of_getElem? (i := 223) rfl) rfl
theorem w_853 : Cond.instanceMethod yX8_capture ∈ lwT := tb2 (List.mem_of_getElem? (i := 224) rfl) rfl
theorem w_854 : Cond.selects yX8_capture.cls yX8_capture yX8_capture ∈ lwT := tb2 (List.mem_of_getElem? (i := 225) rfl) rfl
theorem w_855 : Cond.methodLink RL 48 yX9_capture ∈ lwT := tb5 (List.mem_of_getElem? (i := 135) rfl) rfl
theorem w_856 : Cond.instanceMethod yX9_capture ∈ lwT := tb5 (List.mem_of_getElem? (i := 136) rfl) rfl
theorem w_857 : Cond.selects yX9_capture.cls yX9_capture yX9_capture ∈ lwT := tb5 (List.mem_of_getElem? (i := 137) rfl) rfl
theorem w_858 : Cond.methodLink RL 49 yX8_reverse ∈ lwT := tb2 (List.mem_of_getElem? (i := 232) rfl) rfl
theorem w_859 : Cond.instanceMethod yX8_reverse ∈ lwT := tb2 (List.mem_of_getElem? (i := 233) rfl) rfl
theorem w_860 : Cond.selects yX8_reverse.cls yX8_reverse yX8_reverse ∈ lwT := tb2 (List.mem_of_getElem? (i := 234) rfl) rfl
theorem w_861 : Cond.methodLink RL 53 yX9_reverse ∈ lwT := tb5 (List.mem_of_getElem? (i := 139) rfl) rfl
theorem w_862 : Cond.instanceMethod yX9_reverse ∈ lwT := tb5 (List.mem_of_getElem? (i := 140) rfl) rfl
theorem w_863 : Cond.selects yX9_reverse.cls yX9_reverse yX9_reverse ∈ lwT := tb5 (List.mem_of_getElem? (i := 141) rfl) rfl
theorem w_864 : Cond.methodLink RL 54 yX8_every ∈ lwT := tb3 (List.mem_of_getElem? (i := 0) rfl) rfl
theorem w_865 : Cond.instanceMethod yX8_every ∈ lwT := tb3 (List.mem_of_getElem? (i := 1) rfl) rfl
theorem w_866 : Cond.selects yX8_every.cls yX8_every yX8_every ∈ lwT := tb3 (List.mem_of_getElem? (i := 2) rfl) rfl
theorem w_867 : Cond.methodLink RL 57 yX9_every ∈ lwT := tb5 (List.mem_of_getElem? (i := 143) rfl) rfl
theorem w_868 : Cond.instanceMethod yX9_every ∈ lwT := tb5 (List.mem_of_getElem? (i := 144) rfl) rfl
theorem w_869 : Cond.selects yX9_every.cls yX9_every yX9_every ∈ lwT := tb5 (List.mem_of_getElem? (i := 145) rfl) rfl
theorem w_870 : Cond.methodLink RL 58 yX8_account ∈ lwT := tb3 (List.mem_of_getElem? (i := 8) rfl) rfl
theorem w_871 : Cond.instanceMethod yX8_account ∈ lwT := tb3 (List.mem_of_getElem? (i := 9) rfl) rfl
theorem w_872 : Cond.selects yX8_account.cls yX8_account yX8_account ∈ lwT := tb3 (List.mem_of_getElem? (i := 10) rfl) rfl
theorem w_873 : Cond.methodLink RL 62 yX9_account ∈ lwT := tb5 (List.mem_of_getElem? (i := 147) rfl) rfl
theorem w_874 : Cond.instanceMethod yX9_account ∈ lwT := tb5 (List.mem_of_getElem? (i := 148) rfl) rfl
theorem w_875 : Cond.selects yX9_account.cls yX9_account yX9_account ∈ lwT := tb5 (List.mem_of_getElem? (i := 149) rfl) rfl
theorem w_876 : Cond.methodLink RL 63 yX8_entry ∈ lwT := tb3 (List.mem_of_getElem? (i := 12) rfl) rfl
theorem w_877 : Cond.instanceMethod yX8_entry ∈ lwT := tb3 (List.mem_of_getElem? (i := 13) rfl) rfl
theorem w_878 : Cond.selects yX8_entry.cls yX8_entry yX8_entry ∈ lwT := tb3 (List.mem_of_getElem? (i := 14) rfl) rfl
theorem w_879 : Cond.methodLink RL 66 yX9_entry ∈ lwT := tb5 (List.mem_of_getElem? (i := 151) rfl) rfl
theorem w_880 : Cond.instanceMethod yX9_entry ∈ lwT := tb5 (List.mem_of_getElem? (i := 152) rfl) rfl
theorem w_881 : Cond.selects yX9_entry.cls yX9_entry yX9_entry ∈ lwT := tb5 (List.mem_of_getElem? (i := 153) rfl) rfl
theorem w_882 : Cond.methodLink RL 67 yX8_data ∈ lwT := tb3 (List.mem_of_getElem? (i := 21) rfl) rfl
theorem w_883 : Cond.instanceMethod yX8_data ∈ lwT := tb3 (List.mem_of_getElem? (i := 22) rfl) rfl
theorem w_884 : Cond.selects yX8_data.cls yX8_data yX8_data ∈ lwT := tb3 (List.mem_of_getElem? (i := 23) rfl) rfl
theorem w_885 : Cond.methodLink RL 70 yX9_data ∈ lwT := tb5 (List.mem_of_getElem? (i := 155) rfl) rfl
theorem w_886 : Cond.instanceMethod yX9_data ∈ lwT := tb5 (List.mem_of_getElem? (i := 156) rfl) rfl
theorem w_887 : Cond.selects yX9_data.cls yX9_data yX9_data ∈ lwT := tb5 (List.mem_of_getElem? (i := 157) rfl) rfl
theorem w_888 : Cond.methodLink RL 71 yX8_alter ∈ lwT := tb3 (List.mem_of_getElem? (i := 26) rfl) rfl
theorem w_889 : Cond.instanceMethod yX8_alter ∈ lwT := tb3 (List.mem_of_getElem? (i := 27) rfl) rfl
theorem w_890 : Cond.selects yX8_alter.cls yX8_alter yX8_alter ∈ lwT := tb3 (List.mem_of_getElem? (i := 28) rfl) rfl
theorem w_891 : Cond.methodLink RL 75 yX9_alter ∈ lwT := tb5 (List.mem_of_getElem? (i := 159) rfl) rfl
theorem w_892 : Cond.instanceMethod yX9_alter ∈ lwT := tb5 (List.mem_of_getElem? (i := 160) rfl) rfl
theorem w_893 : Cond.selects yX9_alter.cls yX9_alter yX9_alter ∈ lwT := tb5 (List.mem_of_getElem? (i := 161) rfl) rfl
theorem w_894 : Cond.methodLink RL 76 yX8_hash ∈ lwT := tb3 (List.mem_of_getElem? (i := 41) rfl) rfl
theorem w_895 : Cond.instanceMethod yX8_hash ∈ lwT := tb3 (List.mem_of_getElem? (i := 42) rfl) rfl
theorem w_896 : Cond.selects yX8_hash.cls yX8_hash yX8_hash ∈ lwT := tb3 (List.mem_of_getElem? (i := 43) rfl) rfl
theorem w_897 : Cond.methodLink RL 80 yX9_hash ∈ lwT := tb5 (List.mem_of_getElem? (i := 163) rfl) rfl
theorem w_898 : Cond.instanceMethod yX9_hash ∈ lwT := tb5 (List.mem_of_getElem? (i := 164) rfl) rfl
theorem w_899 : Cond.selects yX9_hash.cls yX9_hash yX9_hash ∈ lwT := tb5 (List.mem_of_getElem? (i := 165) rfl) rfl
theorem w_900 : Cond.methodLink RL 81 yX8_keep ∈ lwT := tb3 (List.mem_of_getElem? (i := 116) rfl) rfl
theorem w_901 : Cond.instanceMethod yX8_keep ∈ lwT := tb3 (List.mem_of_getElem? (i := 117) rfl) rfl
theorem w_902 : Cond.selects yX8_keep.cls yX8_keep yX8_keep ∈ lwT := tb3 (List.mem_of_getElem? (i := 118) rfl) rfl
theorem w_903 : Cond.methodLink RL 84 yX9_keep ∈ lwT := tb5 (List.mem_of_getElem? (i := 214) rfl) rfl
theorem w_904 : Cond.instanceMethod yX9_keep ∈ lwT := tb5 (List.mem_of_getElem? (i := 215) rfl) rfl
theorem w_905 : Cond.selects yX9_keep.cls yX9_keep yX9_keep ∈ lwT := tb5 (List.mem_of_getElem? (i := 216) rfl) rfl
theorem w_906 : Cond.methodLink RL 85 yX8_verify ∈ lwT := tb3 (List.mem_of_getElem? (i := 121) rfl) rfl
theorem w_907 : Cond.instanceMethod yX8_verify ∈ lwT := tb3 (List.mem_of_getElem? (i := 122) rfl) rfl
theorem w_908 : Cond.selects yX8_verify.cls yX8_verify yX8_verify ∈ lwT := tb3 (List.mem_of_getElem? (i := 123) rfl) rfl
theorem w_909 : Cond.methodLink RL 88 yX9_verify ∈ lwT := tb5 (List.mem_of_getElem? (i := 218) rfl) rfl
theorem w_910 : Cond.instanceMethod yX9_verify ∈ lwT := tb5 (List.mem_of_getElem? (i := 219) rfl) rfl
theorem w_911 : Cond.selects yX9_verify.cls yX9_verify yX9_verify ∈ lwT := tb5 (List.mem_of_getElem? (i := 220) rfl) rfl
theorem w_912 : Cond.methodLink RL 89 yX8_path ∈ lwT := tb3 (List.mem_of_getElem? (i := 128) rfl) rfl
theorem w_913 : Cond.instanceMethod yX8_path ∈ lwT := tb3 (List.mem_of_getElem? (i := 129) rfl) rfl
theorem w_914 : Cond.selects yX8_path.cls yX8_path yX8_path ∈ lwT := tb3 (List.mem_of_getElem? (i := 130) rfl) rfl
theorem w_915 : Cond.methodLink RL 92 yX9_path ∈ lwT := tb5 (List.mem_of_getElem? (i := 226) rfl) rfl
theorem w_916 : Cond.instanceMethod yX9_path ∈ lwT := tb5 (List.mem_of_getElem? (i := 227) rfl) rfl
theorem w_917 : Cond.selects yX9_path.cls yX9_path yX9_path ∈ lwT := tb5 (List.mem_of_getElem? (i := 228) rfl) rfl
theorem w_918 : Cond.methodLink RL 93 yX8_proof ∈ lwT := tb3 (List.mem_of_getElem? (i := 152) rfl) rfl
theorem w_919 : Cond.instanceMethod yX8_proof ∈ lwT := tb3 (List.mem_of_getElem? (i := 153) rfl) rfl
theorem w_920 : Cond.selects yX8_proof.cls yX8_proof yX8_proof ∈ lwT := tb3 (List.mem_of_getElem? (i := 154) rfl) rfl
theorem w_921 : Cond.methodLink RL 96 yX9_proof ∈ lwT := tb6 (List.mem_of_getElem? (i := 5) rfl) rfl
theorem w_922 : Cond.instanceMethod yX9_proof ∈ lwT := tb6 (List.mem_of_getElem? (i := 6) rfl) rfl
theorem w_923 : Cond.selects yX9_proof.cls yX9_proof yX9_proof ∈ lwT := tb6 (List.mem_of_getElem? (i := 7) rfl) rfl
theorem w_924 : Cond.methodLink RL 97 yX8_step ∈ lwT := tb3 (List.mem_of_getElem? (i := 156) rfl) rfl
theorem w_925 : Cond.instanceMethod yX8_step ∈ lwT := tb3 (List.mem_of_getElem? (i := 157) rfl) rfl
theorem w_926 : Cond.selects yX8_step.cls yX8_step yX8_step ∈ lwT := tb3 (List.mem_of_getElem? (i := 158) rfl) rfl
theorem w_927 : Cond.methodLink RL 100 yX9_step_ ∈ lwT := tb6 (List.mem_of_getElem? (i := 9) rfl) rfl
theorem w_928 : Cond.instanceMethod yX9_step_ ∈ lwT := tb6 (List.mem_of_getElem? (i := 10) rfl) rfl
theorem w_929 : Cond.selects yX9_step_.cls yX9_step_ yX9_step_ ∈ lwT := tb6 (List.mem_of_getElem? (i := 11) rfl) rfl
theorem w_930 : Cond.methodLink RL 101 yX8_leads ∈ lwT := tb3 (List.mem_of_getElem? (i := 160) rfl) rfl
theorem w_931 : Cond.instanceMethod yX8_leads ∈ lwT := tb3 (List.mem_of_getElem? (i := 161) rfl) rfl
theorem w_932 : Cond.selects yX8_leads.cls yX8_leads yX8_leads ∈ lwT := tb3 (List.mem_of_getElem? (i := 162) rfl) rfl
theorem w_933 : Cond.methodLink RL 104 yX9_leads ∈ lwT := tb6 (List.mem_of_getElem? (i := 13) rfl) rfl
theorem w_934 : Cond.instanceMethod yX9_leads ∈ lwT := tb6 (List.mem_of_getElem? (i := 14) rfl) rfl
theorem w_935 : Cond.selects yX9_leads.cls yX9_leads yX9_leads ∈ lwT := tb6 (List.mem_of_getElem? (i := 15) rfl) rfl
theorem w_936 : Cond.methodLink RL 105 yX8_audit ∈ lwT := tb3 (List.mem_of_getElem? (i := 186) rfl) rfl
theorem w_937 : Cond.instanceMethod yX8_audit ∈ lwT := tb3 (List.mem_of_getElem? (i := 187) rfl) rfl
theorem w_938 : Cond.selects yX8_audit.cls yX8_audit yX8_audit ∈ lwT := tb3 (List.mem_of_getElem? (i := 188) rfl) rfl
theorem w_939 : Cond.methodLink RL 108 yX9_audit ∈ lwT := tb6 (List.mem_of_getElem? (i := 29) rfl) rfl
theorem w_940 : Cond.instanceMethod yX9_audit ∈ lwT := tb6 (List.mem_of_getElem? (i := 30) rfl) rfl
theorem w_941 : Cond.selects yX9_audit.cls yX9_audit yX9_audit ∈ lwT := tb6 (List.mem_of_getElem? (i := 31) rfl) rfl
theorem w_942 : Cond.methodLink RL 109 yX8_count ∈ lwT := tb3 (List.mem_of_getElem? (i := 229) rfl) rfl
theorem w_943 : Cond.instanceMethod yX8_count ∈ lwT := tb3 (List.mem_of_getElem? (i := 230) rfl) rfl
theorem w_944 : Cond.selects yX8_count.cls yX8_count yX8_count ∈ lwT := tb3 (List.mem_of_getElem? (i := 231) rfl) rfl
theorem w_945 : Cond.methodLink RL 112 yX9_count ∈ lwT := tb6 (List.mem_of_getElem? (i := 57) rfl) rfl
theorem w_946 : Cond.instanceMethod yX9_count ∈ lwT := tb6 (List.mem_of_getElem? (i := 58) rfl) rfl
theorem w_947 : Cond.selects yX9_count.cls yX9_count yX9_count ∈ lwT := tb6 (List.mem_of_getElem? (i := 59) rfl) rfl
theorem w_948 : Cond.classLink RL 7 RX8 ∈ lwT := tb1 (List.mem_of_getElem? (i := 13) rfl) rfl
theorem w_949 : Cond.instanceMethod yX8_init ∈ lwT := tb1 (List.mem_of_getElem? (i := 16) rfl) rfl
theorem w_950 : Cond.methodLink RL 9 yX8_init ∈ lwT := tb1 (List.mem_of_getElem? (i := 15) rfl) rfl
theorem w_951 : Cond.classLink RL 10 RX9 ∈ lwT := tb3 (List.mem_of_getElem? (i := 237) rfl) rfl
theorem w_952 : Cond.instanceMethod yX9_init ∈ lwT := tb4 (List.mem_of_getElem? (i := 0) rfl) rfl
theorem w_953 : Cond.methodLink RL 12 yX9_init ∈ lwT := tb3 (List.mem_of_getElem? (i := 239) rfl) rfl
theorem nw_3 : NwOk 3 18 RX3 := ⟨TX3, tyX3, rfl, inX3, tyX3_ok, by decide +kernel, tb1 (List.mem_of_getElem? (i := 22) rfl) rfl, tb1 (List.mem_of_getElem? (i := 2) rfl) rfl⟩
theorem fd_3_0 : FdOk 3 0 (.array .long) true "ChainBooks$Ledger" "floor" "[J" := ⟨RX3, TX3, 18, tyX3, rfl, inX3, by decide, rfl, rfl, tyX3_ok, nmX3, by decide +kernel⟩
theorem fd_3_1 : FdOk 3 1 (.array .long) true "ChainBooks$Ledger" "balance" "[J" := ⟨RX3, TX3, 18, tyX3, rfl, inX3, by decide, rfl, rfl, tyX3_ok, nmX3, by decide +kernel⟩
theorem fd_3_2 : FdOk 3 2 (.array .long) true "ChainBooks$Ledger" "held" "[J" := ⟨RX3, TX3, 18, tyX3, rfl, inX3, by decide, rfl, rfl, tyX3_ok, nmX3, by decide +kernel⟩
theorem fd_3_3 : FdOk 3 3 (.array .long) true "ChainBooks$Ledger" "balanceBehind" "[J" := ⟨RX3, TX3, 18, tyX3, rfl, inX3, by decide, rfl, rfl, tyX3_ok, nmX3, by decide +kernel⟩
theorem fd_3_5 : FdOk 3 5 (.array .byte) true "ChainBooks$Ledger" "made" "[B" := ⟨RX3, TX3, 18, tyX3, rfl, inX3, by decide, rfl, rfl, tyX3_ok, nmX3, by decide +kernel⟩
theorem fd_3_6 : FdOk 3 6 (.array .int) true "ChainBooks$Ledger" "start" "[I" := ⟨RX3, TX3, 18, tyX3, rfl, inX3, by decide, rfl, rfl, tyX3_ok, nmX3, by decide +kernel⟩
theorem fd_3_7 : FdOk 3 7 (.array .long) true "ChainBooks$Ledger" "keys" "[J" := ⟨RX3, TX3, 18, tyX3, rfl, inX3, by decide, rfl, rfl, tyX3_ok, nmX3, by decide +kernel⟩
theorem fd_3_8 : FdOk 3 8 (.array .int) true "ChainBooks$Ledger" "endedBy" "[I" := ⟨RX3, TX3, 18, tyX3, rfl, inX3, by decide, rfl, rfl, tyX3_ok, nmX3, by decide +kernel⟩
theorem fd_3_9 : FdOk 3 9 (.array .int) true "ChainBooks$Ledger" "legCount" "[I" := ⟨RX3, TX3, 18, tyX3, rfl, inX3, by decide, rfl, rfl, tyX3_ok, nmX3, by decide +kernel⟩
theorem fd_3_10 : FdOk 3 10 (.array .int) true "ChainBooks$Ledger" "legAccount" "[I" := ⟨RX3, TX3, 18, tyX3, rfl, inX3, by decide, rfl, rfl, tyX3_ok, nmX3, by decide +kernel⟩
theorem fd_3_11 : FdOk 3 11 (.array .long) true "ChainBooks$Ledger" "legAmount" "[J" := ⟨RX3, TX3, 18, tyX3, rfl, inX3, by decide, rfl, rfl, tyX3_ok, nmX3, by decide +kernel⟩
theorem nw_1 : NwOk 1 2 RX1 := ⟨TX1, tyX1, rfl, inX1, tyX1_ok, by decide +kernel, tb1 (List.mem_of_getElem? (i := 28) rfl) rfl, tb1 (List.mem_of_getElem? (i := 3) rfl) rfl⟩
theorem fd_1_0 : FdOk 1 0 (.array .byte) true "ChainBooks$Draft" "bytes" "[B" := ⟨RX1, TX1, 2, tyX1, rfl, inX1, by decide, rfl, rfl, tyX1_ok, nmX1, by decide +kernel⟩
theorem fd_3_13 : FdOk 3 13 (.object "ChainBooks$Draft") true "ChainBooks$Ledger" "draft" "LChainBooks$Draft;" := ⟨RX3, TX3, 18, tyX3, rfl, inX3, by decide, rfl, rfl, tyX3_ok, nmX3, by decide +kernel⟩
theorem nw_4 : NwOk 4 3 RX4 := ⟨TX4, tyX4, rfl, inX4, tyX4_ok, by decide +kernel, tb1 (List.mem_of_getElem? (i := 46) rfl) rfl, tb1 (List.mem_of_getElem? (i := 4) rfl) rfl⟩
theorem fd_4_0 : FdOk 4 0 (.array .int) true "ChainBooks$Legs" "account" "[I" := ⟨RX4, TX4, 3, tyX4, rfl, inX4, by decide, rfl, rfl, tyX4_ok, nmX4, by decide +kernel⟩
theorem fd_4_1 : FdOk 4 1 (.array .long) true "ChainBooks$Legs" "amount" "[J" := ⟨RX4, TX4, 3, tyX4, rfl, inX4, by decide, rfl, rfl, tyX4_ok, nmX4, by decide +kernel⟩
theorem fd_3_14 : FdOk 3 14 (.object "ChainBooks$Legs") true "ChainBooks$Ledger" "moving" "LChainBooks$Legs;" := ⟨RX3, TX3, 18, tyX3, rfl, inX3, by decide, rfl, rfl, tyX3_ok, nmX3, by decide +kernel⟩
theorem fd_0_0 : FdOk 0 0 (.object "ChainBooks$Ledger") true "ChainBooks$Auditor" "mirror" "LChainBooks$Ledger;" := ⟨RX0, TX0, 2, tyX0, rfl, inX0, by decide, rfl, rfl, tyX0_ok, nmX0, by decide +kernel⟩
theorem fd_0_1 : FdOk 0 1 (.object "ChainBooks$Legs") true "ChainBooks$Auditor" "legs" "LChainBooks$Legs;" := ⟨RX0, TX0, 2, tyX0, rfl, inX0, by decide, rfl, rfl, tyX0_ok, nmX0, by decide +kernel⟩
theorem fd_3_12 : FdOk 3 12 .int false "ChainBooks$Ledger" "entries" "I" := ⟨RX3, TX3, 18, tyX3, rfl, inX3, by decide, rfl, rfl, tyX3_ok, nmX3, by decide +kernel⟩
theorem fd_5_0 : FdOk 5 0 (.array .byte) true "ChainBooks$Pages" "now" "[B" := ⟨RX5, TX5, 8, tyX5, rfl, inX5, by decide, rfl, rfl, tyX5_ok, nmX5, by decide +kernel⟩
theorem fd_5_1 : FdOk 5 1 (.array .int) true "ChainBooks$Pages" "start" "[I" := ⟨RX5, TX5, 8, tyX5, rfl, inX5, by decide, rfl, rfl, tyX5_ok, nmX5, by decide +kernel⟩
theorem fd_5_2 : FdOk 5 2 .int false "ChainBooks$Pages" "entries" "I" := ⟨RX5, TX5, 8, tyX5, rfl, inX5, by decide, rfl, rfl, tyX5_ok, nmX5, by decide +kernel⟩
theorem fd_3_4 : FdOk 3 4 .int false "ChainBooks$Ledger" "accounts" "I" := ⟨RX3, TX3, 18, tyX3, rfl, inX3, by decide, rfl, rfl, tyX3_ok, nmX3, by decide +kernel⟩
theorem fd_1_1 : FdOk 1 1 .int false "ChainBooks$Draft" "size" "I" := ⟨RX1, TX1, 2, tyX1, rfl, inX1, by decide, rfl, rfl, tyX1_ok, nmX1, by decide +kernel⟩
theorem fd_4_2 : FdOk 4 2 .int false "ChainBooks$Legs" "size" "I" := ⟨RX4, TX4, 3, tyX4, rfl, inX4, by decide, rfl, rfl, tyX4_ok, nmX4, by decide +kernel⟩
theorem fd_3_17 : FdOk 3 17 .int false "ChainBooks$Ledger" "sinceTrial" "I" := ⟨RX3, TX3, 18, tyX3, rfl, inX3, by decide, rfl, rfl, tyX3_ok, nmX3, by decide +kernel⟩
theorem fd_3_16 : FdOk 3 16 .int false "ChainBooks$Ledger" "every" "I" := ⟨RX3, TX3, 18, tyX3, rfl, inX3, by decide, rfl, rfl, tyX3_ok, nmX3, by decide +kernel⟩
theorem fd_3_15 : FdOk 3 15 .int false "ChainBooks$Ledger" "holdsThere" "I" := ⟨RX3, TX3, 18, tyX3, rfl, inX3, by decide, rfl, rfl, tyX3_ok, nmX3, by decide +kernel⟩
theorem fd_2_0 : FdOk 2 0 (.array .int) true "ChainBooks$Head" "chain" "[I" := ⟨RX2, TX2, 3, tyX2, rfl, inX2, by decide, rfl, rfl, tyX2_ok, nmX2, by decide +kernel⟩
theorem fd_2_1 : FdOk 2 1 (.array .int) true "ChainBooks$Head" "tree" "[I" := ⟨RX2, TX2, 3, tyX2, rfl, inX2, by decide, rfl, rfl, tyX2_ok, nmX2, by decide +kernel⟩
theorem fd_2_2 : FdOk 2 2 .int false "ChainBooks$Head" "entries" "I" := ⟨RX2, TX2, 3, tyX2, rfl, inX2, by decide, rfl, rfl, tyX2_ok, nmX2, by decide +kernel⟩
theorem nw_6 : NwOk 6 4 RX6 := ⟨TX6, tyX6, rfl, inX6, tyX6_ok, by decide +kernel, tb1 (List.mem_of_getElem? (i := 151) rfl) rfl, tb1 (List.mem_of_getElem? (i := 6) rfl) rfl⟩
theorem fd_6_0 : FdOk 6 0 (.array .byte) true "ChainBooks$Sha" "text" "[B" := ⟨RX6, TX6, 4, tyX6, rfl, inX6, by decide, rfl, rfl, tyX6_ok, nmX6, by decide +kernel⟩
theorem fd_6_2 : FdOk 6 2 (.array .int) true "ChainBooks$Sha" "schedule" "[I" := ⟨RX6, TX6, 4, tyX6, rfl, inX6, by decide, rfl, rfl, tyX6_ok, nmX6, by decide +kernel⟩
theorem fd_6_3 : FdOk 6 3 (.array .int) true "ChainBooks$Sha" "state" "[I" := ⟨RX6, TX6, 4, tyX6, rfl, inX6, by decide, rfl, rfl, tyX6_ok, nmX6, by decide +kernel⟩
theorem fd_5_3 : FdOk 5 3 (.object "ChainBooks$Sha") true "ChainBooks$Pages" "sha" "LChainBooks$Sha;" := ⟨RX5, TX5, 8, tyX5, rfl, inX5, by decide, rfl, rfl, tyX5_ok, nmX5, by decide +kernel⟩
theorem fd_5_4 : FdOk 5 4 (.array (.array .int)) true "ChainBooks$Pages" "chain" "[[I" := ⟨RX5, TX5, 8, tyX5, rfl, inX5, by decide, rfl, rfl, tyX5_ok, nmX5, by decide +kernel⟩
theorem fd_5_6 : FdOk 5 6 (.array (.array .int)) true "ChainBooks$Pages" "nodes" "[[I" := ⟨RX5, TX5, 8, tyX5, rfl, inX5, by decide, rfl, rfl, tyX5_ok, nmX5, by decide +kernel⟩
theorem fd_5_7 : FdOk 5 7 (.array .boolean) true "ChainBooks$Pages" "known" "[Z" := ⟨RX5, TX5, 8, tyX5, rfl, inX5, by decide, rfl, rfl, tyX5_ok, nmX5, by decide +kernel⟩
theorem fd_5_5 : FdOk 5 5 .int false "ChainBooks$Pages" "chained" "I" := ⟨RX5, TX5, 8, tyX5, rfl, inX5, by decide, rfl, rfl, tyX5_ok, nmX5, by decide +kernel⟩
theorem fd_6_1 : FdOk 6 1 .int false "ChainBooks$Sha" "size" "I" := ⟨RX6, TX6, 4, tyX6, rfl, inX6, by decide, rfl, rfl, tyX6_ok, nmX6, by decide +kernel⟩
theorem fd_7_0 : FdOk 7 0 (.array (.array .int)) true "ChainBooks$Trail" "hashes" "[[I" := ⟨RX7, TX7, 15, tyX7, rfl, inX7, by decide, rfl, rfl, tyX7_ok, nmX7, by decide +kernel⟩
theorem fd_7_6 : FdOk 7 6 (.array .boolean) true "ChainBooks$Trail" "wentRight" "[Z" := ⟨RX7, TX7, 15, tyX7, rfl, inX7, by decide, rfl, rfl, tyX7_ok, nmX7, by decide +kernel⟩
theorem fd_7_7 : FdOk 7 7 (.array .int) true "ChainBooks$Trail" "asideFirst" "[I" := ⟨RX7, TX7, 15, tyX7, rfl, inX7, by decide, rfl, rfl, tyX7_ok, nmX7, by decide +kernel⟩
theorem fd_7_8 : FdOk 7 8 (.array .int) true "ChainBooks$Trail" "asideSize" "[I" := ⟨RX7, TX7, 15, tyX7, rfl, inX7, by decide, rfl, rfl, tyX7_ok, nmX7, by decide +kernel⟩
theorem fd_7_12 : FdOk 7 12 (.object "ChainBooks$Sha") true "ChainBooks$Trail" "sha" "LChainBooks$Sha;" := ⟨RX7, TX7, 15, tyX7, rfl, inX7, by decide, rfl, rfl, tyX7_ok, nmX7, by decide +kernel⟩
theorem fd_7_13 : FdOk 7 13 (.array .int) true "ChainBooks$Trail" "older" "[I" := ⟨RX7, TX7, 15, tyX7, rfl, inX7, by decide, rfl, rfl, tyX7_ok, nmX7, by decide +kernel⟩
theorem fd_7_14 : FdOk 7 14 (.array .int) true "ChainBooks$Trail" "newer" "[I" := ⟨RX7, TX7, 15, tyX7, rfl, inX7, by decide, rfl, rfl, tyX7_ok, nmX7, by decide +kernel⟩
theorem fd_7_1 : FdOk 7 1 .int false "ChainBooks$Trail" "steps" "I" := ⟨RX7, TX7, 15, tyX7, rfl, inX7, by decide, rfl, rfl, tyX7_ok, nmX7, by decide +kernel⟩
theorem fd_7_9 : FdOk 7 9 .int false "ChainBooks$Trail" "turns" "I" := ⟨RX7, TX7, 15, tyX7, rfl, inX7, by decide, rfl, rfl, tyX7_ok, nmX7, by decide +kernel⟩
theorem fd_7_11 : FdOk 7 11 .int false "ChainBooks$Trail" "endSize" "I" := ⟨RX7, TX7, 15, tyX7, rfl, inX7, by decide, rfl, rfl, tyX7_ok, nmX7, by decide +kernel⟩
theorem fd_7_10 : FdOk 7 10 .int false "ChainBooks$Trail" "endFirst" "I" := ⟨RX7, TX7, 15, tyX7, rfl, inX7, by decide, rfl, rfl, tyX7_ok, nmX7, by decide +kernel⟩
theorem fd_7_3 : FdOk 7 3 .boolean false "ChainBooks$Trail" "isProof" "Z" := ⟨RX7, TX7, 15, tyX7, rfl, inX7, by decide, rfl, rfl, tyX7_ok, nmX7, by decide +kernel⟩
theorem fd_7_5 : FdOk 7 5 .int false "ChainBooks$Trail" "till" "I" := ⟨RX7, TX7, 15, tyX7, rfl, inX7, by decide, rfl, rfl, tyX7_ok, nmX7, by decide +kernel⟩
theorem fd_7_2 : FdOk 7 2 .boolean false "ChainBooks$Trail" "isMade" "Z" := ⟨RX7, TX7, 15, tyX7, rfl, inX7, by decide, rfl, rfl, tyX7_ok, nmX7, by decide +kernel⟩
theorem fd_7_4 : FdOk 7 4 .int false "ChainBooks$Trail" "from" "I" := ⟨RX7, TX7, 15, tyX7, rfl, inX7, by decide, rfl, rfl, tyX7_ok, nmX7, by decide +kernel⟩
theorem nw_7 : NwOk 7 15 RX7 := ⟨TX7, tyX7, rfl, inX7, tyX7_ok, by decide +kernel, tb1 (List.mem_of_getElem? (i := 222) rfl) rfl, tb1 (List.mem_of_getElem? (i := 8) rfl) rfl⟩
theorem fd_8_5 : FdOk 8 5 (.object "ChainBooks$Trail") true "ChainBooks" "trail" "LChainBooks$Trail;" := ⟨RX8, TX8, 8, tyX8, rfl, inX8, by decide, rfl, rfl, tyX8_ok, nmX8, by decide +kernel⟩
theorem nw_0 : NwOk 0 2 RX0 := ⟨TX0, tyX0, rfl, inX0, tyX0_ok, by decide +kernel, tb2 (List.mem_of_getElem? (i := 43) rfl) rfl, tb1 (List.mem_of_getElem? (i := 9) rfl) rfl⟩
theorem fd_8_6 : FdOk 8 6 (.object "ChainBooks$Auditor") true "ChainBooks" "auditor" "LChainBooks$Auditor;" := ⟨RX8, TX8, 8, tyX8, rfl, inX8, by decide, rfl, rfl, tyX8_ok, nmX8, by decide +kernel⟩
theorem fd_8_7 : FdOk 8 7 (.array .int) true "ChainBooks" "spareHash" "[I" := ⟨RX8, TX8, 8, tyX8, rfl, inX8, by decide, rfl, rfl, tyX8_ok, nmX8, by decide +kernel⟩
theorem fd_8_4 : FdOk 8 4 (.array (.object "ChainBooks$Head")) true "ChainBooks" "heads" "[LChainBooks$Head;" := ⟨RX8, TX8, 8, tyX8, rfl, inX8, by decide, rfl, rfl, tyX8_ok, nmX8, by decide +kernel⟩
theorem nw_2 : NwOk 2 3 RX2 := ⟨TX2, tyX2, rfl, inX2, tyX2_ok, by decide +kernel, tb1 (List.mem_of_getElem? (i := 202) rfl) rfl, tb1 (List.mem_of_getElem? (i := 7) rfl) rfl⟩
theorem nw_5 : NwOk 5 8 RX5 := ⟨TX5, tyX5, rfl, inX5, tyX5_ok, by decide +kernel, tb1 (List.mem_of_getElem? (i := 145) rfl) rfl, tb1 (List.mem_of_getElem? (i := 5) rfl) rfl⟩
theorem fd_8_3 : FdOk 8 3 (.object "ChainBooks$Pages") true "ChainBooks" "pages" "LChainBooks$Pages;" := ⟨RX8, TX8, 8, tyX8, rfl, inX8, by decide, rfl, rfl, tyX8_ok, nmX8, by decide +kernel⟩
theorem fd_8_2 : FdOk 8 2 (.array .int) true "ChainBooks" "everyTold" "[I" := ⟨RX8, TX8, 8, tyX8, rfl, inX8, by decide, rfl, rfl, tyX8_ok, nmX8, by decide +kernel⟩
theorem fd_8_0 : FdOk 8 0 (.object "ChainBooks$Ledger") true "ChainBooks" "ledger" "LChainBooks$Ledger;" := ⟨RX8, TX8, 8, tyX8, rfl, inX8, by decide, rfl, rfl, tyX8_ok, nmX8, by decide +kernel⟩
theorem fd_8_1 : FdOk 8 1 (.object "ChainBooks$Legs") true "ChainBooks" "told" "LChainBooks$Legs;" := ⟨RX8, TX8, 8, tyX8, rfl, inX8, by decide, rfl, rfl, tyX8_ok, nmX8, by decide +kernel⟩
theorem fd_9_0 : FdOk 9 0 (.array .int) true "ChainBooksModel" "accounts" "[I" := ⟨RX9, TX9, 67, tyX9, rfl, inX9, by decide, rfl, rfl, tyX9_ok, nmX9, by decide +kernel⟩
theorem fd_9_1 : FdOk 9 1 (.array .int) true "ChainBooksModel" "entries" "[I" := ⟨RX9, TX9, 67, tyX9, rfl, inX9, by decide, rfl, rfl, tyX9_ok, nmX9, by decide +kernel⟩
theorem fd_9_2 : FdOk 9 2 (.array .int) true "ChainBooksModel" "every" "[I" := ⟨RX9, TX9, 67, tyX9, rfl, inX9, by decide, rfl, rfl, tyX9_ok, nmX9, by decide +kernel⟩
theorem fd_9_3 : FdOk 9 3 (.array .int) true "ChainBooksModel" "since" "[I" := ⟨RX9, TX9, 67, tyX9, rfl, inX9, by decide, rfl, rfl, tyX9_ok, nmX9, by decide +kernel⟩
theorem fd_9_4 : FdOk 9 4 (.array .boolean) true "ChainBooksModel" "isDue" "[Z" := ⟨RX9, TX9, 67, tyX9, rfl, inX9, by decide, rfl, rfl, tyX9_ok, nmX9, by decide +kernel⟩
theorem fd_9_5 : FdOk 9 5 (.array .long) true "ChainBooksModel" "floor" "[J" := ⟨RX9, TX9, 67, tyX9, rfl, inX9, by decide, rfl, rfl, tyX9_ok, nmX9, by decide +kernel⟩
theorem fd_9_6 : FdOk 9 6 (.array .long) true "ChainBooksModel" "balance" "[J" := ⟨RX9, TX9, 67, tyX9, rfl, inX9, by decide, rfl, rfl, tyX9_ok, nmX9, by decide +kernel⟩
theorem fd_9_7 : FdOk 9 7 (.array .long) true "ChainBooksModel" "heldHigh" "[J" := ⟨RX9, TX9, 67, tyX9, rfl, inX9, by decide, rfl, rfl, tyX9_ok, nmX9, by decide +kernel⟩
theorem fd_9_8 : FdOk 9 8 (.array .long) true "ChainBooksModel" "heldLow" "[J" := ⟨RX9, TX9, 67, tyX9, rfl, inX9, by decide, rfl, rfl, tyX9_ok, nmX9, by decide +kernel⟩
theorem fd_9_9 : FdOk 9 9 (.array .int) true "ChainBooksModel" "kind" "[I" := ⟨RX9, TX9, 67, tyX9, rfl, inX9, by decide, rfl, rfl, tyX9_ok, nmX9, by decide +kernel⟩
theorem fd_9_10 : FdOk 9 10 (.array .long) true "ChainBooksModel" "keys" "[J" := ⟨RX9, TX9, 67, tyX9, rfl, inX9, by decide, rfl, rfl, tyX9_ok, nmX9, by decide +kernel⟩
theorem fd_9_11 : FdOk 9 11 (.array .int) true "ChainBooksModel" "legs" "[I" := ⟨RX9, TX9, 67, tyX9, rfl, inX9, by decide, rfl, rfl, tyX9_ok, nmX9, by decide +kernel⟩
theorem fd_9_12 : FdOk 9 12 (.array .int) true "ChainBooksModel" "legAccount" "[I" := ⟨RX9, TX9, 67, tyX9, rfl, inX9, by decide, rfl, rfl, tyX9_ok, nmX9, by decide +kernel⟩
theorem fd_9_13 : FdOk 9 13 (.array .long) true "ChainBooksModel" "legAmount" "[J" := ⟨RX9, TX9, 67, tyX9, rfl, inX9, by decide, rfl, rfl, tyX9_ok, nmX9, by decide +kernel⟩
theorem fd_9_14 : FdOk 9 14 (.array .int) true "ChainBooksModel" "holdAccount" "[I" := ⟨RX9, TX9, 67, tyX9, rfl, inX9, by decide, rfl, rfl, tyX9_ok, nmX9, by decide +kernel⟩
theorem fd_9_15 : FdOk 9 15 (.array .long) true "ChainBooksModel" "holdAmount" "[J" := ⟨RX9, TX9, 67, tyX9, rfl, inX9, by decide, rfl, rfl, tyX9_ok, nmX9, by decide +kernel⟩
theorem fd_9_16 : FdOk 9 16 (.array .boolean) true "ChainBooksModel" "isThere" "[Z" := ⟨RX9, TX9, 67, tyX9, rfl, inX9, by decide, rfl, rfl, tyX9_ok, nmX9, by decide +kernel⟩
theorem fd_9_17 : FdOk 9 17 (.array .int) true "ChainBooksModel" "endedBy" "[I" := ⟨RX9, TX9, 67, tyX9, rfl, inX9, by decide, rfl, rfl, tyX9_ok, nmX9, by decide +kernel⟩
theorem fd_9_18 : FdOk 9 18 (.array .int) true "ChainBooksModel" "data" "[I" := ⟨RX9, TX9, 67, tyX9, rfl, inX9, by decide, rfl, rfl, tyX9_ok, nmX9, by decide +kernel⟩
theorem fd_9_19 : FdOk 9 19 (.array .int) true "ChainBooksModel" "made" "[I" := ⟨RX9, TX9, 67, tyX9, rfl, inX9, by decide, rfl, rfl, tyX9_ok, nmX9, by decide +kernel⟩
theorem fd_9_21 : FdOk 9 21 (.array .int) true "ChainBooksModel" "begin" "[I" := ⟨RX9, TX9, 67, tyX9, rfl, inX9, by decide, rfl, rfl, tyX9_ok, nmX9, by decide +kernel⟩
theorem fd_9_22 : FdOk 9 22 (.array .int) true "ChainBooksModel" "size" "[I" := ⟨RX9, TX9, 67, tyX9, rfl, inX9, by decide, rfl, rfl, tyX9_ok, nmX9, by decide +kernel⟩
theorem fd_9_23 : FdOk 9 23 (.array .int) true "ChainBooksModel" "toldAt" "[I" := ⟨RX9, TX9, 67, tyX9, rfl, inX9, by decide, rfl, rfl, tyX9_ok, nmX9, by decide +kernel⟩
theorem fd_9_24 : FdOk 9 24 (.array .int) true "ChainBooksModel" "toldEvery" "[I" := ⟨RX9, TX9, 67, tyX9, rfl, inX9, by decide, rfl, rfl, tyX9_ok, nmX9, by decide +kernel⟩
theorem fd_9_32 : FdOk 9 32 (.array .int) true "ChainBooksModel" "cLegAccount" "[I" := ⟨RX9, TX9, 67, tyX9, rfl, inX9, by decide, rfl, rfl, tyX9_ok, nmX9, by decide +kernel⟩
theorem fd_9_33 : FdOk 9 33 (.array .long) true "ChainBooksModel" "cLegAmount" "[J" := ⟨RX9, TX9, 67, tyX9, rfl, inX9, by decide, rfl, rfl, tyX9_ok, nmX9, by decide +kernel⟩
theorem fd_9_34 : FdOk 9 34 (.array .int) true "ChainBooksModel" "row" "[I" := ⟨RX9, TX9, 67, tyX9, rfl, inX9, by decide, rfl, rfl, tyX9_ok, nmX9, by decide +kernel⟩
theorem fd_9_36 : FdOk 9 36 (.array .long) true "ChainBooksModel" "after" "[J" := ⟨RX9, TX9, 67, tyX9, rfl, inX9, by decide, rfl, rfl, tyX9_ok, nmX9, by decide +kernel⟩
theorem fd_9_38 : FdOk 9 38 (.array .int) true "ChainBooksModel" "toldAccount" "[I" := ⟨RX9, TX9, 67, tyX9, rfl, inX9, by decide, rfl, rfl, tyX9_ok, nmX9, by decide +kernel⟩
theorem fd_9_39 : FdOk 9 39 (.array .long) true "ChainBooksModel" "toldAmount" "[J" := ⟨RX9, TX9, 67, tyX9, rfl, inX9, by decide, rfl, rfl, tyX9_ok, nmX9, by decide +kernel⟩
theorem fd_9_40 : FdOk 9 40 (.array .int) true "ChainBooksModel" "rounds" "[I" := ⟨RX9, TX9, 67, tyX9, rfl, inX9, by decide, rfl, rfl, tyX9_ok, nmX9, by decide +kernel⟩
theorem fd_9_41 : FdOk 9 41 (.array .int) true "ChainBooksModel" "message" "[I" := ⟨RX9, TX9, 67, tyX9, rfl, inX9, by decide, rfl, rfl, tyX9_ok, nmX9, by decide +kernel⟩
theorem fd_9_43 : FdOk 9 43 (.array .int) true "ChainBooksModel" "words" "[I" := ⟨RX9, TX9, 67, tyX9, rfl, inX9, by decide, rfl, rfl, tyX9_ok, nmX9, by decide +kernel⟩
theorem fd_9_44 : FdOk 9 44 (.array .int) true "ChainBooksModel" "state" "[I" := ⟨RX9, TX9, 67, tyX9, rfl, inX9, by decide, rfl, rfl, tyX9_ok, nmX9, by decide +kernel⟩
theorem fd_9_45 : FdOk 9 45 (.array .int) true "ChainBooksModel" "hash" "[I" := ⟨RX9, TX9, 67, tyX9, rfl, inX9, by decide, rfl, rfl, tyX9_ok, nmX9, by decide +kernel⟩
theorem fd_9_46 : FdOk 9 46 (.array .int) true "ChainBooksModel" "waits" "[I" := ⟨RX9, TX9, 67, tyX9, rfl, inX9, by decide, rfl, rfl, tyX9_ok, nmX9, by decide +kernel⟩
theorem fd_9_47 : FdOk 9 47 (.array .int) true "ChainBooksModel" "waitSize" "[I" := ⟨RX9, TX9, 67, tyX9, rfl, inX9, by decide, rfl, rfl, tyX9_ok, nmX9, by decide +kernel⟩
theorem fd_9_48 : FdOk 9 48 (.array .int) true "ChainBooksModel" "headMany" "[I" := ⟨RX9, TX9, 67, tyX9, rfl, inX9, by decide, rfl, rfl, tyX9_ok, nmX9, by decide +kernel⟩
theorem fd_9_49 : FdOk 9 49 (.array .boolean) true "ChainBooksModel" "isKept" "[Z" := ⟨RX9, TX9, 67, tyX9, rfl, inX9, by decide, rfl, rfl, tyX9_ok, nmX9, by decide +kernel⟩
theorem fd_9_50 : FdOk 9 50 (.array .int) true "ChainBooksModel" "headChain" "[I" := ⟨RX9, TX9, 67, tyX9, rfl, inX9, by decide, rfl, rfl, tyX9_ok, nmX9, by decide +kernel⟩
theorem fd_9_51 : FdOk 9 51 (.array .int) true "ChainBooksModel" "headTree" "[I" := ⟨RX9, TX9, 67, tyX9, rfl, inX9, by decide, rfl, rfl, tyX9_ok, nmX9, by decide +kernel⟩
theorem fd_9_56 : FdOk 9 56 (.array .int) true "ChainBooksModel" "stepHash" "[I" := ⟨RX9, TX9, 67, tyX9, rfl, inX9, by decide, rfl, rfl, tyX9_ok, nmX9, by decide +kernel⟩
theorem fd_9_57 : FdOk 9 57 (.array .boolean) true "ChainBooksModel" "isLeft" "[Z" := ⟨RX9, TX9, 67, tyX9, rfl, inX9, by decide, rfl, rfl, tyX9_ok, nmX9, by decide +kernel⟩
theorem fd_9_58 : FdOk 9 58 (.array .int) true "ChainBooksModel" "sideFrom" "[I" := ⟨RX9, TX9, 67, tyX9, rfl, inX9, by decide, rfl, rfl, tyX9_ok, nmX9, by decide +kernel⟩
theorem fd_9_59 : FdOk 9 59 (.array .int) true "ChainBooksModel" "sideTo" "[I" := ⟨RX9, TX9, 67, tyX9, rfl, inX9, by decide, rfl, rfl, tyX9_ok, nmX9, by decide +kernel⟩
theorem fd_9_64 : FdOk 9 64 (.array .int) true "ChainBooksModel" "older" "[I" := ⟨RX9, TX9, 67, tyX9, rfl, inX9, by decide, rfl, rfl, tyX9_ok, nmX9, by decide +kernel⟩
theorem fd_9_65 : FdOk 9 65 (.array .int) true "ChainBooksModel" "newer" "[I" := ⟨RX9, TX9, 67, tyX9, rfl, inX9, by decide, rfl, rfl, tyX9_ok, nmX9, by decide +kernel⟩
theorem fd_9_26 : FdOk 9 26 .int false "ChainBooksModel" "cKind" "I" := ⟨RX9, TX9, 67, tyX9, rfl, inX9, by decide, rfl, rfl, tyX9_ok, nmX9, by decide +kernel⟩
theorem fd_9_30 : FdOk 9 30 .long false "ChainBooksModel" "cKey" "J" := ⟨RX9, TX9, 67, tyX9, rfl, inX9, by decide, rfl, rfl, tyX9_ok, nmX9, by decide +kernel⟩
theorem fd_9_27 : FdOk 9 27 .int false "ChainBooksModel" "cLegs" "I" := ⟨RX9, TX9, 67, tyX9, rfl, inX9, by decide, rfl, rfl, tyX9_ok, nmX9, by decide +kernel⟩
theorem fd_9_28 : FdOk 9 28 .int false "ChainBooksModel" "cEntry" "I" := ⟨RX9, TX9, 67, tyX9, rfl, inX9, by decide, rfl, rfl, tyX9_ok, nmX9, by decide +kernel⟩
theorem fd_9_29 : FdOk 9 29 .int false "ChainBooksModel" "cAccount" "I" := ⟨RX9, TX9, 67, tyX9, rfl, inX9, by decide, rfl, rfl, tyX9_ok, nmX9, by decide +kernel⟩
theorem fd_9_31 : FdOk 9 31 .long false "ChainBooksModel" "cAmount" "J" := ⟨RX9, TX9, 67, tyX9, rfl, inX9, by decide, rfl, rfl, tyX9_ok, nmX9, by decide +kernel⟩
theorem fd_9_35 : FdOk 9 35 .int false "ChainBooksModel" "rowSize" "I" := ⟨RX9, TX9, 67, tyX9, rfl, inX9, by decide, rfl, rfl, tyX9_ok, nmX9, by decide +kernel⟩
theorem fd_9_20 : FdOk 9 20 .int false "ChainBooksModel" "bytes" "I" := ⟨RX9, TX9, 67, tyX9, rfl, inX9, by decide, rfl, rfl, tyX9_ok, nmX9, by decide +kernel⟩
theorem fd_9_37 : FdOk 9 37 .int false "ChainBooksModel" "told" "I" := ⟨RX9, TX9, 67, tyX9, rfl, inX9, by decide, rfl, rfl, tyX9_ok, nmX9, by decide +kernel⟩
theorem fd_9_25 : FdOk 9 25 .int false "ChainBooksModel" "tolds" "I" := ⟨RX9, TX9, 67, tyX9, rfl, inX9, by decide, rfl, rfl, tyX9_ok, nmX9, by decide +kernel⟩
theorem fd_9_42 : FdOk 9 42 .int false "ChainBooksModel" "length" "I" := ⟨RX9, TX9, 67, tyX9, rfl, inX9, by decide, rfl, rfl, tyX9_ok, nmX9, by decide +kernel⟩
theorem fd_9_61 : FdOk 9 61 .int false "ChainBooksModel" "downFrom" "I" := ⟨RX9, TX9, 67, tyX9, rfl, inX9, by decide, rfl, rfl, tyX9_ok, nmX9, by decide +kernel⟩
theorem fd_9_62 : FdOk 9 62 .int false "ChainBooksModel" "downTo" "I" := ⟨RX9, TX9, 67, tyX9, rfl, inX9, by decide, rfl, rfl, tyX9_ok, nmX9, by decide +kernel⟩
theorem fd_9_60 : FdOk 9 60 .int false "ChainBooksModel" "ways" "I" := ⟨RX9, TX9, 67, tyX9, rfl, inX9, by decide, rfl, rfl, tyX9_ok, nmX9, by decide +kernel⟩
theorem fd_9_63 : FdOk 9 63 .boolean false "ChainBooksModel" "isWhole" "Z" := ⟨RX9, TX9, 67, tyX9, rfl, inX9, by decide, rfl, rfl, tyX9_ok, nmX9, by decide +kernel⟩
theorem fd_9_55 : FdOk 9 55 .int false "ChainBooksModel" "steps" "I" := ⟨RX9, TX9, 67, tyX9, rfl, inX9, by decide, rfl, rfl, tyX9_ok, nmX9, by decide +kernel⟩
theorem fd_9_52 : FdOk 9 52 .int false "ChainBooksModel" "sort" "I" := ⟨RX9, TX9, 67, tyX9, rfl, inX9, by decide, rfl, rfl, tyX9_ok, nmX9, by decide +kernel⟩
theorem fd_9_53 : FdOk 9 53 .int false "ChainBooksModel" "first" "I" := ⟨RX9, TX9, 67, tyX9, rfl, inX9, by decide, rfl, rfl, tyX9_ok, nmX9, by decide +kernel⟩
theorem fd_9_54 : FdOk 9 54 .int false "ChainBooksModel" "all" "I" := ⟨RX9, TX9, 67, tyX9, rfl, inX9, by decide, rfl, rfl, tyX9_ok, nmX9, by decide +kernel⟩
theorem fd_9_66 : FdOk 9 66 .int false "ChainBooksModel" "at" "I" := ⟨RX9, TX9, 67, tyX9, rfl, inX9, by decide, rfl, rfl, tyX9_ok, nmX9, by decide +kernel⟩
theorem nw_8 : NwOk 8 8 RX8 := ⟨TX8, tyX8, rfl, inX8, tyX8_ok, by decide +kernel, tb1 (List.mem_of_getElem? (i := 14) rfl) rfl, tb1 (List.mem_of_getElem? (i := 1) rfl) rfl⟩
theorem nw_9 : NwOk 9 67 RX9 := ⟨TX9, tyX9, rfl, inX9, tyX9_ok, by decide +kernel, tb3 (List.mem_of_getElem? (i := 238) rfl) rfl, tb1 (List.mem_of_getElem? (i := 10) rfl) rfl⟩
