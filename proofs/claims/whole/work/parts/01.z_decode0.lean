theorem dX0_init_0 : decode cX0_init 0 = .ok (.aload_n 0, 1) := by decide +kernel
theorem dX0_init_1 : decode cX0_init 1 = .ok (.invokespecial 3, 3) := by decide +kernel
theorem dX0_init_4 : decode cX0_init 4 = .ok (.aload_n 0, 1) := by decide +kernel
theorem dX0_init_5 : decode cX0_init 5 = .ok (.new 9, 3) := by decide +kernel
theorem dX0_init_8 : decode cX0_init 8 = .ok (.dup, 1) := by decide +kernel
theorem dX0_init_9 : decode cX0_init 9 = .ok (.invokespecial 11, 3) := by decide +kernel
theorem dX0_init_12 : decode cX0_init 12 = .ok (.putfield 12, 3) := by decide +kernel
theorem dX0_init_15 : decode cX0_init 15 = .ok (.aload_n 0, 1) := by decide +kernel
theorem dX0_init_16 : decode cX0_init 16 = .ok (.new 18, 3) := by decide +kernel
theorem dX0_init_19 : decode cX0_init 19 = .ok (.dup, 1) := by decide +kernel
theorem dX0_init_20 : decode cX0_init 20 = .ok (.invokespecial 20, 3) := by decide +kernel
theorem dX0_init_23 : decode cX0_init 23 = .ok (.putfield 21, 3) := by decide +kernel
theorem dX0_init_26 : decode cX0_init 26 = .ok (.return_, 1) := by decide +kernel
theorem dX0_firstBad_0 : decode cX0_firstBad 0 = .ok (.aload_n 0, 1) := by decide +kernel
theorem dX0_firstBad_1 : decode cX0_firstBad 1 = .ok (.getfield 12, 3) := by decide +kernel
theorem dX0_firstBad_4 : decode cX0_firstBad 4 = .ok (.invokevirtual 25, 3) := by decide +kernel
theorem dX0_firstBad_7 : decode cX0_firstBad 7 = .ok (.iconst 0, 1) := by decide +kernel
theorem dX0_firstBad_8 : decode cX0_firstBad 8 = .ok (.istore_n 3, 1) := by decide +kernel
theorem dX0_firstBad_9 : decode cX0_firstBad 9 = .ok (.iload_n 3, 1) := by decide +kernel
theorem dX0_firstBad_10 : decode cX0_firstBad 10 = .ok (.sipush 200, 3) := by decide +kernel
theorem dX0_firstBad_13 : decode cX0_firstBad 13 = .ok (.if_icmp .gt 82, 3) := by decide +kernel
theorem dX0_firstBad_16 : decode cX0_firstBad 16 = .ok (.aload_n 0, 1) := by decide +kernel
theorem dX0_firstBad_17 : decode cX0_firstBad 17 = .ok (.aload_n 1, 1) := by decide +kernel
theorem dX0_firstBad_18 : decode cX0_firstBad 18 = .ok (.iload_n 3, 1) := by decide +kernel
theorem dX0_firstBad_19 : decode cX0_firstBad 19 = .ok (.invokevirtual 28, 3) := by decide +kernel
theorem dX0_firstBad_22 : decode cX0_firstBad 22 = .ok (.ifCond .eq 73, 3) := by decide +kernel
theorem dX0_firstBad_25 : decode cX0_firstBad 25 = .ok (.aload_n 2, 1) := by decide +kernel
theorem dX0_firstBad_26 : decode cX0_firstBad 26 = .ok (.iload_n 3, 1) := by decide +kernel
theorem dX0_firstBad_27 : decode cX0_firstBad 27 = .ok (.iaload, 1) := by decide +kernel
theorem dX0_firstBad_28 : decode cX0_firstBad 28 = .ok (.iconst (-1), 1) := by decide +kernel
theorem dX0_firstBad_29 : decode cX0_firstBad 29 = .ok (.if_icmp .eq 13, 3) := by decide +kernel
theorem dX0_firstBad_32 : decode cX0_firstBad 32 = .ok (.aload_n 0, 1) := by decide +kernel
theorem dX0_firstBad_33 : decode cX0_firstBad 33 = .ok (.getfield 12, 3) := by decide +kernel
theorem dX0_firstBad_36 : decode cX0_firstBad 36 = .ok (.aload_n 2, 1) := by decide +kernel
theorem dX0_firstBad_37 : decode cX0_firstBad 37 = .ok (.iload_n 3, 1) := by decide +kernel
theorem dX0_firstBad_38 : decode cX0_firstBad 38 = .ok (.iaload, 1) := by decide +kernel
theorem dX0_firstBad_39 : decode cX0_firstBad 39 = .ok (.invokevirtual 32, 3) := by decide +kernel
theorem dX0_firstBad_42 : decode cX0_firstBad 42 = .ok (.aload_n 0, 1) := by decide +kernel
theorem dX0_firstBad_43 : decode cX0_firstBad 43 = .ok (.getfield 12, 3) := by decide +kernel
theorem dX0_firstBad_46 : decode cX0_firstBad 46 = .ok (.getfield 36, 3) := by decide +kernel
theorem dX0_firstBad_49 : decode cX0_firstBad 49 = .ok (.iload_n 3, 1) := by decide +kernel
theorem dX0_firstBad_50 : decode cX0_firstBad 50 = .ok (.if_icmp .ne 17, 3) := by decide +kernel
theorem dX0_firstBad_53 : decode cX0_firstBad 53 = .ok (.aload_n 0, 1) := by decide +kernel
theorem dX0_firstBad_54 : decode cX0_firstBad 54 = .ok (.aload_n 1, 1) := by decide +kernel
theorem dX0_firstBad_55 : decode cX0_firstBad 55 = .ok (.aload_n 0, 1) := by decide +kernel
theorem dX0_firstBad_56 : decode cX0_firstBad 56 = .ok (.getfield 12, 3) := by decide +kernel
theorem dX0_firstBad_59 : decode cX0_firstBad 59 = .ok (.getfield 40, 3) := by decide +kernel
theorem dX0_firstBad_62 : decode cX0_firstBad 62 = .ok (.iload_n 3, 1) := by decide +kernel
theorem dX0_firstBad_63 : decode cX0_firstBad 63 = .ok (.iaload, 1) := by decide +kernel
theorem dX0_firstBad_64 : decode cX0_firstBad 64 = .ok (.invokevirtual 44, 3) := by decide +kernel
theorem dX0_firstBad_67 : decode cX0_firstBad 67 = .ok (.aload_n 0, 1) := by decide +kernel
theorem dX0_firstBad_68 : decode cX0_firstBad 68 = .ok (.getfield 12, 3) := by decide +kernel
theorem dX0_firstBad_71 : decode cX0_firstBad 71 = .ok (.getfield 36, 3) := by decide +kernel
theorem dX0_firstBad_74 : decode cX0_firstBad 74 = .ok (.iload_n 3, 1) := by decide +kernel
theorem dX0_firstBad_75 : decode cX0_firstBad 75 = .ok (.if_icmp .eq 12, 3) := by decide +kernel
theorem dX0_firstBad_78 : decode cX0_firstBad 78 = .ok (.aload_n 0, 1) := by decide +kernel
theorem dX0_firstBad_79 : decode cX0_firstBad 79 = .ok (.aload_n 1, 1) := by decide +kernel
theorem dX0_firstBad_80 : decode cX0_firstBad 80 = .ok (.iload_n 3, 1) := by decide +kernel
theorem dX0_firstBad_81 : decode cX0_firstBad 81 = .ok (.invokevirtual 48, 3) := by decide +kernel
theorem dX0_firstBad_84 : decode cX0_firstBad 84 = .ok (.ifCond .ne 5, 3) := by decide +kernel
theorem dX0_firstBad_87 : decode cX0_firstBad 87 = .ok (.iload_n 3, 1) := by decide +kernel
theorem dX0_firstBad_88 : decode cX0_firstBad 88 = .ok (.ireturn, 1) := by decide +kernel
theorem dX0_firstBad_89 : decode cX0_firstBad 89 = .ok (.iinc 3 1, 3) := by decide +kernel
theorem dX0_firstBad_92 : decode cX0_firstBad 92 = .ok (.goto (-83), 3) := by decide +kernel
theorem dX0_firstBad_95 : decode cX0_firstBad 95 = .ok (.iconst (-1), 1) := by decide +kernel
theorem dX0_firstBad_96 : decode cX0_firstBad 96 = .ok (.ireturn, 1) := by decide +kernel
theorem dX0_hasToStand_0 : decode cX0_hasToStand 0 = .ok (.aload_n 0, 1) := by decide +kernel
theorem dX0_hasToStand_1 : decode cX0_hasToStand 1 = .ok (.getfield 12, 3) := by decide +kernel
theorem dX0_hasToStand_4 : decode cX0_hasToStand 4 = .ok (.getfield 36, 3) := by decide +kernel
theorem dX0_hasToStand_7 : decode cX0_hasToStand 7 = .ok (.iload_n 2, 1) := by decide +kernel
theorem dX0_hasToStand_8 : decode cX0_hasToStand 8 = .ok (.if_icmp .gt 19, 3) := by decide +kernel
theorem dX0_hasToStand_11 : decode cX0_hasToStand 11 = .ok (.aload_n 0, 1) := by decide +kernel
theorem dX0_hasToStand_12 : decode cX0_hasToStand 12 = .ok (.getfield 12, 3) := by decide +kernel
theorem dX0_hasToStand_15 : decode cX0_hasToStand 15 = .ok (.getfield 40, 3) := by decide +kernel
theorem dX0_hasToStand_18 : decode cX0_hasToStand 18 = .ok (.iload_n 2, 1) := by decide +kernel
theorem dX0_hasToStand_19 : decode cX0_hasToStand 19 = .ok (.iaload, 1) := by decide +kernel
theorem dX0_hasToStand_20 : decode cX0_hasToStand 20 = .ok (.aload_n 1, 1) := by decide +kernel
theorem dX0_hasToStand_21 : decode cX0_hasToStand 21 = .ok (.invokevirtual 51, 3) := by decide +kernel
theorem dX0_hasToStand_24 : decode cX0_hasToStand 24 = .ok (.if_icmp .ge 7, 3) := by decide +kernel
theorem dX0_hasToStand_27 : decode cX0_hasToStand 27 = .ok (.iconst 1, 1) := by decide +kernel
theorem dX0_hasToStand_28 : decode cX0_hasToStand 28 = .ok (.goto 4, 3) := by decide +kernel
theorem dX0_hasToStand_31 : decode cX0_hasToStand 31 = .ok (.iconst 0, 1) := by decide +kernel
theorem dX0_hasToStand_32 : decode cX0_hasToStand 32 = .ok (.ireturn, 1) := by decide +kernel
theorem dX0_callAgain_0 : decode cX0_callAgain 0 = .ok (.aload_n 1, 1) := by decide +kernel
theorem dX0_callAgain_1 : decode cX0_callAgain 1 = .ok (.iload_n 2, 1) := by decide +kernel
theorem dX0_callAgain_2 : decode cX0_callAgain 2 = .ok (.iconst 1, 1) := by decide +kernel
theorem dX0_callAgain_3 : decode cX0_callAgain 3 = .ok (.iadd, 1) := by decide +kernel
theorem dX0_callAgain_4 : decode cX0_callAgain 4 = .ok (.bipush 8, 2) := by decide +kernel
theorem dX0_callAgain_6 : decode cX0_callAgain 6 = .ok (.invokevirtual 57, 3) := by decide +kernel
theorem dX0_callAgain_9 : decode cX0_callAgain 9 = .ok (.lstore_n 3, 1) := by decide +kernel
theorem dX0_callAgain_10 : decode cX0_callAgain 10 = .ok (.aload_n 1, 1) := by decide +kernel
theorem dX0_callAgain_11 : decode cX0_callAgain 11 = .ok (.iload_n 2, 1) := by decide +kernel
theorem dX0_callAgain_12 : decode cX0_callAgain 12 = .ok (.bipush 9, 2) := by decide +kernel
theorem dX0_callAgain_14 : decode cX0_callAgain 14 = .ok (.iadd, 1) := by decide +kernel
theorem dX0_callAgain_15 : decode cX0_callAgain 15 = .ok (.iconst 1, 1) := by decide +kernel
theorem dX0_callAgain_16 : decode cX0_callAgain 16 = .ok (.invokevirtual 57, 3) := by decide +kernel
theorem dX0_callAgain_19 : decode cX0_callAgain 19 = .ok (.l2i, 1) := by decide +kernel
theorem dX0_callAgain_20 : decode cX0_callAgain 20 = .ok (.istore 5, 2) := by decide +kernel
theorem dX0_callAgain_22 : decode cX0_callAgain 22 = .ok (.aload_n 1, 1) := by decide +kernel
theorem dX0_callAgain_23 : decode cX0_callAgain 23 = .ok (.iload_n 2, 1) := by decide +kernel
theorem dX0_callAgain_24 : decode cX0_callAgain 24 = .ok (.bipush 9, 2) := by decide +kernel
theorem dX0_callAgain_26 : decode cX0_callAgain 26 = .ok (.iadd, 1) := by decide +kernel
theorem dX0_callAgain_27 : decode cX0_callAgain 27 = .ok (.iconst 2, 1) := by decide +kernel
theorem dX0_callAgain_28 : decode cX0_callAgain 28 = .ok (.invokevirtual 57, 3) := by decide +kernel
theorem dX0_callAgain_31 : decode cX0_callAgain 31 = .ok (.l2i, 1) := by decide +kernel
theorem dX0_callAgain_32 : decode cX0_callAgain 32 = .ok (.istore 6, 2) := by decide +kernel
theorem dX0_callAgain_34 : decode cX0_callAgain 34 = .ok (.aload_n 1, 1) := by decide +kernel
theorem dX0_callAgain_35 : decode cX0_callAgain 35 = .ok (.iload_n 2, 1) := by decide +kernel
theorem dX0_callAgain_36 : decode cX0_callAgain 36 = .ok (.iconst 1, 1) := by decide +kernel
theorem dX0_callAgain_37 : decode cX0_callAgain 37 = .ok (.invokevirtual 57, 3) := by decide +kernel
theorem dX0_callAgain_40 : decode cX0_callAgain 40 = .ok (.l2i, 1) := by decide +kernel
theorem dX0_callAgain_41 : decode cX0_callAgain 41 = .ok (.tableswitch 171 1 6 #[39, 51, 79, 103, 123, 157], 39) := by decide +kernel
theorem dX0_callAgain_80 : decode cX0_callAgain 80 = .ok (.aload_n 0, 1) := by decide +kernel
theorem dX0_callAgain_81 : decode cX0_callAgain 81 = .ok (.getfield 12, 3) := by decide +kernel
theorem dX0_callAgain_84 : decode cX0_callAgain 84 = .ok (.lload_n 3, 1) := by decide +kernel
theorem dX0_callAgain_85 : decode cX0_callAgain 85 = .ok (.invokevirtual 61, 3) := by decide +kernel
theorem dX0_callAgain_88 : decode cX0_callAgain 88 = .ok (.pop, 1) := by decide +kernel
theorem dX0_callAgain_89 : decode cX0_callAgain 89 = .ok (.goto 123, 3) := by decide +kernel
theorem dX0_callAgain_92 : decode cX0_callAgain 92 = .ok (.aload_n 0, 1) := by decide +kernel
theorem dX0_callAgain_93 : decode cX0_callAgain 93 = .ok (.aload_n 1, 1) := by decide +kernel
theorem dX0_callAgain_94 : decode cX0_callAgain 94 = .ok (.iload_n 2, 1) := by decide +kernel
theorem dX0_callAgain_95 : decode cX0_callAgain 95 = .ok (.bipush 9, 2) := by decide +kernel
theorem dX0_callAgain_97 : decode cX0_callAgain 97 = .ok (.iadd, 1) := by decide +kernel
theorem dX0_callAgain_98 : decode cX0_callAgain 98 = .ok (.invokevirtual 65, 3) := by decide +kernel
theorem dX0_callAgain_101 : decode cX0_callAgain 101 = .ok (.ifCond .eq 111, 3) := by decide +kernel
theorem dX0_callAgain_104 : decode cX0_callAgain 104 = .ok (.aload_n 0, 1) := by decide +kernel
theorem dX0_callAgain_105 : decode cX0_callAgain 105 = .ok (.getfield 12, 3) := by decide +kernel
theorem dX0_callAgain_108 : decode cX0_callAgain 108 = .ok (.lload_n 3, 1) := by decide +kernel
theorem dX0_callAgain_109 : decode cX0_callAgain 109 = .ok (.aload_n 0, 1) := by decide +kernel
theorem dX0_callAgain_110 : decode cX0_callAgain 110 = .ok (.getfield 21, 3) := by decide +kernel
theorem dX0_callAgain_113 : decode cX0_callAgain 113 = .ok (.invokevirtual 68, 3) := by decide +kernel
theorem dX0_callAgain_116 : decode cX0_callAgain 116 = .ok (.pop, 1) := by decide +kernel
theorem dX0_callAgain_117 : decode cX0_callAgain 117 = .ok (.goto 95, 3) := by decide +kernel
theorem dX0_callAgain_120 : decode cX0_callAgain 120 = .ok (.aload_n 0, 1) := by decide +kernel
theorem dX0_callAgain_121 : decode cX0_callAgain 121 = .ok (.getfield 12, 3) := by decide +kernel
theorem dX0_callAgain_124 : decode cX0_callAgain 124 = .ok (.lload_n 3, 1) := by decide +kernel
theorem dX0_callAgain_125 : decode cX0_callAgain 125 = .ok (.iload 5, 2) := by decide +kernel
theorem dX0_callAgain_127 : decode cX0_callAgain 127 = .ok (.aload_n 1, 1) := by decide +kernel
theorem dX0_callAgain_128 : decode cX0_callAgain 128 = .ok (.iload_n 2, 1) := by decide +kernel
theorem dX0_callAgain_129 : decode cX0_callAgain 129 = .ok (.bipush 10, 2) := by decide +kernel
theorem dX0_callAgain_131 : decode cX0_callAgain 131 = .ok (.iadd, 1) := by decide +kernel
theorem dX0_callAgain_132 : decode cX0_callAgain 132 = .ok (.bipush 8, 2) := by decide +kernel
theorem dX0_callAgain_134 : decode cX0_callAgain 134 = .ok (.invokevirtual 57, 3) := by decide +kernel
theorem dX0_callAgain_137 : decode cX0_callAgain 137 = .ok (.invokevirtual 72, 3) := by decide +kernel
theorem dX0_callAgain_140 : decode cX0_callAgain 140 = .ok (.pop, 1) := by decide +kernel
theorem dX0_callAgain_141 : decode cX0_callAgain 141 = .ok (.goto 71, 3) := by decide +kernel
theorem dX0_callAgain_144 : decode cX0_callAgain 144 = .ok (.aload_n 0, 1) := by decide +kernel
theorem dX0_callAgain_145 : decode cX0_callAgain 145 = .ok (.getfield 12, 3) := by decide +kernel
theorem dX0_callAgain_148 : decode cX0_callAgain 148 = .ok (.aload_n 1, 1) := by decide +kernel
theorem dX0_callAgain_149 : decode cX0_callAgain 149 = .ok (.iload_n 2, 1) := by decide +kernel
theorem dX0_callAgain_150 : decode cX0_callAgain 150 = .ok (.iconst 1, 1) := by decide +kernel
theorem dX0_callAgain_151 : decode cX0_callAgain 151 = .ok (.iadd, 1) := by decide +kernel
theorem dX0_callAgain_152 : decode cX0_callAgain 152 = .ok (.iconst 2, 1) := by decide +kernel
theorem dX0_callAgain_153 : decode cX0_callAgain 153 = .ok (.invokevirtual 57, 3) := by decide +kernel
theorem dX0_callAgain_156 : decode cX0_callAgain 156 = .ok (.l2i, 1) := by decide +kernel
theorem dX0_callAgain_157 : decode cX0_callAgain 157 = .ok (.invokevirtual 76, 3) := by decide +kernel
theorem dX0_callAgain_160 : decode cX0_callAgain 160 = .ok (.pop, 1) := by decide +kernel
theorem dX0_callAgain_161 : decode cX0_callAgain 161 = .ok (.goto 51, 3) := by decide +kernel
theorem dX0_callAgain_164 : decode cX0_callAgain 164 = .ok (.aload_n 0, 1) := by decide +kernel
theorem dX0_callAgain_165 : decode cX0_callAgain 165 = .ok (.getfield 12, 3) := by decide +kernel
theorem dX0_callAgain_168 : decode cX0_callAgain 168 = .ok (.lload_n 3, 1) := by decide +kernel
theorem dX0_callAgain_169 : decode cX0_callAgain 169 = .ok (.iload 6, 2) := by decide +kernel
theorem dX0_callAgain_171 : decode cX0_callAgain 171 = .ok (.aload_n 1, 1) := by decide +kernel
theorem dX0_callAgain_172 : decode cX0_callAgain 172 = .ok (.iload_n 2, 1) := by decide +kernel
theorem dX0_callAgain_173 : decode cX0_callAgain 173 = .ok (.bipush 11, 2) := by decide +kernel
theorem dX0_callAgain_175 : decode cX0_callAgain 175 = .ok (.iadd, 1) := by decide +kernel
theorem dX0_callAgain_176 : decode cX0_callAgain 176 = .ok (.iconst 1, 1) := by decide +kernel
theorem dX0_callAgain_177 : decode cX0_callAgain 177 = .ok (.invokevirtual 57, 3) := by decide +kernel
theorem dX0_callAgain_180 : decode cX0_callAgain 180 = .ok (.l2i, 1) := by decide +kernel
theorem dX0_callAgain_181 : decode cX0_callAgain 181 = .ok (.aload_n 1, 1) := by decide +kernel
theorem dX0_callAgain_182 : decode cX0_callAgain 182 = .ok (.iload_n 2, 1) := by decide +kernel
theorem dX0_callAgain_183 : decode cX0_callAgain 183 = .ok (.bipush 12, 2) := by decide +kernel
theorem dX0_callAgain_185 : decode cX0_callAgain 185 = .ok (.iadd, 1) := by decide +kernel
theorem dX0_callAgain_186 : decode cX0_callAgain 186 = .ok (.bipush 8, 2) := by decide +kernel
theorem dX0_callAgain_188 : decode cX0_callAgain 188 = .ok (.invokevirtual 57, 3) := by decide +kernel
theorem dX0_callAgain_191 : decode cX0_callAgain 191 = .ok (.invokevirtual 80, 3) := by decide +kernel
theorem dX0_callAgain_194 : decode cX0_callAgain 194 = .ok (.pop, 1) := by decide +kernel
theorem dX0_callAgain_195 : decode cX0_callAgain 195 = .ok (.goto 17, 3) := by decide +kernel
theorem dX0_callAgain_198 : decode cX0_callAgain 198 = .ok (.aload_n 0, 1) := by decide +kernel
theorem dX0_callAgain_199 : decode cX0_callAgain 199 = .ok (.getfield 12, 3) := by decide +kernel
theorem dX0_callAgain_202 : decode cX0_callAgain 202 = .ok (.lload_n 3, 1) := by decide +kernel
theorem dX0_callAgain_203 : decode cX0_callAgain 203 = .ok (.iload 6, 2) := by decide +kernel
theorem dX0_callAgain_205 : decode cX0_callAgain 205 = .ok (.invokevirtual 84, 3) := by decide +kernel
theorem dX0_callAgain_208 : decode cX0_callAgain 208 = .ok (.pop, 1) := by decide +kernel
theorem dX0_callAgain_209 : decode cX0_callAgain 209 = .ok (.goto 3, 3) := by decide +kernel
theorem dX0_callAgain_212 : decode cX0_callAgain 212 = .ok (.return_, 1) := by decide +kernel
theorem dX0_readLegs_0 : decode cX0_readLegs 0 = .ok (.aload_n 0, 1) := by decide +kernel
theorem dX0_readLegs_1 : decode cX0_readLegs 1 = .ok (.getfield 21, 3) := by decide +kernel
theorem dX0_readLegs_4 : decode cX0_readLegs 4 = .ok (.iconst 0, 1) := by decide +kernel
theorem dX0_readLegs_5 : decode cX0_readLegs 5 = .ok (.putfield 88, 3) := by decide +kernel
theorem dX0_readLegs_8 : decode cX0_readLegs 8 = .ok (.aload_n 1, 1) := by decide +kernel
theorem dX0_readLegs_9 : decode cX0_readLegs 9 = .ok (.iload_n 2, 1) := by decide +kernel
theorem dX0_readLegs_10 : decode cX0_readLegs 10 = .ok (.iconst 1, 1) := by decide +kernel
theorem dX0_readLegs_11 : decode cX0_readLegs 11 = .ok (.invokevirtual 57, 3) := by decide +kernel
theorem dX0_readLegs_14 : decode cX0_readLegs 14 = .ok (.l2i, 1) := by decide +kernel
theorem dX0_readLegs_15 : decode cX0_readLegs 15 = .ok (.istore_n 3, 1) := by decide +kernel
theorem dX0_readLegs_16 : decode cX0_readLegs 16 = .ok (.iconst 0, 1) := by decide +kernel
theorem dX0_readLegs_17 : decode cX0_readLegs 17 = .ok (.istore 4, 2) := by decide +kernel
theorem dX0_readLegs_19 : decode cX0_readLegs 19 = .ok (.iload 4, 2) := by decide +kernel
theorem dX0_readLegs_21 : decode cX0_readLegs 21 = .ok (.iload_n 3, 1) := by decide +kernel
theorem dX0_readLegs_22 : decode cX0_readLegs 22 = .ok (.if_icmp .ge 50, 3) := by decide +kernel
theorem dX0_readLegs_25 : decode cX0_readLegs 25 = .ok (.iload_n 2, 1) := by decide +kernel
theorem dX0_readLegs_26 : decode cX0_readLegs 26 = .ok (.iconst 1, 1) := by decide +kernel
theorem dX0_readLegs_27 : decode cX0_readLegs 27 = .ok (.iadd, 1) := by decide +kernel
theorem dX0_readLegs_28 : decode cX0_readLegs 28 = .ok (.bipush 9, 2) := by decide +kernel
theorem dX0_readLegs_30 : decode cX0_readLegs 30 = .ok (.iload 4, 2) := by decide +kernel
theorem dX0_readLegs_32 : decode cX0_readLegs 32 = .ok (.imul, 1) := by decide +kernel
theorem dX0_readLegs_33 : decode cX0_readLegs 33 = .ok (.iadd, 1) := by decide +kernel
theorem dX0_readLegs_34 : decode cX0_readLegs 34 = .ok (.istore 5, 2) := by decide +kernel
theorem dX0_readLegs_36 : decode cX0_readLegs 36 = .ok (.aload_n 0, 1) := by decide +kernel
theorem dX0_readLegs_37 : decode cX0_readLegs 37 = .ok (.getfield 21, 3) := by decide +kernel
theorem dX0_readLegs_40 : decode cX0_readLegs 40 = .ok (.aload_n 1, 1) := by decide +kernel
theorem dX0_readLegs_41 : decode cX0_readLegs 41 = .ok (.iload 5, 2) := by decide +kernel
theorem dX0_readLegs_43 : decode cX0_readLegs 43 = .ok (.iconst 1, 1) := by decide +kernel
theorem dX0_readLegs_44 : decode cX0_readLegs 44 = .ok (.invokevirtual 57, 3) := by decide +kernel
theorem dX0_readLegs_47 : decode cX0_readLegs 47 = .ok (.l2i, 1) := by decide +kernel
theorem dX0_readLegs_48 : decode cX0_readLegs 48 = .ok (.aload_n 1, 1) := by decide +kernel
theorem dX0_readLegs_49 : decode cX0_readLegs 49 = .ok (.iload 5, 2) := by decide +kernel
theorem dX0_readLegs_51 : decode cX0_readLegs 51 = .ok (.iconst 1, 1) := by decide +kernel
theorem dX0_readLegs_52 : decode cX0_readLegs 52 = .ok (.iadd, 1) := by decide +kernel
theorem dX0_readLegs_53 : decode cX0_readLegs 53 = .ok (.bipush 8, 2) := by decide +kernel
theorem dX0_readLegs_55 : decode cX0_readLegs 55 = .ok (.invokevirtual 57, 3) := by decide +kernel
theorem dX0_readLegs_58 : decode cX0_readLegs 58 = .ok (.invokevirtual 90, 3) := by decide +kernel
theorem dX0_readLegs_61 : decode cX0_readLegs 61 = .ok (.ifCond .ne 5, 3) := by decide +kernel
theorem dX0_readLegs_64 : decode cX0_readLegs 64 = .ok (.iconst 0, 1) := by decide +kernel
theorem dX0_readLegs_65 : decode cX0_readLegs 65 = .ok (.ireturn, 1) := by decide +kernel
theorem dX0_readLegs_66 : decode cX0_readLegs 66 = .ok (.iinc 4 1, 3) := by decide +kernel
theorem dX0_readLegs_69 : decode cX0_readLegs 69 = .ok (.goto (-50), 3) := by decide +kernel
theorem dX0_readLegs_72 : decode cX0_readLegs 72 = .ok (.iconst 1, 1) := by decide +kernel
theorem dX0_readLegs_73 : decode cX0_readLegs 73 = .ok (.ireturn, 1) := by decide +kernel
theorem dX0_stands_0 : decode cX0_stands 0 = .ok (.aload_n 0, 1) := by decide +kernel
theorem dX0_stands_1 : decode cX0_stands 1 = .ok (.getfield 12, 3) := by decide +kernel
theorem dX0_stands_4 : decode cX0_stands 4 = .ok (.getfield 40, 3) := by decide +kernel
theorem dX0_stands_7 : decode cX0_stands 7 = .ok (.iload_n 2, 1) := by decide +kernel
theorem dX0_stands_8 : decode cX0_stands 8 = .ok (.iconst 1, 1) := by decide +kernel
theorem dX0_stands_9 : decode cX0_stands 9 = .ok (.iadd, 1) := by decide +kernel
theorem dX0_stands_10 : decode cX0_stands 10 = .ok (.iaload, 1) := by decide +kernel
theorem dX0_stands_11 : decode cX0_stands 11 = .ok (.aload_n 1, 1) := by decide +kernel
theorem dX0_stands_12 : decode cX0_stands 12 = .ok (.invokevirtual 51, 3) := by decide +kernel
theorem dX0_stands_15 : decode cX0_stands 15 = .ok (.if_icmp .le 5, 3) := by decide +kernel
theorem dX0_stands_18 : decode cX0_stands 18 = .ok (.iconst 0, 1) := by decide +kernel
theorem dX0_stands_19 : decode cX0_stands 19 = .ok (.ireturn, 1) := by decide +kernel
theorem dX0_stands_20 : decode cX0_stands 20 = .ok (.aload_n 0, 1) := by decide +kernel
theorem dX0_stands_21 : decode cX0_stands 21 = .ok (.getfield 12, 3) := by decide +kernel
theorem dX0_stands_24 : decode cX0_stands 24 = .ok (.getfield 40, 3) := by decide +kernel
theorem dX0_stands_27 : decode cX0_stands 27 = .ok (.iload_n 2, 1) := by decide +kernel
theorem dX0_stands_28 : decode cX0_stands 28 = .ok (.iaload, 1) := by decide +kernel
theorem dX0_stands_29 : decode cX0_stands 29 = .ok (.istore_n 3, 1) := by decide +kernel
theorem dX0_stands_30 : decode cX0_stands 30 = .ok (.iload_n 3, 1) := by decide +kernel
theorem dX0_stands_31 : decode cX0_stands 31 = .ok (.aload_n 0, 1) := by decide +kernel
theorem dX0_stands_32 : decode cX0_stands 32 = .ok (.getfield 12, 3) := by decide +kernel
theorem dX0_stands_35 : decode cX0_stands 35 = .ok (.getfield 40, 3) := by decide +kernel
theorem dX0_stands_38 : decode cX0_stands 38 = .ok (.iload_n 2, 1) := by decide +kernel
theorem dX0_stands_39 : decode cX0_stands 39 = .ok (.iconst 1, 1) := by decide +kernel
theorem dX0_stands_40 : decode cX0_stands 40 = .ok (.iadd, 1) := by decide +kernel
theorem dX0_stands_41 : decode cX0_stands 41 = .ok (.iaload, 1) := by decide +kernel
theorem dX0_stands_42 : decode cX0_stands 42 = .ok (.if_icmp .ge 29, 3) := by decide +kernel
theorem dX0_stands_45 : decode cX0_stands 45 = .ok (.aload_n 0, 1) := by decide +kernel
theorem dX0_stands_46 : decode cX0_stands 46 = .ok (.getfield 12, 3) := by decide +kernel
theorem dX0_stands_49 : decode cX0_stands 49 = .ok (.getfield 94, 3) := by decide +kernel
theorem dX0_stands_52 : decode cX0_stands 52 = .ok (.iload_n 3, 1) := by decide +kernel
theorem dX0_stands_53 : decode cX0_stands 53 = .ok (.baload, 1) := by decide +kernel
theorem dX0_stands_54 : decode cX0_stands 54 = .ok (.aload_n 1, 1) := by decide +kernel
theorem dX0_stands_55 : decode cX0_stands 55 = .ok (.getfield 98, 3) := by decide +kernel
theorem dX0_stands_58 : decode cX0_stands 58 = .ok (.iload_n 3, 1) := by decide +kernel
theorem dX0_stands_59 : decode cX0_stands 59 = .ok (.baload, 1) := by decide +kernel
theorem dX0_stands_60 : decode cX0_stands 60 = .ok (.if_icmp .eq 5, 3) := by decide +kernel
theorem dX0_stands_63 : decode cX0_stands 63 = .ok (.iconst 0, 1) := by decide +kernel
theorem dX0_stands_64 : decode cX0_stands 64 = .ok (.ireturn, 1) := by decide +kernel
theorem dX0_stands_65 : decode cX0_stands 65 = .ok (.iinc 3 1, 3) := by decide +kernel
theorem dX0_stands_68 : decode cX0_stands 68 = .ok (.goto (-38), 3) := by decide +kernel
theorem dX0_stands_71 : decode cX0_stands 71 = .ok (.iconst 1, 1) := by decide +kernel
theorem dX0_stands_72 : decode cX0_stands 72 = .ok (.ireturn, 1) := by decide +kernel
theorem dX1_init_0 : decode cX1_init 0 = .ok (.aload_n 0, 1) := by decide +kernel
theorem dX1_init_1 : decode cX1_init 1 = .ok (.invokespecial 3, 3) := by decide +kernel
theorem dX1_init_4 : decode cX1_init 4 = .ok (.aload_n 0, 1) := by decide +kernel
theorem dX1_init_5 : decode cX1_init 5 = .ok (.bipush 82, 2) := by decide +kernel
theorem dX1_init_7 : decode cX1_init 7 = .ok (.newarray .byte, 2) := by decide +kernel
theorem dX1_init_9 : decode cX1_init 9 = .ok (.putfield 9, 3) := by decide +kernel
theorem dX1_init_12 : decode cX1_init 12 = .ok (.return_, 1) := by decide +kernel
theorem dX1_begin_0 : decode cX1_begin 0 = .ok (.aload_n 0, 1) := by decide +kernel
theorem dX1_begin_1 : decode cX1_begin 1 = .ok (.iconst 0, 1) := by decide +kernel
theorem dX1_begin_2 : decode cX1_begin 2 = .ok (.putfield 15, 3) := by decide +kernel
theorem dX1_begin_5 : decode cX1_begin 5 = .ok (.aload_n 0, 1) := by decide +kernel
theorem dX1_begin_6 : decode cX1_begin 6 = .ok (.iload_n 1, 1) := by decide +kernel
theorem dX1_begin_7 : decode cX1_begin 7 = .ok (.i2l, 1) := by decide +kernel
theorem dX1_begin_8 : decode cX1_begin 8 = .ok (.iconst 1, 1) := by decide +kernel
theorem dX1_begin_9 : decode cX1_begin 9 = .ok (.invokevirtual 19, 3) := by decide +kernel
theorem dX1_begin_12 : decode cX1_begin 12 = .ok (.return_, 1) := by decide +kernel
theorem dX1_beginKeyed_0 : decode cX1_beginKeyed 0 = .ok (.aload_n 0, 1) := by decide +kernel
theorem dX1_beginKeyed_1 : decode cX1_beginKeyed 1 = .ok (.iload_n 1, 1) := by decide +kernel
theorem dX1_beginKeyed_2 : decode cX1_beginKeyed 2 = .ok (.invokevirtual 23, 3) := by decide +kernel
theorem dX1_beginKeyed_5 : decode cX1_beginKeyed 5 = .ok (.aload_n 0, 1) := by decide +kernel
theorem dX1_beginKeyed_6 : decode cX1_beginKeyed 6 = .ok (.lload_n 2, 1) := by decide +kernel
theorem dX1_beginKeyed_7 : decode cX1_beginKeyed 7 = .ok (.bipush 8, 2) := by decide +kernel
theorem dX1_beginKeyed_9 : decode cX1_beginKeyed 9 = .ok (.invokevirtual 19, 3) := by decide +kernel
theorem dX1_beginKeyed_12 : decode cX1_beginKeyed 12 = .ok (.return_, 1) := by decide +kernel
theorem dX1_add_0 : decode cX1_add 0 = .ok (.iload_n 3, 1) := by decide +kernel
theorem dX1_add_1 : decode cX1_add 1 = .ok (.iconst 1, 1) := by decide +kernel
theorem dX1_add_2 : decode cX1_add 2 = .ok (.isub, 1) := by decide +kernel
theorem dX1_add_3 : decode cX1_add 3 = .ok (.istore 4, 2) := by decide +kernel
theorem dX1_add_5 : decode cX1_add 5 = .ok (.iload 4, 2) := by decide +kernel
theorem dX1_add_7 : decode cX1_add 7 = .ok (.ifCond .lt 46, 3) := by decide +kernel
theorem dX1_add_10 : decode cX1_add 10 = .ok (.aload_n 0, 1) := by decide +kernel
theorem dX1_add_11 : decode cX1_add 11 = .ok (.getfield 15, 3) := by decide +kernel
theorem dX1_add_14 : decode cX1_add 14 = .ok (.bipush 82, 2) := by decide +kernel
theorem dX1_add_16 : decode cX1_add 16 = .ok (.if_icmp .ge 31, 3) := by decide +kernel
theorem dX1_add_19 : decode cX1_add 19 = .ok (.aload_n 0, 1) := by decide +kernel
theorem dX1_add_20 : decode cX1_add 20 = .ok (.getfield 9, 3) := by decide +kernel
theorem dX1_add_23 : decode cX1_add 23 = .ok (.aload_n 0, 1) := by decide +kernel
theorem dX1_add_24 : decode cX1_add 24 = .ok (.getfield 15, 3) := by decide +kernel
theorem dX1_add_27 : decode cX1_add 27 = .ok (.lload_n 1, 1) := by decide +kernel
theorem dX1_add_28 : decode cX1_add 28 = .ok (.bipush 8, 2) := by decide +kernel
theorem dX1_add_30 : decode cX1_add 30 = .ok (.iload 4, 2) := by decide +kernel
theorem dX1_add_32 : decode cX1_add 32 = .ok (.imul, 1) := by decide +kernel
theorem dX1_add_33 : decode cX1_add 33 = .ok (.lushr, 1) := by decide +kernel
theorem dX1_add_34 : decode cX1_add 34 = .ok (.l2i, 1) := by decide +kernel
theorem dX1_add_35 : decode cX1_add 35 = .ok (.i2b, 1) := by decide +kernel
theorem dX1_add_36 : decode cX1_add 36 = .ok (.bastore, 1) := by decide +kernel
theorem dX1_add_37 : decode cX1_add 37 = .ok (.aload_n 0, 1) := by decide +kernel
theorem dX1_add_38 : decode cX1_add 38 = .ok (.dup, 1) := by decide +kernel
theorem dX1_add_39 : decode cX1_add 39 = .ok (.getfield 15, 3) := by decide +kernel
theorem dX1_add_42 : decode cX1_add 42 = .ok (.iconst 1, 1) := by decide +kernel
theorem dX1_add_43 : decode cX1_add 43 = .ok (.iadd, 1) := by decide +kernel
theorem dX1_add_44 : decode cX1_add 44 = .ok (.putfield 15, 3) := by decide +kernel
theorem dX1_add_47 : decode cX1_add 47 = .ok (.iinc 4 (-1), 3) := by decide +kernel
theorem dX1_add_50 : decode cX1_add 50 = .ok (.goto (-45), 3) := by decide +kernel
theorem dX1_add_53 : decode cX1_add 53 = .ok (.return_, 1) := by decide +kernel
theorem dX2_init_0 : decode cX2_init 0 = .ok (.aload_n 0, 1) := by decide +kernel
theorem dX2_init_1 : decode cX2_init 1 = .ok (.invokespecial 3, 3) := by decide +kernel
theorem dX2_init_4 : decode cX2_init 4 = .ok (.aload_n 0, 1) := by decide +kernel
theorem dX2_init_5 : decode cX2_init 5 = .ok (.bipush 8, 2) := by decide +kernel
theorem dX2_init_7 : decode cX2_init 7 = .ok (.newarray .int, 2) := by decide +kernel
theorem dX2_init_9 : decode cX2_init 9 = .ok (.putfield 9, 3) := by decide +kernel
theorem dX2_init_12 : decode cX2_init 12 = .ok (.aload_n 0, 1) := by decide +kernel
theorem dX2_init_13 : decode cX2_init 13 = .ok (.bipush 8, 2) := by decide +kernel
theorem dX2_init_15 : decode cX2_init 15 = .ok (.newarray .int, 2) := by decide +kernel
theorem dX2_init_17 : decode cX2_init 17 = .ok (.putfield 15, 3) := by decide +kernel
theorem dX2_init_20 : decode cX2_init 20 = .ok (.aload_n 0, 1) := by decide +kernel
theorem dX2_init_21 : decode cX2_init 21 = .ok (.iconst (-1), 1) := by decide +kernel
theorem dX2_init_22 : decode cX2_init 22 = .ok (.putfield 18, 3) := by decide +kernel
theorem dX2_init_25 : decode cX2_init 25 = .ok (.return_, 1) := by decide +kernel
theorem dX3_init_0 : decode cX3_init 0 = .ok (.aload_n 0, 1) := by decide +kernel
theorem dX3_init_1 : decode cX3_init 1 = .ok (.invokespecial 3, 3) := by decide +kernel
theorem dX3_init_4 : decode cX3_init 4 = .ok (.aload_n 0, 1) := by decide +kernel
theorem dX3_init_5 : decode cX3_init 5 = .ok (.bipush 40, 2) := by decide +kernel
theorem dX3_init_7 : decode cX3_init 7 = .ok (.newarray .long, 2) := by decide +kernel
theorem dX3_init_9 : decode cX3_init 9 = .ok (.putfield 9, 3) := by decide +kernel
theorem dX3_init_12 : decode cX3_init 12 = .ok (.aload_n 0, 1) := by decide +kernel
theorem dX3_init_13 : decode cX3_init 13 = .ok (.bipush 40, 2) := by decide +kernel
theorem dX3_init_15 : decode cX3_init 15 = .ok (.newarray .long, 2) := by decide +kernel
theorem dX3_init_17 : decode cX3_init 17 = .ok (.putfield 15, 3) := by decide +kernel
theorem dX3_init_20 : decode cX3_init 20 = .ok (.aload_n 0, 1) := by decide +kernel
theorem dX3_init_21 : decode cX3_init 21 = .ok (.bipush 40, 2) := by decide +kernel
theorem dX3_init_23 : decode cX3_init 23 = .ok (.newarray .long, 2) := by decide +kernel
theorem dX3_init_25 : decode cX3_init 25 = .ok (.putfield 18, 3) := by decide +kernel
theorem dX3_init_28 : decode cX3_init 28 = .ok (.aload_n 0, 1) := by decide +kernel
theorem dX3_init_29 : decode cX3_init 29 = .ok (.bipush 40, 2) := by decide +kernel
theorem dX3_init_31 : decode cX3_init 31 = .ok (.newarray .long, 2) := by decide +kernel
theorem dX3_init_33 : decode cX3_init 33 = .ok (.putfield 21, 3) := by decide +kernel
theorem dX3_init_36 : decode cX3_init 36 = .ok (.aload_n 0, 1) := by decide +kernel
theorem dX3_init_37 : decode cX3_init 37 = .ok (.sipush 16400, 3) := by decide +kernel
theorem dX3_init_40 : decode cX3_init 40 = .ok (.newarray .byte, 2) := by decide +kernel
theorem dX3_init_42 : decode cX3_init 42 = .ok (.putfield 24, 3) := by decide +kernel
theorem dX3_init_45 : decode cX3_init 45 = .ok (.aload_n 0, 1) := by decide +kernel
theorem dX3_init_46 : decode cX3_init 46 = .ok (.sipush 201, 3) := by decide +kernel
theorem dX3_init_49 : decode cX3_init 49 = .ok (.newarray .int, 2) := by decide +kernel
theorem dX3_init_51 : decode cX3_init 51 = .ok (.putfield 28, 3) := by decide +kernel
theorem dX3_init_54 : decode cX3_init 54 = .ok (.aload_n 0, 1) := by decide +kernel
theorem dX3_init_55 : decode cX3_init 55 = .ok (.sipush 200, 3) := by decide +kernel
theorem dX3_init_58 : decode cX3_init 58 = .ok (.newarray .long, 2) := by decide +kernel
theorem dX3_init_60 : decode cX3_init 60 = .ok (.putfield 32, 3) := by decide +kernel
theorem dX3_init_63 : decode cX3_init 63 = .ok (.aload_n 0, 1) := by decide +kernel
theorem dX3_init_64 : decode cX3_init 64 = .ok (.sipush 200, 3) := by decide +kernel
theorem dX3_init_67 : decode cX3_init 67 = .ok (.newarray .int, 2) := by decide +kernel
theorem dX3_init_69 : decode cX3_init 69 = .ok (.putfield 35, 3) := by decide +kernel
theorem dX3_init_72 : decode cX3_init 72 = .ok (.aload_n 0, 1) := by decide +kernel
theorem dX3_init_73 : decode cX3_init 73 = .ok (.sipush 200, 3) := by decide +kernel
theorem dX3_init_76 : decode cX3_init 76 = .ok (.newarray .int, 2) := by decide +kernel
theorem dX3_init_78 : decode cX3_init 78 = .ok (.putfield 38, 3) := by decide +kernel
theorem dX3_init_81 : decode cX3_init 81 = .ok (.aload_n 0, 1) := by decide +kernel
theorem dX3_init_82 : decode cX3_init 82 = .ok (.sipush 1600, 3) := by decide +kernel
theorem dX3_init_85 : decode cX3_init 85 = .ok (.newarray .int, 2) := by decide +kernel
theorem dX3_init_87 : decode cX3_init 87 = .ok (.putfield 41, 3) := by decide +kernel
theorem dX3_init_90 : decode cX3_init 90 = .ok (.aload_n 0, 1) := by decide +kernel
theorem dX3_init_91 : decode cX3_init 91 = .ok (.sipush 1600, 3) := by decide +kernel
theorem dX3_init_94 : decode cX3_init 94 = .ok (.newarray .long, 2) := by decide +kernel
theorem dX3_init_96 : decode cX3_init 96 = .ok (.putfield 44, 3) := by decide +kernel
theorem dX3_init_99 : decode cX3_init 99 = .ok (.aload_n 0, 1) := by decide +kernel
theorem dX3_init_100 : decode cX3_init 100 = .ok (.new 47, 3) := by decide +kernel
theorem dX3_init_103 : decode cX3_init 103 = .ok (.dup, 1) := by decide +kernel
theorem dX3_init_104 : decode cX3_init 104 = .ok (.invokespecial 49, 3) := by decide +kernel
theorem dX3_init_107 : decode cX3_init 107 = .ok (.putfield 50, 3) := by decide +kernel
theorem dX3_init_110 : decode cX3_init 110 = .ok (.aload_n 0, 1) := by decide +kernel
theorem dX3_init_111 : decode cX3_init 111 = .ok (.new 54, 3) := by decide +kernel
theorem dX3_init_114 : decode cX3_init 114 = .ok (.dup, 1) := by decide +kernel
theorem dX3_init_115 : decode cX3_init 115 = .ok (.invokespecial 56, 3) := by decide +kernel
theorem dX3_init_118 : decode cX3_init 118 = .ok (.putfield 57, 3) := by decide +kernel
theorem dX3_init_121 : decode cX3_init 121 = .ok (.return_, 1) := by decide +kernel
theorem dX3_startAnew_0 : decode cX3_startAnew 0 = .ok (.aload_n 0, 1) := by decide +kernel
theorem dX3_startAnew_1 : decode cX3_startAnew 1 = .ok (.iconst 0, 1) := by decide +kernel
theorem dX3_startAnew_2 : decode cX3_startAnew 2 = .ok (.putfield 61, 3) := by decide +kernel
theorem dX3_startAnew_5 : decode cX3_startAnew 5 = .ok (.aload_n 0, 1) := by decide +kernel
theorem dX3_startAnew_6 : decode cX3_startAnew 6 = .ok (.iconst 0, 1) := by decide +kernel
theorem dX3_startAnew_7 : decode cX3_startAnew 7 = .ok (.putfield 65, 3) := by decide +kernel
theorem dX3_startAnew_10 : decode cX3_startAnew 10 = .ok (.aload_n 0, 1) := by decide +kernel
theorem dX3_startAnew_11 : decode cX3_startAnew 11 = .ok (.iconst 0, 1) := by decide +kernel
theorem dX3_startAnew_12 : decode cX3_startAnew 12 = .ok (.putfield 68, 3) := by decide +kernel
theorem dX3_startAnew_15 : decode cX3_startAnew 15 = .ok (.aload_n 0, 1) := by decide +kernel
theorem dX3_startAnew_16 : decode cX3_startAnew 16 = .ok (.iconst 0, 1) := by decide +kernel
theorem dX3_startAnew_17 : decode cX3_startAnew 17 = .ok (.invokevirtual 71, 3) := by decide +kernel
theorem dX3_startAnew_20 : decode cX3_startAnew 20 = .ok (.return_, 1) := by decide +kernel
theorem dX3_startEvery_0 : decode cX3_startEvery 0 = .ok (.aload_n 0, 1) := by decide +kernel
theorem dX3_startEvery_1 : decode cX3_startEvery 1 = .ok (.iload_n 1, 1) := by decide +kernel
theorem dX3_startEvery_2 : decode cX3_startEvery 2 = .ok (.putfield 75, 3) := by decide +kernel
theorem dX3_startEvery_5 : decode cX3_startEvery 5 = .ok (.aload_n 0, 1) := by decide +kernel
theorem dX3_startEvery_6 : decode cX3_startEvery 6 = .ok (.iconst 0, 1) := by decide +kernel
theorem dX3_startEvery_7 : decode cX3_startEvery 7 = .ok (.putfield 78, 3) := by decide +kernel
theorem dX3_startEvery_10 : decode cX3_startEvery 10 = .ok (.return_, 1) := by decide +kernel
theorem dX3_addAccount_0 : decode cX3_addAccount 0 = .ok (.lload_n 1, 1) := by decide +kernel
theorem dX3_addAccount_1 : decode cX3_addAccount 1 = .ok (.lconst 0, 1) := by decide +kernel
theorem dX3_addAccount_2 : decode cX3_addAccount 2 = .ok (.lcmp, 1) := by decide +kernel
theorem dX3_addAccount_3 : decode cX3_addAccount 3 = .ok (.ifCond .le 6, 3) := by decide +kernel
theorem dX3_addAccount_6 : decode cX3_addAccount 6 = .ok (.bipush (-6), 2) := by decide +kernel
theorem dX3_addAccount_8 : decode cX3_addAccount 8 = .ok (.ireturn, 1) := by decide +kernel
theorem dX3_addAccount_9 : decode cX3_addAccount 9 = .ok (.aload_n 0, 1) := by decide +kernel
theorem dX3_addAccount_10 : decode cX3_addAccount 10 = .ok (.getfield 65, 3) := by decide +kernel
theorem dX3_addAccount_13 : decode cX3_addAccount 13 = .ok (.sipush 200, 3) := by decide +kernel
theorem dX3_addAccount_16 : decode cX3_addAccount 16 = .ok (.if_icmp .lt 6, 3) := by decide +kernel
theorem dX3_addAccount_19 : decode cX3_addAccount 19 = .ok (.bipush (-8), 2) := by decide +kernel
theorem dX3_addAccount_21 : decode cX3_addAccount 21 = .ok (.ireturn, 1) := by decide +kernel
theorem dX3_addAccount_22 : decode cX3_addAccount 22 = .ok (.aload_n 0, 1) := by decide +kernel
theorem dX3_addAccount_23 : decode cX3_addAccount 23 = .ok (.getfield 61, 3) := by decide +kernel
theorem dX3_addAccount_26 : decode cX3_addAccount 26 = .ok (.bipush 40, 2) := by decide +kernel
theorem dX3_addAccount_28 : decode cX3_addAccount 28 = .ok (.if_icmp .lt 5, 3) := by decide +kernel
theorem dX3_addAccount_31 : decode cX3_addAccount 31 = .ok (.iconst (-1), 1) := by decide +kernel
theorem dX3_addAccount_32 : decode cX3_addAccount 32 = .ok (.ireturn, 1) := by decide +kernel
theorem dX3_addAccount_33 : decode cX3_addAccount 33 = .ok (.aload_n 0, 1) := by decide +kernel
theorem dX3_addAccount_34 : decode cX3_addAccount 34 = .ok (.getfield 61, 3) := by decide +kernel
theorem dX3_addAccount_37 : decode cX3_addAccount 37 = .ok (.istore_n 3, 1) := by decide +kernel
theorem dX3_addAccount_38 : decode cX3_addAccount 38 = .ok (.aload_n 0, 1) := by decide +kernel
theorem dX3_addAccount_39 : decode cX3_addAccount 39 = .ok (.getfield 9, 3) := by decide +kernel
theorem dX3_addAccount_42 : decode cX3_addAccount 42 = .ok (.iload_n 3, 1) := by decide +kernel
theorem dX3_addAccount_43 : decode cX3_addAccount 43 = .ok (.lload_n 1, 1) := by decide +kernel
theorem dX3_addAccount_44 : decode cX3_addAccount 44 = .ok (.lastore, 1) := by decide +kernel
theorem dX3_addAccount_45 : decode cX3_addAccount 45 = .ok (.aload_n 0, 1) := by decide +kernel
theorem dX3_addAccount_46 : decode cX3_addAccount 46 = .ok (.getfield 15, 3) := by decide +kernel
theorem dX3_addAccount_49 : decode cX3_addAccount 49 = .ok (.iload_n 3, 1) := by decide +kernel
theorem dX3_addAccount_50 : decode cX3_addAccount 50 = .ok (.lconst 0, 1) := by decide +kernel
theorem dX3_addAccount_51 : decode cX3_addAccount 51 = .ok (.lastore, 1) := by decide +kernel
theorem dX3_addAccount_52 : decode cX3_addAccount 52 = .ok (.aload_n 0, 1) := by decide +kernel
theorem dX3_addAccount_53 : decode cX3_addAccount 53 = .ok (.getfield 18, 3) := by decide +kernel
theorem dX3_addAccount_56 : decode cX3_addAccount 56 = .ok (.iload_n 3, 1) := by decide +kernel
theorem dX3_addAccount_57 : decode cX3_addAccount 57 = .ok (.lconst 0, 1) := by decide +kernel
theorem dX3_addAccount_58 : decode cX3_addAccount 58 = .ok (.lastore, 1) := by decide +kernel
theorem dX3_addAccount_59 : decode cX3_addAccount 59 = .ok (.aload_n 0, 1) := by decide +kernel
theorem dX3_addAccount_60 : decode cX3_addAccount 60 = .ok (.dup, 1) := by decide +kernel
theorem dX3_addAccount_61 : decode cX3_addAccount 61 = .ok (.getfield 61, 3) := by decide +kernel
theorem dX3_addAccount_64 : decode cX3_addAccount 64 = .ok (.iconst 1, 1) := by decide +kernel
theorem dX3_addAccount_65 : decode cX3_addAccount 65 = .ok (.iadd, 1) := by decide +kernel
theorem dX3_addAccount_66 : decode cX3_addAccount 66 = .ok (.putfield 61, 3) := by decide +kernel
theorem dX3_addAccount_69 : decode cX3_addAccount 69 = .ok (.aload_n 0, 1) := by decide +kernel
theorem dX3_addAccount_70 : decode cX3_addAccount 70 = .ok (.getfield 50, 3) := by decide +kernel
theorem dX3_addAccount_73 : decode cX3_addAccount 73 = .ok (.iconst 1, 1) := by decide +kernel
theorem dX3_addAccount_74 : decode cX3_addAccount 74 = .ok (.invokevirtual 81, 3) := by decide +kernel
theorem dX3_addAccount_77 : decode cX3_addAccount 77 = .ok (.aload_n 0, 1) := by decide +kernel
theorem dX3_addAccount_78 : decode cX3_addAccount 78 = .ok (.getfield 50, 3) := by decide +kernel
theorem dX3_addAccount_81 : decode cX3_addAccount 81 = .ok (.lload_n 1, 1) := by decide +kernel
theorem dX3_addAccount_82 : decode cX3_addAccount 82 = .ok (.bipush 8, 2) := by decide +kernel
theorem dX3_addAccount_84 : decode cX3_addAccount 84 = .ok (.invokevirtual 84, 3) := by decide +kernel
theorem dX3_addAccount_87 : decode cX3_addAccount 87 = .ok (.aload_n 0, 1) := by decide +kernel
theorem dX3_addAccount_88 : decode cX3_addAccount 88 = .ok (.lconst 0, 1) := by decide +kernel
theorem dX3_addAccount_89 : decode cX3_addAccount 89 = .ok (.invokevirtual 88, 3) := by decide +kernel
theorem dX3_addAccount_92 : decode cX3_addAccount 92 = .ok (.pop, 1) := by decide +kernel
theorem dX3_addAccount_93 : decode cX3_addAccount 93 = .ok (.iload_n 3, 1) := by decide +kernel
theorem dX3_addAccount_94 : decode cX3_addAccount 94 = .ok (.ireturn, 1) := by decide +kernel
theorem dX3_addPost_0 : decode cX3_addPost 0 = .ok (.aload_n 3, 1) := by decide +kernel
theorem dX3_addPost_1 : decode cX3_addPost 1 = .ok (.getfield 92, 3) := by decide +kernel
theorem dX3_addPost_4 : decode cX3_addPost 4 = .ok (.ifCond .eq 9, 3) := by decide +kernel
theorem dX3_addPost_7 : decode cX3_addPost 7 = .ok (.lload_n 1, 1) := by decide +kernel
theorem dX3_addPost_8 : decode cX3_addPost 8 = .ok (.lconst 0, 1) := by decide +kernel
theorem dX3_addPost_9 : decode cX3_addPost 9 = .ok (.lcmp, 1) := by decide +kernel
theorem dX3_addPost_10 : decode cX3_addPost 10 = .ok (.ifCond .ne 5, 3) := by decide +kernel
theorem dX3_addPost_13 : decode cX3_addPost 13 = .ok (.iconst (-1), 1) := by decide +kernel
theorem dX3_addPost_14 : decode cX3_addPost 14 = .ok (.ireturn, 1) := by decide +kernel
theorem dX3_addPost_15 : decode cX3_addPost 15 = .ok (.aload_n 0, 1) := by decide +kernel
theorem dX3_addPost_16 : decode cX3_addPost 16 = .ok (.getfield 50, 3) := by decide +kernel
theorem dX3_addPost_19 : decode cX3_addPost 19 = .ok (.iconst 2, 1) := by decide +kernel
theorem dX3_addPost_20 : decode cX3_addPost 20 = .ok (.lload_n 1, 1) := by decide +kernel
theorem dX3_addPost_21 : decode cX3_addPost 21 = .ok (.invokevirtual 95, 3) := by decide +kernel
theorem dX3_addPost_24 : decode cX3_addPost 24 = .ok (.aload_n 0, 1) := by decide +kernel
theorem dX3_addPost_25 : decode cX3_addPost 25 = .ok (.getfield 50, 3) := by decide +kernel
theorem dX3_addPost_28 : decode cX3_addPost 28 = .ok (.aload_n 3, 1) := by decide +kernel
theorem dX3_addPost_29 : decode cX3_addPost 29 = .ok (.getfield 92, 3) := by decide +kernel
theorem dX3_addPost_32 : decode cX3_addPost 32 = .ok (.i2l, 1) := by decide +kernel
theorem dX3_addPost_33 : decode cX3_addPost 33 = .ok (.iconst 1, 1) := by decide +kernel
theorem dX3_addPost_34 : decode cX3_addPost 34 = .ok (.invokevirtual 84, 3) := by decide +kernel
theorem dX3_addPost_37 : decode cX3_addPost 37 = .ok (.iconst 0, 1) := by decide +kernel
theorem dX3_addPost_38 : decode cX3_addPost 38 = .ok (.istore 4, 2) := by decide +kernel
theorem dX3_addPost_40 : decode cX3_addPost 40 = .ok (.iload 4, 2) := by decide +kernel
theorem dX3_addPost_42 : decode cX3_addPost 42 = .ok (.aload_n 3, 1) := by decide +kernel
theorem dX3_addPost_43 : decode cX3_addPost 43 = .ok (.getfield 92, 3) := by decide +kernel
theorem dX3_addPost_46 : decode cX3_addPost 46 = .ok (.if_icmp .ge 41, 3) := by decide +kernel
theorem dX3_addPost_49 : decode cX3_addPost 49 = .ok (.aload_n 0, 1) := by decide +kernel
theorem dX3_addPost_50 : decode cX3_addPost 50 = .ok (.getfield 50, 3) := by decide +kernel
theorem dX3_addPost_53 : decode cX3_addPost 53 = .ok (.aload_n 3, 1) := by decide +kernel
theorem dX3_addPost_54 : decode cX3_addPost 54 = .ok (.getfield 99, 3) := by decide +kernel
theorem dX3_addPost_57 : decode cX3_addPost 57 = .ok (.iload 4, 2) := by decide +kernel
theorem dX3_addPost_59 : decode cX3_addPost 59 = .ok (.iaload, 1) := by decide +kernel
theorem dX3_addPost_60 : decode cX3_addPost 60 = .ok (.i2l, 1) := by decide +kernel
theorem dX3_addPost_61 : decode cX3_addPost 61 = .ok (.iconst 1, 1) := by decide +kernel
theorem dX3_addPost_62 : decode cX3_addPost 62 = .ok (.invokevirtual 84, 3) := by decide +kernel
theorem dX3_addPost_65 : decode cX3_addPost 65 = .ok (.aload_n 0, 1) := by decide +kernel
theorem dX3_addPost_66 : decode cX3_addPost 66 = .ok (.getfield 50, 3) := by decide +kernel
theorem dX3_addPost_69 : decode cX3_addPost 69 = .ok (.aload_n 3, 1) := by decide +kernel
theorem dX3_addPost_70 : decode cX3_addPost 70 = .ok (.getfield 102, 3) := by decide +kernel
theorem dX3_addPost_73 : decode cX3_addPost 73 = .ok (.iload 4, 2) := by decide +kernel
theorem dX3_addPost_75 : decode cX3_addPost 75 = .ok (.laload, 1) := by decide +kernel
theorem dX3_addPost_76 : decode cX3_addPost 76 = .ok (.bipush 8, 2) := by decide +kernel
theorem dX3_addPost_78 : decode cX3_addPost 78 = .ok (.invokevirtual 84, 3) := by decide +kernel
theorem dX3_addPost_81 : decode cX3_addPost 81 = .ok (.iinc 4 1, 3) := by decide +kernel
theorem dX3_addPost_84 : decode cX3_addPost 84 = .ok (.goto (-44), 3) := by decide +kernel
theorem dX3_addPost_87 : decode cX3_addPost 87 = .ok (.aload_n 0, 1) := by decide +kernel
theorem dX3_addPost_88 : decode cX3_addPost 88 = .ok (.lload_n 1, 1) := by decide +kernel
theorem dX3_addPost_89 : decode cX3_addPost 89 = .ok (.invokevirtual 105, 3) := by decide +kernel
theorem dX3_addPost_92 : decode cX3_addPost 92 = .ok (.istore 4, 2) := by decide +kernel
theorem dX3_addPost_94 : decode cX3_addPost 94 = .ok (.iload 4, 2) := by decide +kernel
theorem dX3_addPost_96 : decode cX3_addPost 96 = .ok (.iconst (-1), 1) := by decide +kernel
theorem dX3_addPost_97 : decode cX3_addPost 97 = .ok (.if_icmp .eq 6, 3) := by decide +kernel
theorem dX3_addPost_100 : decode cX3_addPost 100 = .ok (.iload 4, 2) := by decide +kernel
theorem dX3_addPost_102 : decode cX3_addPost 102 = .ok (.ireturn, 1) := by decide +kernel
theorem dX3_addPost_103 : decode cX3_addPost 103 = .ok (.aload_n 0, 1) := by decide +kernel
theorem dX3_addPost_104 : decode cX3_addPost 104 = .ok (.aload_n 3, 1) := by decide +kernel
theorem dX3_addPost_105 : decode cX3_addPost 105 = .ok (.invokevirtual 108, 3) := by decide +kernel
theorem dX3_addPost_108 : decode cX3_addPost 108 = .ok (.ifCond .ne 6, 3) := by decide +kernel
theorem dX3_addPost_111 : decode cX3_addPost 111 = .ok (.bipush (-2), 2) := by decide +kernel
theorem dX3_addPost_113 : decode cX3_addPost 113 = .ok (.ireturn, 1) := by decide +kernel
theorem dX3_addPost_114 : decode cX3_addPost 114 = .ok (.aload_n 3, 1) := by decide +kernel
theorem dX3_addPost_115 : decode cX3_addPost 115 = .ok (.invokevirtual 112, 3) := by decide +kernel
theorem dX3_addPost_118 : decode cX3_addPost 118 = .ok (.ifCond .ne 6, 3) := by decide +kernel
theorem dX3_addPost_121 : decode cX3_addPost 121 = .ok (.bipush (-3), 2) := by decide +kernel
theorem dX3_addPost_123 : decode cX3_addPost 123 = .ok (.ireturn, 1) := by decide +kernel
theorem dX3_addPost_124 : decode cX3_addPost 124 = .ok (.aload_n 0, 1) := by decide +kernel
theorem dX3_addPost_125 : decode cX3_addPost 125 = .ok (.aload_n 3, 1) := by decide +kernel
theorem dX3_addPost_126 : decode cX3_addPost 126 = .ok (.iconst (-1), 1) := by decide +kernel
theorem dX3_addPost_127 : decode cX3_addPost 127 = .ok (.lconst 0, 1) := by decide +kernel
theorem dX3_addPost_128 : decode cX3_addPost 128 = .ok (.invokevirtual 116, 3) := by decide +kernel
theorem dX3_addPost_131 : decode cX3_addPost 131 = .ok (.istore 5, 2) := by decide +kernel
theorem dX3_addPost_133 : decode cX3_addPost 133 = .ok (.iload 5, 2) := by decide +kernel
theorem dX3_addPost_135 : decode cX3_addPost 135 = .ok (.ifCond .ne 12, 3) := by decide +kernel
theorem dX3_addPost_138 : decode cX3_addPost 138 = .ok (.aload_n 0, 1) := by decide +kernel
theorem dX3_addPost_139 : decode cX3_addPost 139 = .ok (.lload_n 1, 1) := by decide +kernel
theorem dX3_addPost_140 : decode cX3_addPost 140 = .ok (.aload_n 3, 1) := by decide +kernel
theorem dX3_addPost_141 : decode cX3_addPost 141 = .ok (.invokevirtual 120, 3) := by decide +kernel
theorem dX3_addPost_144 : decode cX3_addPost 144 = .ok (.goto 5, 3) := by decide +kernel
theorem dX3_addPost_147 : decode cX3_addPost 147 = .ok (.iload 5, 2) := by decide +kernel
theorem dX3_addPost_149 : decode cX3_addPost 149 = .ok (.ireturn, 1) := by decide +kernel
theorem dX3_addHold_0 : decode cX3_addHold 0 = .ok (.lload_n 1, 1) := by decide +kernel
theorem dX3_addHold_1 : decode cX3_addHold 1 = .ok (.lconst 0, 1) := by decide +kernel
theorem dX3_addHold_2 : decode cX3_addHold 2 = .ok (.lcmp, 1) := by decide +kernel
theorem dX3_addHold_3 : decode cX3_addHold 3 = .ok (.ifCond .eq 17, 3) := by decide +kernel
theorem dX3_addHold_6 : decode cX3_addHold 6 = .ok (.iload_n 3, 1) := by decide +kernel
theorem dX3_addHold_7 : decode cX3_addHold 7 = .ok (.invokestatic 124, 3) := by decide +kernel
theorem dX3_addHold_10 : decode cX3_addHold 10 = .ok (.ifCond .eq 10, 3) := by decide +kernel
theorem dX3_addHold_13 : decode cX3_addHold 13 = .ok (.lload 4, 2) := by decide +kernel
theorem dX3_addHold_15 : decode cX3_addHold 15 = .ok (.lconst 0, 1) := by decide +kernel
theorem dX3_addHold_16 : decode cX3_addHold 16 = .ok (.lcmp, 1) := by decide +kernel
theorem dX3_addHold_17 : decode cX3_addHold 17 = .ok (.ifCond .gt 5, 3) := by decide +kernel
theorem dX3_addHold_20 : decode cX3_addHold 20 = .ok (.iconst (-1), 1) := by decide +kernel
theorem dX3_addHold_21 : decode cX3_addHold 21 = .ok (.ireturn, 1) := by decide +kernel
theorem dX3_addHold_22 : decode cX3_addHold 22 = .ok (.aload_n 0, 1) := by decide +kernel
theorem dX3_addHold_23 : decode cX3_addHold 23 = .ok (.getfield 50, 3) := by decide +kernel
theorem dX3_addHold_26 : decode cX3_addHold 26 = .ok (.iconst 3, 1) := by decide +kernel
theorem dX3_addHold_27 : decode cX3_addHold 27 = .ok (.lload_n 1, 1) := by decide +kernel
theorem dX3_addHold_28 : decode cX3_addHold 28 = .ok (.invokevirtual 95, 3) := by decide +kernel
theorem dX3_addHold_31 : decode cX3_addHold 31 = .ok (.aload_n 0, 1) := by decide +kernel
theorem dX3_addHold_32 : decode cX3_addHold 32 = .ok (.getfield 50, 3) := by decide +kernel
theorem dX3_addHold_35 : decode cX3_addHold 35 = .ok (.iload_n 3, 1) := by decide +kernel
theorem dX3_addHold_36 : decode cX3_addHold 36 = .ok (.i2l, 1) := by decide +kernel
theorem dX3_addHold_37 : decode cX3_addHold 37 = .ok (.iconst 1, 1) := by decide +kernel
theorem dX3_addHold_38 : decode cX3_addHold 38 = .ok (.invokevirtual 84, 3) := by decide +kernel
theorem dX3_addHold_41 : decode cX3_addHold 41 = .ok (.aload_n 0, 1) := by decide +kernel
theorem dX3_addHold_42 : decode cX3_addHold 42 = .ok (.getfield 50, 3) := by decide +kernel
theorem dX3_addHold_45 : decode cX3_addHold 45 = .ok (.lload 4, 2) := by decide +kernel
theorem dX3_addHold_47 : decode cX3_addHold 47 = .ok (.bipush 8, 2) := by decide +kernel
theorem dX3_addHold_49 : decode cX3_addHold 49 = .ok (.invokevirtual 84, 3) := by decide +kernel
theorem dX3_addHold_52 : decode cX3_addHold 52 = .ok (.aload_n 0, 1) := by decide +kernel
theorem dX3_addHold_53 : decode cX3_addHold 53 = .ok (.lload_n 1, 1) := by decide +kernel
theorem dX3_addHold_54 : decode cX3_addHold 54 = .ok (.invokevirtual 105, 3) := by decide +kernel
theorem dX3_addHold_57 : decode cX3_addHold 57 = .ok (.istore 6, 2) := by decide +kernel
theorem dX3_addHold_59 : decode cX3_addHold 59 = .ok (.iload 6, 2) := by decide +kernel
theorem dX3_addHold_61 : decode cX3_addHold 61 = .ok (.iconst (-1), 1) := by decide +kernel
theorem dX3_addHold_62 : decode cX3_addHold 62 = .ok (.if_icmp .eq 6, 3) := by decide +kernel
theorem dX3_addHold_65 : decode cX3_addHold 65 = .ok (.iload 6, 2) := by decide +kernel
theorem dX3_addHold_67 : decode cX3_addHold 67 = .ok (.ireturn, 1) := by decide +kernel
theorem dX3_addHold_68 : decode cX3_addHold 68 = .ok (.iload_n 3, 1) := by decide +kernel
theorem dX3_addHold_69 : decode cX3_addHold 69 = .ok (.aload_n 0, 1) := by decide +kernel
theorem dX3_addHold_70 : decode cX3_addHold 70 = .ok (.getfield 61, 3) := by decide +kernel
theorem dX3_addHold_73 : decode cX3_addHold 73 = .ok (.if_icmp .lt 6, 3) := by decide +kernel
theorem dX3_addHold_76 : decode cX3_addHold 76 = .ok (.bipush (-2), 2) := by decide +kernel
theorem dX3_addHold_78 : decode cX3_addHold 78 = .ok (.ireturn, 1) := by decide +kernel
theorem dX3_addHold_79 : decode cX3_addHold 79 = .ok (.aload_n 0, 1) := by decide +kernel
theorem dX3_addHold_80 : decode cX3_addHold 80 = .ok (.getfield 15, 3) := by decide +kernel
theorem dX3_addHold_83 : decode cX3_addHold 83 = .ok (.iload_n 3, 1) := by decide +kernel
theorem dX3_addHold_84 : decode cX3_addHold 84 = .ok (.laload, 1) := by decide +kernel
theorem dX3_addHold_85 : decode cX3_addHold 85 = .ok (.aload_n 0, 1) := by decide +kernel
theorem dX3_addHold_86 : decode cX3_addHold 86 = .ok (.getfield 9, 3) := by decide +kernel
theorem dX3_addHold_89 : decode cX3_addHold 89 = .ok (.iload_n 3, 1) := by decide +kernel
theorem dX3_addHold_90 : decode cX3_addHold 90 = .ok (.laload, 1) := by decide +kernel
theorem dX3_addHold_91 : decode cX3_addHold 91 = .ok (.lsub, 1) := by decide +kernel
theorem dX3_addHold_92 : decode cX3_addHold 92 = .ok (.aload_n 0, 1) := by decide +kernel
theorem dX3_addHold_93 : decode cX3_addHold 93 = .ok (.getfield 18, 3) := by decide +kernel
theorem dX3_addHold_96 : decode cX3_addHold 96 = .ok (.iload_n 3, 1) := by decide +kernel
theorem dX3_addHold_97 : decode cX3_addHold 97 = .ok (.laload, 1) := by decide +kernel
theorem dX3_addHold_98 : decode cX3_addHold 98 = .ok (.lsub, 1) := by decide +kernel
theorem dX3_addHold_99 : decode cX3_addHold 99 = .ok (.lload 4, 2) := by decide +kernel
theorem dX3_addHold_101 : decode cX3_addHold 101 = .ok (.invokestatic 128, 3) := by decide +kernel
theorem dX3_addHold_104 : decode cX3_addHold 104 = .ok (.ifCond .eq 6, 3) := by decide +kernel
theorem dX3_addHold_107 : decode cX3_addHold 107 = .ok (.bipush (-6), 2) := by decide +kernel
theorem dX3_addHold_109 : decode cX3_addHold 109 = .ok (.ireturn, 1) := by decide +kernel
theorem dX3_addHold_110 : decode cX3_addHold 110 = .ok (.aload_n 0, 1) := by decide +kernel
theorem dX3_addHold_111 : decode cX3_addHold 111 = .ok (.getfield 65, 3) := by decide +kernel
theorem dX3_addHold_114 : decode cX3_addHold 114 = .ok (.sipush 200, 3) := by decide +kernel
theorem dX3_addHold_117 : decode cX3_addHold 117 = .ok (.if_icmp .lt 6, 3) := by decide +kernel
theorem dX3_addHold_120 : decode cX3_addHold 120 = .ok (.bipush (-8), 2) := by decide +kernel
theorem dX3_addHold_122 : decode cX3_addHold 122 = .ok (.ireturn, 1) := by decide +kernel
theorem dX3_addHold_123 : decode cX3_addHold 123 = .ok (.aload_n 0, 1) := by decide +kernel
theorem dX3_addHold_124 : decode cX3_addHold 124 = .ok (.getfield 18, 3) := by decide +kernel
theorem dX3_addHold_127 : decode cX3_addHold 127 = .ok (.iload_n 3, 1) := by decide +kernel
theorem dX3_addHold_128 : decode cX3_addHold 128 = .ok (.dup2, 1) := by decide +kernel
theorem dX3_addHold_129 : decode cX3_addHold 129 = .ok (.laload, 1) := by decide +kernel
theorem dX3_addHold_130 : decode cX3_addHold 130 = .ok (.lload 4, 2) := by decide +kernel
theorem dX3_addHold_132 : decode cX3_addHold 132 = .ok (.ladd, 1) := by decide +kernel
theorem dX3_addHold_133 : decode cX3_addHold 133 = .ok (.lastore, 1) := by decide +kernel
theorem dX3_addHold_134 : decode cX3_addHold 134 = .ok (.aload_n 0, 1) := by decide +kernel
theorem dX3_addHold_135 : decode cX3_addHold 135 = .ok (.dup, 1) := by decide +kernel
theorem dX3_addHold_136 : decode cX3_addHold 136 = .ok (.getfield 68, 3) := by decide +kernel
theorem dX3_addHold_139 : decode cX3_addHold 139 = .ok (.iconst 1, 1) := by decide +kernel
theorem dX3_addHold_140 : decode cX3_addHold 140 = .ok (.iadd, 1) := by decide +kernel
theorem dX3_addHold_141 : decode cX3_addHold 141 = .ok (.putfield 68, 3) := by decide +kernel
theorem dX3_addHold_144 : decode cX3_addHold 144 = .ok (.aload_n 0, 1) := by decide +kernel
theorem dX3_addHold_145 : decode cX3_addHold 145 = .ok (.lload_n 1, 1) := by decide +kernel
theorem dX3_addHold_146 : decode cX3_addHold 146 = .ok (.invokevirtual 88, 3) := by decide +kernel
theorem dX3_addHold_149 : decode cX3_addHold 149 = .ok (.ireturn, 1) := by decide +kernel
theorem dX3_addRelease_0 : decode cX3_addRelease 0 = .ok (.iload_n 1, 1) := by decide +kernel
theorem dX3_addRelease_1 : decode cX3_addRelease 1 = .ok (.invokestatic 132, 3) := by decide +kernel
theorem dX3_addRelease_4 : decode cX3_addRelease 4 = .ok (.ifCond .ne 5, 3) := by decide +kernel
theorem dX3_addRelease_7 : decode cX3_addRelease 7 = .ok (.iconst (-1), 1) := by decide +kernel
theorem dX3_addRelease_8 : decode cX3_addRelease 8 = .ok (.ireturn, 1) := by decide +kernel
theorem dX3_addRelease_9 : decode cX3_addRelease 9 = .ok (.aload_n 0, 1) := by decide +kernel
theorem dX3_addRelease_10 : decode cX3_addRelease 10 = .ok (.iload_n 1, 1) := by decide +kernel
theorem dX3_addRelease_11 : decode cX3_addRelease 11 = .ok (.invokevirtual 135, 3) := by decide +kernel
theorem dX3_addRelease_14 : decode cX3_addRelease 14 = .ok (.ifCond .ne 6, 3) := by decide +kernel
theorem dX3_addRelease_17 : decode cX3_addRelease 17 = .ok (.bipush (-2), 2) := by decide +kernel
theorem dX3_addRelease_19 : decode cX3_addRelease 19 = .ok (.ireturn, 1) := by decide +kernel
theorem dX3_addRelease_20 : decode cX3_addRelease 20 = .ok (.aload_n 0, 1) := by decide +kernel
theorem dX3_addRelease_21 : decode cX3_addRelease 21 = .ok (.getfield 65, 3) := by decide +kernel
theorem dX3_addRelease_24 : decode cX3_addRelease 24 = .ok (.sipush 200, 3) := by decide +kernel
theorem dX3_addRelease_27 : decode cX3_addRelease 27 = .ok (.if_icmp .lt 6, 3) := by decide +kernel
theorem dX3_addRelease_30 : decode cX3_addRelease 30 = .ok (.bipush (-8), 2) := by decide +kernel
theorem dX3_addRelease_32 : decode cX3_addRelease 32 = .ok (.ireturn, 1) := by decide +kernel
theorem dX3_addRelease_33 : decode cX3_addRelease 33 = .ok (.aload_n 0, 1) := by decide +kernel
theorem dX3_addRelease_34 : decode cX3_addRelease 34 = .ok (.getfield 50, 3) := by decide +kernel
theorem dX3_addRelease_37 : decode cX3_addRelease 37 = .ok (.iconst 4, 1) := by decide +kernel
theorem dX3_addRelease_38 : decode cX3_addRelease 38 = .ok (.invokevirtual 81, 3) := by decide +kernel
theorem dX3_addRelease_41 : decode cX3_addRelease 41 = .ok (.aload_n 0, 1) := by decide +kernel
theorem dX3_addRelease_42 : decode cX3_addRelease 42 = .ok (.getfield 50, 3) := by decide +kernel
theorem dX3_addRelease_45 : decode cX3_addRelease 45 = .ok (.iload_n 1, 1) := by decide +kernel
theorem dX3_addRelease_46 : decode cX3_addRelease 46 = .ok (.i2l, 1) := by decide +kernel
theorem dX3_addRelease_47 : decode cX3_addRelease 47 = .ok (.iconst 2, 1) := by decide +kernel
theorem dX3_addRelease_48 : decode cX3_addRelease 48 = .ok (.invokevirtual 84, 3) := by decide +kernel
theorem dX3_addRelease_51 : decode cX3_addRelease 51 = .ok (.aload_n 0, 1) := by decide +kernel
theorem dX3_addRelease_52 : decode cX3_addRelease 52 = .ok (.iload_n 1, 1) := by decide +kernel
theorem dX3_addRelease_53 : decode cX3_addRelease 53 = .ok (.aload_n 0, 1) := by decide +kernel
theorem dX3_addRelease_54 : decode cX3_addRelease 54 = .ok (.getfield 65, 3) := by decide +kernel
theorem dX3_addRelease_57 : decode cX3_addRelease 57 = .ok (.invokevirtual 138, 3) := by decide +kernel
theorem dX3_addRelease_60 : decode cX3_addRelease 60 = .ok (.aload_n 0, 1) := by decide +kernel
theorem dX3_addRelease_61 : decode cX3_addRelease 61 = .ok (.lconst 0, 1) := by decide +kernel
theorem dX3_addRelease_62 : decode cX3_addRelease 62 = .ok (.invokevirtual 88, 3) := by decide +kernel
theorem dX3_addRelease_65 : decode cX3_addRelease 65 = .ok (.ireturn, 1) := by decide +kernel
theorem dX3_addCapture_0 : decode cX3_addCapture 0 = .ok (.lload_n 1, 1) := by decide +kernel
theorem dX3_addCapture_1 : decode cX3_addCapture 1 = .ok (.lconst 0, 1) := by decide +kernel
theorem dX3_addCapture_2 : decode cX3_addCapture 2 = .ok (.lcmp, 1) := by decide +kernel
theorem dX3_addCapture_3 : decode cX3_addCapture 3 = .ok (.ifCond .eq 25, 3) := by decide +kernel
theorem dX3_addCapture_6 : decode cX3_addCapture 6 = .ok (.iload_n 3, 1) := by decide +kernel
theorem dX3_addCapture_7 : decode cX3_addCapture 7 = .ok (.invokestatic 132, 3) := by decide +kernel
theorem dX3_addCapture_10 : decode cX3_addCapture 10 = .ok (.ifCond .eq 18, 3) := by decide +kernel
theorem dX3_addCapture_13 : decode cX3_addCapture 13 = .ok (.iload 4, 2) := by decide +kernel
theorem dX3_addCapture_15 : decode cX3_addCapture 15 = .ok (.invokestatic 124, 3) := by decide +kernel
theorem dX3_addCapture_18 : decode cX3_addCapture 18 = .ok (.ifCond .eq 10, 3) := by decide +kernel
theorem dX3_addCapture_21 : decode cX3_addCapture 21 = .ok (.lload 5, 2) := by decide +kernel
theorem dX3_addCapture_23 : decode cX3_addCapture 23 = .ok (.lconst 0, 1) := by decide +kernel
theorem dX3_addCapture_24 : decode cX3_addCapture 24 = .ok (.lcmp, 1) := by decide +kernel
theorem dX3_addCapture_25 : decode cX3_addCapture 25 = .ok (.ifCond .gt 5, 3) := by decide +kernel
theorem dX3_addCapture_28 : decode cX3_addCapture 28 = .ok (.iconst (-1), 1) := by decide +kernel
theorem dX3_addCapture_29 : decode cX3_addCapture 29 = .ok (.ireturn, 1) := by decide +kernel
theorem dX3_addCapture_30 : decode cX3_addCapture 30 = .ok (.aload_n 0, 1) := by decide +kernel
theorem dX3_addCapture_31 : decode cX3_addCapture 31 = .ok (.getfield 50, 3) := by decide +kernel
theorem dX3_addCapture_34 : decode cX3_addCapture 34 = .ok (.iconst 5, 1) := by decide +kernel
theorem dX3_addCapture_35 : decode cX3_addCapture 35 = .ok (.lload_n 1, 1) := by decide +kernel
theorem dX3_addCapture_36 : decode cX3_addCapture 36 = .ok (.invokevirtual 95, 3) := by decide +kernel
theorem dX3_addCapture_39 : decode cX3_addCapture 39 = .ok (.aload_n 0, 1) := by decide +kernel
theorem dX3_addCapture_40 : decode cX3_addCapture 40 = .ok (.getfield 50, 3) := by decide +kernel
theorem dX3_addCapture_43 : decode cX3_addCapture 43 = .ok (.iload_n 3, 1) := by decide +kernel
theorem dX3_addCapture_44 : decode cX3_addCapture 44 = .ok (.i2l, 1) := by decide +kernel
theorem dX3_addCapture_45 : decode cX3_addCapture 45 = .ok (.iconst 2, 1) := by decide +kernel
theorem dX3_addCapture_46 : decode cX3_addCapture 46 = .ok (.invokevirtual 84, 3) := by decide +kernel
theorem dX3_addCapture_49 : decode cX3_addCapture 49 = .ok (.aload_n 0, 1) := by decide +kernel
theorem dX3_addCapture_50 : decode cX3_addCapture 50 = .ok (.getfield 50, 3) := by decide +kernel
theorem dX3_addCapture_53 : decode cX3_addCapture 53 = .ok (.iload 4, 2) := by decide +kernel
theorem dX3_addCapture_55 : decode cX3_addCapture 55 = .ok (.i2l, 1) := by decide +kernel
theorem dX3_addCapture_56 : decode cX3_addCapture 56 = .ok (.iconst 1, 1) := by decide +kernel
theorem dX3_addCapture_57 : decode cX3_addCapture 57 = .ok (.invokevirtual 84, 3) := by decide +kernel
theorem dX3_addCapture_60 : decode cX3_addCapture 60 = .ok (.aload_n 0, 1) := by decide +kernel
theorem dX3_addCapture_61 : decode cX3_addCapture 61 = .ok (.getfield 50, 3) := by decide +kernel
theorem dX3_addCapture_64 : decode cX3_addCapture 64 = .ok (.lload 5, 2) := by decide +kernel
theorem dX3_addCapture_66 : decode cX3_addCapture 66 = .ok (.bipush 8, 2) := by decide +kernel
theorem dX3_addCapture_68 : decode cX3_addCapture 68 = .ok (.invokevirtual 84, 3) := by decide +kernel
theorem dX3_addCapture_71 : decode cX3_addCapture 71 = .ok (.aload_n 0, 1) := by decide +kernel
theorem dX3_addCapture_72 : decode cX3_addCapture 72 = .ok (.lload_n 1, 1) := by decide +kernel
theorem dX3_addCapture_73 : decode cX3_addCapture 73 = .ok (.invokevirtual 105, 3) := by decide +kernel
theorem dX3_addCapture_76 : decode cX3_addCapture 76 = .ok (.istore 7, 2) := by decide +kernel
theorem dX3_addCapture_78 : decode cX3_addCapture 78 = .ok (.iload 7, 2) := by decide +kernel
theorem dX3_addCapture_80 : decode cX3_addCapture 80 = .ok (.iconst (-1), 1) := by decide +kernel
theorem dX3_addCapture_81 : decode cX3_addCapture 81 = .ok (.if_icmp .eq 6, 3) := by decide +kernel
theorem dX3_addCapture_84 : decode cX3_addCapture 84 = .ok (.iload 7, 2) := by decide +kernel
theorem dX3_addCapture_86 : decode cX3_addCapture 86 = .ok (.ireturn, 1) := by decide +kernel
theorem dX3_addCapture_87 : decode cX3_addCapture 87 = .ok (.aload_n 0, 1) := by decide +kernel
theorem dX3_addCapture_88 : decode cX3_addCapture 88 = .ok (.iload_n 3, 1) := by decide +kernel
theorem dX3_addCapture_89 : decode cX3_addCapture 89 = .ok (.invokevirtual 135, 3) := by decide +kernel
theorem dX3_addCapture_92 : decode cX3_addCapture 92 = .ok (.ifCond .eq 23, 3) := by decide +kernel
theorem dX3_addCapture_95 : decode cX3_addCapture 95 = .ok (.iload 4, 2) := by decide +kernel
theorem dX3_addCapture_97 : decode cX3_addCapture 97 = .ok (.aload_n 0, 1) := by decide +kernel
theorem dX3_addCapture_98 : decode cX3_addCapture 98 = .ok (.getfield 61, 3) := by decide +kernel
theorem dX3_addCapture_101 : decode cX3_addCapture 101 = .ok (.if_icmp .ge 14, 3) := by decide +kernel
theorem dX3_addCapture_104 : decode cX3_addCapture 104 = .ok (.lload 5, 2) := by decide +kernel
theorem dX3_addCapture_106 : decode cX3_addCapture 106 = .ok (.aload_n 0, 1) := by decide +kernel
theorem dX3_addCapture_107 : decode cX3_addCapture 107 = .ok (.iload_n 3, 1) := by decide +kernel
theorem dX3_addCapture_108 : decode cX3_addCapture 108 = .ok (.invokevirtual 142, 3) := by decide +kernel
theorem dX3_addCapture_111 : decode cX3_addCapture 111 = .ok (.lcmp, 1) := by decide +kernel
theorem dX3_addCapture_112 : decode cX3_addCapture 112 = .ok (.ifCond .le 6, 3) := by decide +kernel
theorem dX3_addCapture_115 : decode cX3_addCapture 115 = .ok (.bipush (-2), 2) := by decide +kernel
theorem dX3_addCapture_117 : decode cX3_addCapture 117 = .ok (.ireturn, 1) := by decide +kernel
theorem dX3_addCapture_118 : decode cX3_addCapture 118 = .ok (.aload_n 0, 1) := by decide +kernel
theorem dX3_addCapture_119 : decode cX3_addCapture 119 = .ok (.getfield 57, 3) := by decide +kernel
theorem dX3_addCapture_122 : decode cX3_addCapture 122 = .ok (.iconst 0, 1) := by decide +kernel
theorem dX3_addCapture_123 : decode cX3_addCapture 123 = .ok (.putfield 92, 3) := by decide +kernel
theorem dX3_addCapture_126 : decode cX3_addCapture 126 = .ok (.aload_n 0, 1) := by decide +kernel
theorem dX3_addCapture_127 : decode cX3_addCapture 127 = .ok (.getfield 57, 3) := by decide +kernel
theorem dX3_addCapture_130 : decode cX3_addCapture 130 = .ok (.aload_n 0, 1) := by decide +kernel
theorem dX3_addCapture_131 : decode cX3_addCapture 131 = .ok (.iload_n 3, 1) := by decide +kernel
theorem dX3_addCapture_132 : decode cX3_addCapture 132 = .ok (.invokevirtual 146, 3) := by decide +kernel
theorem dX3_addCapture_135 : decode cX3_addCapture 135 = .ok (.lload 5, 2) := by decide +kernel
theorem dX3_addCapture_137 : decode cX3_addCapture 137 = .ok (.lneg, 1) := by decide +kernel
theorem dX3_addCapture_138 : decode cX3_addCapture 138 = .ok (.invokevirtual 150, 3) := by decide +kernel
theorem dX3_addCapture_141 : decode cX3_addCapture 141 = .ok (.pop, 1) := by decide +kernel
theorem dX3_addCapture_142 : decode cX3_addCapture 142 = .ok (.aload_n 0, 1) := by decide +kernel
theorem dX3_addCapture_143 : decode cX3_addCapture 143 = .ok (.getfield 57, 3) := by decide +kernel
theorem dX3_addCapture_146 : decode cX3_addCapture 146 = .ok (.iload 4, 2) := by decide +kernel
theorem dX3_addCapture_148 : decode cX3_addCapture 148 = .ok (.lload 5, 2) := by decide +kernel
theorem dX3_addCapture_150 : decode cX3_addCapture 150 = .ok (.invokevirtual 150, 3) := by decide +kernel
theorem dX3_addCapture_153 : decode cX3_addCapture 153 = .ok (.pop, 1) := by decide +kernel
theorem dX3_addCapture_154 : decode cX3_addCapture 154 = .ok (.aload_n 0, 1) := by decide +kernel
theorem dX3_addCapture_155 : decode cX3_addCapture 155 = .ok (.aload_n 0, 1) := by decide +kernel
theorem dX3_addCapture_156 : decode cX3_addCapture 156 = .ok (.getfield 57, 3) := by decide +kernel
theorem dX3_addCapture_159 : decode cX3_addCapture 159 = .ok (.aload_n 0, 1) := by decide +kernel
theorem dX3_addCapture_160 : decode cX3_addCapture 160 = .ok (.iload_n 3, 1) := by decide +kernel
theorem dX3_addCapture_161 : decode cX3_addCapture 161 = .ok (.invokevirtual 146, 3) := by decide +kernel
theorem dX3_addCapture_164 : decode cX3_addCapture 164 = .ok (.aload_n 0, 1) := by decide +kernel
theorem dX3_addCapture_165 : decode cX3_addCapture 165 = .ok (.iload_n 3, 1) := by decide +kernel
theorem dX3_addCapture_166 : decode cX3_addCapture 166 = .ok (.invokevirtual 142, 3) := by decide +kernel
theorem dX3_addCapture_169 : decode cX3_addCapture 169 = .ok (.invokevirtual 116, 3) := by decide +kernel
theorem dX3_addCapture_172 : decode cX3_addCapture 172 = .ok (.istore 8, 2) := by decide +kernel
theorem dX3_addCapture_174 : decode cX3_addCapture 174 = .ok (.iload 8, 2) := by decide +kernel
theorem dX3_addCapture_176 : decode cX3_addCapture 176 = .ok (.ifCond .eq 6, 3) := by decide +kernel
theorem dX3_addCapture_179 : decode cX3_addCapture 179 = .ok (.iload 8, 2) := by decide +kernel
theorem dX3_addCapture_181 : decode cX3_addCapture 181 = .ok (.ireturn, 1) := by decide +kernel
theorem dX3_addCapture_182 : decode cX3_addCapture 182 = .ok (.aload_n 0, 1) := by decide +kernel
theorem dX3_addCapture_183 : decode cX3_addCapture 183 = .ok (.iload_n 3, 1) := by decide +kernel
theorem dX3_addCapture_184 : decode cX3_addCapture 184 = .ok (.aload_n 0, 1) := by decide +kernel
theorem dX3_addCapture_185 : decode cX3_addCapture 185 = .ok (.getfield 65, 3) := by decide +kernel
theorem dX3_addCapture_188 : decode cX3_addCapture 188 = .ok (.invokevirtual 138, 3) := by decide +kernel
theorem dX3_addCapture_191 : decode cX3_addCapture 191 = .ok (.aload_n 0, 1) := by decide +kernel
theorem dX3_addCapture_192 : decode cX3_addCapture 192 = .ok (.lload_n 1, 1) := by decide +kernel
theorem dX3_addCapture_193 : decode cX3_addCapture 193 = .ok (.aload_n 0, 1) := by decide +kernel
theorem dX3_addCapture_194 : decode cX3_addCapture 194 = .ok (.getfield 57, 3) := by decide +kernel
theorem dX3_addCapture_197 : decode cX3_addCapture 197 = .ok (.invokevirtual 120, 3) := by decide +kernel
theorem dX3_addCapture_200 : decode cX3_addCapture 200 = .ok (.ireturn, 1) := by decide +kernel
theorem dX3_addReversal_0 : decode cX3_addReversal 0 = .ok (.lload_n 1, 1) := by decide +kernel
theorem dX3_addReversal_1 : decode cX3_addReversal 1 = .ok (.lconst 0, 1) := by decide +kernel
theorem dX3_addReversal_2 : decode cX3_addReversal 2 = .ok (.lcmp, 1) := by decide +kernel
theorem dX3_addReversal_3 : decode cX3_addReversal 3 = .ok (.ifCond .eq 10, 3) := by decide +kernel
theorem dX3_addReversal_6 : decode cX3_addReversal 6 = .ok (.iload_n 3, 1) := by decide +kernel
theorem dX3_addReversal_7 : decode cX3_addReversal 7 = .ok (.invokestatic 132, 3) := by decide +kernel
theorem dX3_addReversal_10 : decode cX3_addReversal 10 = .ok (.ifCond .ne 5, 3) := by decide +kernel
theorem dX3_addReversal_13 : decode cX3_addReversal 13 = .ok (.iconst (-1), 1) := by decide +kernel
theorem dX3_addReversal_14 : decode cX3_addReversal 14 = .ok (.ireturn, 1) := by decide +kernel
theorem dX3_addReversal_15 : decode cX3_addReversal 15 = .ok (.aload_n 0, 1) := by decide +kernel
theorem dX3_addReversal_16 : decode cX3_addReversal 16 = .ok (.getfield 50, 3) := by decide +kernel
theorem dX3_addReversal_19 : decode cX3_addReversal 19 = .ok (.bipush 6, 2) := by decide +kernel
theorem dX3_addReversal_21 : decode cX3_addReversal 21 = .ok (.lload_n 1, 1) := by decide +kernel
theorem dX3_addReversal_22 : decode cX3_addReversal 22 = .ok (.invokevirtual 95, 3) := by decide +kernel
theorem dX3_addReversal_25 : decode cX3_addReversal 25 = .ok (.aload_n 0, 1) := by decide +kernel
theorem dX3_addReversal_26 : decode cX3_addReversal 26 = .ok (.getfield 50, 3) := by decide +kernel
theorem dX3_addReversal_29 : decode cX3_addReversal 29 = .ok (.iload_n 3, 1) := by decide +kernel
theorem dX3_addReversal_30 : decode cX3_addReversal 30 = .ok (.i2l, 1) := by decide +kernel
theorem dX3_addReversal_31 : decode cX3_addReversal 31 = .ok (.iconst 2, 1) := by decide +kernel
theorem dX3_addReversal_32 : decode cX3_addReversal 32 = .ok (.invokevirtual 84, 3) := by decide +kernel
theorem dX3_addReversal_35 : decode cX3_addReversal 35 = .ok (.aload_n 0, 1) := by decide +kernel
theorem dX3_addReversal_36 : decode cX3_addReversal 36 = .ok (.lload_n 1, 1) := by decide +kernel
theorem dX3_addReversal_37 : decode cX3_addReversal 37 = .ok (.invokevirtual 105, 3) := by decide +kernel
theorem dX3_addReversal_40 : decode cX3_addReversal 40 = .ok (.istore 4, 2) := by decide +kernel
theorem dX3_addReversal_42 : decode cX3_addReversal 42 = .ok (.iload 4, 2) := by decide +kernel
theorem dX3_addReversal_44 : decode cX3_addReversal 44 = .ok (.iconst (-1), 1) := by decide +kernel
theorem dX3_addReversal_45 : decode cX3_addReversal 45 = .ok (.if_icmp .eq 6, 3) := by decide +kernel
theorem dX3_addReversal_48 : decode cX3_addReversal 48 = .ok (.iload 4, 2) := by decide +kernel
theorem dX3_addReversal_50 : decode cX3_addReversal 50 = .ok (.ireturn, 1) := by decide +kernel
theorem dX3_addReversal_51 : decode cX3_addReversal 51 = .ok (.iload_n 3, 1) := by decide +kernel
theorem dX3_addReversal_52 : decode cX3_addReversal 52 = .ok (.aload_n 0, 1) := by decide +kernel
theorem dX3_addReversal_53 : decode cX3_addReversal 53 = .ok (.getfield 65, 3) := by decide +kernel
theorem dX3_addReversal_56 : decode cX3_addReversal 56 = .ok (.if_icmp .ge 12, 3) := by decide +kernel
theorem dX3_addReversal_59 : decode cX3_addReversal 59 = .ok (.aload_n 0, 1) := by decide +kernel
theorem dX3_addReversal_60 : decode cX3_addReversal 60 = .ok (.getfield 38, 3) := by decide +kernel
theorem dX3_addReversal_63 : decode cX3_addReversal 63 = .ok (.iload_n 3, 1) := by decide +kernel
theorem dX3_addReversal_64 : decode cX3_addReversal 64 = .ok (.iaload, 1) := by decide +kernel
theorem dX3_addReversal_65 : decode cX3_addReversal 65 = .ok (.ifCond .ne 6, 3) := by decide +kernel
theorem dX3_addReversal_68 : decode cX3_addReversal 68 = .ok (.bipush (-2), 2) := by decide +kernel
theorem dX3_addReversal_70 : decode cX3_addReversal 70 = .ok (.ireturn, 1) := by decide +kernel
theorem dX3_addReversal_71 : decode cX3_addReversal 71 = .ok (.aload_n 0, 1) := by decide +kernel
theorem dX3_addReversal_72 : decode cX3_addReversal 72 = .ok (.getfield 35, 3) := by decide +kernel
theorem dX3_addReversal_75 : decode cX3_addReversal 75 = .ok (.iload_n 3, 1) := by decide +kernel
theorem dX3_addReversal_76 : decode cX3_addReversal 76 = .ok (.iaload, 1) := by decide +kernel
theorem dX3_addReversal_77 : decode cX3_addReversal 77 = .ok (.iconst (-1), 1) := by decide +kernel
theorem dX3_addReversal_78 : decode cX3_addReversal 78 = .ok (.if_icmp .eq 6, 3) := by decide +kernel
theorem dX3_addReversal_81 : decode cX3_addReversal 81 = .ok (.bipush (-7), 2) := by decide +kernel
theorem dX3_addReversal_83 : decode cX3_addReversal 83 = .ok (.ireturn, 1) := by decide +kernel
theorem dX3_addReversal_84 : decode cX3_addReversal 84 = .ok (.aload_n 0, 1) := by decide +kernel
theorem dX3_addReversal_85 : decode cX3_addReversal 85 = .ok (.getfield 57, 3) := by decide +kernel
theorem dX3_addReversal_88 : decode cX3_addReversal 88 = .ok (.iconst 0, 1) := by decide +kernel
theorem dX3_addReversal_89 : decode cX3_addReversal 89 = .ok (.putfield 92, 3) := by decide +kernel
theorem dX3_addReversal_92 : decode cX3_addReversal 92 = .ok (.iconst 0, 1) := by decide +kernel
theorem dX3_addReversal_93 : decode cX3_addReversal 93 = .ok (.istore 5, 2) := by decide +kernel
theorem dX3_addReversal_95 : decode cX3_addReversal 95 = .ok (.iload 5, 2) := by decide +kernel
theorem dX3_addReversal_97 : decode cX3_addReversal 97 = .ok (.aload_n 0, 1) := by decide +kernel
theorem dX3_addReversal_98 : decode cX3_addReversal 98 = .ok (.getfield 38, 3) := by decide +kernel
theorem dX3_addReversal_101 : decode cX3_addReversal 101 = .ok (.iload_n 3, 1) := by decide +kernel
theorem dX3_addReversal_102 : decode cX3_addReversal 102 = .ok (.iaload, 1) := by decide +kernel
theorem dX3_addReversal_103 : decode cX3_addReversal 103 = .ok (.if_icmp .ge 42, 3) := by decide +kernel
theorem dX3_addReversal_106 : decode cX3_addReversal 106 = .ok (.aload_n 0, 1) := by decide +kernel
theorem dX3_addReversal_107 : decode cX3_addReversal 107 = .ok (.getfield 57, 3) := by decide +kernel
theorem dX3_addReversal_110 : decode cX3_addReversal 110 = .ok (.aload_n 0, 1) := by decide +kernel
theorem dX3_addReversal_111 : decode cX3_addReversal 111 = .ok (.getfield 41, 3) := by decide +kernel
theorem dX3_addReversal_114 : decode cX3_addReversal 114 = .ok (.iload_n 3, 1) := by decide +kernel
theorem dX3_addReversal_115 : decode cX3_addReversal 115 = .ok (.bipush 8, 2) := by decide +kernel
theorem dX3_addReversal_117 : decode cX3_addReversal 117 = .ok (.imul, 1) := by decide +kernel
theorem dX3_addReversal_118 : decode cX3_addReversal 118 = .ok (.iload 5, 2) := by decide +kernel
theorem dX3_addReversal_120 : decode cX3_addReversal 120 = .ok (.iadd, 1) := by decide +kernel
theorem dX3_addReversal_121 : decode cX3_addReversal 121 = .ok (.iaload, 1) := by decide +kernel
theorem dX3_addReversal_122 : decode cX3_addReversal 122 = .ok (.aload_n 0, 1) := by decide +kernel
theorem dX3_addReversal_123 : decode cX3_addReversal 123 = .ok (.getfield 44, 3) := by decide +kernel
theorem dX3_addReversal_126 : decode cX3_addReversal 126 = .ok (.iload_n 3, 1) := by decide +kernel
theorem dX3_addReversal_127 : decode cX3_addReversal 127 = .ok (.bipush 8, 2) := by decide +kernel
theorem dX3_addReversal_129 : decode cX3_addReversal 129 = .ok (.imul, 1) := by decide +kernel
theorem dX3_addReversal_130 : decode cX3_addReversal 130 = .ok (.iload 5, 2) := by decide +kernel
theorem dX3_addReversal_132 : decode cX3_addReversal 132 = .ok (.iadd, 1) := by decide +kernel
theorem dX3_addReversal_133 : decode cX3_addReversal 133 = .ok (.laload, 1) := by decide +kernel
theorem dX3_addReversal_134 : decode cX3_addReversal 134 = .ok (.lneg, 1) := by decide +kernel
theorem dX3_addReversal_135 : decode cX3_addReversal 135 = .ok (.invokevirtual 150, 3) := by decide +kernel
theorem dX3_addReversal_138 : decode cX3_addReversal 138 = .ok (.pop, 1) := by decide +kernel
theorem dX3_addReversal_139 : decode cX3_addReversal 139 = .ok (.iinc 5 1, 3) := by decide +kernel
theorem dX3_addReversal_142 : decode cX3_addReversal 142 = .ok (.goto (-47), 3) := by decide +kernel
theorem dX3_addReversal_145 : decode cX3_addReversal 145 = .ok (.aload_n 0, 1) := by decide +kernel
theorem dX3_addReversal_146 : decode cX3_addReversal 146 = .ok (.aload_n 0, 1) := by decide +kernel
theorem dX3_addReversal_147 : decode cX3_addReversal 147 = .ok (.getfield 57, 3) := by decide +kernel
theorem dX3_addReversal_150 : decode cX3_addReversal 150 = .ok (.iconst (-1), 1) := by decide +kernel
theorem dX3_addReversal_151 : decode cX3_addReversal 151 = .ok (.lconst 0, 1) := by decide +kernel
theorem dX3_addReversal_152 : decode cX3_addReversal 152 = .ok (.invokevirtual 116, 3) := by decide +kernel
theorem dX3_addReversal_155 : decode cX3_addReversal 155 = .ok (.istore 5, 2) := by decide +kernel
theorem dX3_addReversal_157 : decode cX3_addReversal 157 = .ok (.iload 5, 2) := by decide +kernel
theorem dX3_addReversal_159 : decode cX3_addReversal 159 = .ok (.ifCond .eq 6, 3) := by decide +kernel
theorem dX3_addReversal_162 : decode cX3_addReversal 162 = .ok (.iload 5, 2) := by decide +kernel
theorem dX3_addReversal_164 : decode cX3_addReversal 164 = .ok (.ireturn, 1) := by decide +kernel
theorem dX3_addReversal_165 : decode cX3_addReversal 165 = .ok (.aload_n 0, 1) := by decide +kernel
theorem dX3_addReversal_166 : decode cX3_addReversal 166 = .ok (.getfield 35, 3) := by decide +kernel
theorem dX3_addReversal_169 : decode cX3_addReversal 169 = .ok (.iload_n 3, 1) := by decide +kernel
theorem dX3_addReversal_170 : decode cX3_addReversal 170 = .ok (.aload_n 0, 1) := by decide +kernel
theorem dX3_addReversal_171 : decode cX3_addReversal 171 = .ok (.getfield 65, 3) := by decide +kernel
theorem dX3_addReversal_174 : decode cX3_addReversal 174 = .ok (.iastore, 1) := by decide +kernel
theorem dX3_addReversal_175 : decode cX3_addReversal 175 = .ok (.aload_n 0, 1) := by decide +kernel
theorem dX3_addReversal_176 : decode cX3_addReversal 176 = .ok (.lload_n 1, 1) := by decide +kernel
theorem dX3_addReversal_177 : decode cX3_addReversal 177 = .ok (.aload_n 0, 1) := by decide +kernel
theorem dX3_addReversal_178 : decode cX3_addReversal 178 = .ok (.getfield 57, 3) := by decide +kernel
theorem dX3_addReversal_181 : decode cX3_addReversal 181 = .ok (.invokevirtual 120, 3) := by decide +kernel
theorem dX3_addReversal_184 : decode cX3_addReversal 184 = .ok (.ireturn, 1) := by decide +kernel
theorem dX3_kindOf_0 : decode cX3_kindOf 0 = .ok (.aload_n 0, 1) := by decide +kernel
theorem dX3_kindOf_1 : decode cX3_kindOf 1 = .ok (.getfield 24, 3) := by decide +kernel
theorem dX3_kindOf_4 : decode cX3_kindOf 4 = .ok (.aload_n 0, 1) := by decide +kernel
theorem dX3_kindOf_5 : decode cX3_kindOf 5 = .ok (.getfield 28, 3) := by decide +kernel
theorem dX3_kindOf_8 : decode cX3_kindOf 8 = .ok (.iload_n 1, 1) := by decide +kernel
theorem dX3_kindOf_9 : decode cX3_kindOf 9 = .ok (.iaload, 1) := by decide +kernel
theorem dX3_kindOf_10 : decode cX3_kindOf 10 = .ok (.baload, 1) := by decide +kernel
theorem dX3_kindOf_11 : decode cX3_kindOf 11 = .ok (.ireturn, 1) := by decide +kernel
theorem dX3_answeredBefore_0 : decode cX3_answeredBefore 0 = .ok (.iconst 0, 1) := by decide +kernel
theorem dX3_answeredBefore_1 : decode cX3_answeredBefore 1 = .ok (.istore_n 3, 1) := by decide +kernel
theorem dX3_answeredBefore_2 : decode cX3_answeredBefore 2 = .ok (.iload_n 3, 1) := by decide +kernel
theorem dX3_answeredBefore_3 : decode cX3_answeredBefore 3 = .ok (.aload_n 0, 1) := by decide +kernel
theorem dX3_answeredBefore_4 : decode cX3_answeredBefore 4 = .ok (.getfield 65, 3) := by decide +kernel
theorem dX3_answeredBefore_7 : decode cX3_answeredBefore 7 = .ok (.if_icmp .ge 35, 3) := by decide +kernel
theorem dX3_answeredBefore_10 : decode cX3_answeredBefore 10 = .ok (.aload_n 0, 1) := by decide +kernel
theorem dX3_answeredBefore_11 : decode cX3_answeredBefore 11 = .ok (.getfield 32, 3) := by decide +kernel
theorem dX3_answeredBefore_14 : decode cX3_answeredBefore 14 = .ok (.iload_n 3, 1) := by decide +kernel
theorem dX3_answeredBefore_15 : decode cX3_answeredBefore 15 = .ok (.laload, 1) := by decide +kernel
theorem dX3_answeredBefore_16 : decode cX3_answeredBefore 16 = .ok (.lload_n 1, 1) := by decide +kernel
theorem dX3_answeredBefore_17 : decode cX3_answeredBefore 17 = .ok (.lcmp, 1) := by decide +kernel
theorem dX3_answeredBefore_18 : decode cX3_answeredBefore 18 = .ok (.ifCond .ne 18, 3) := by decide +kernel
theorem dX3_answeredBefore_21 : decode cX3_answeredBefore 21 = .ok (.aload_n 0, 1) := by decide +kernel
theorem dX3_answeredBefore_22 : decode cX3_answeredBefore 22 = .ok (.iload_n 3, 1) := by decide +kernel
theorem dX3_answeredBefore_23 : decode cX3_answeredBefore 23 = .ok (.invokevirtual 153, 3) := by decide +kernel
theorem dX3_answeredBefore_26 : decode cX3_answeredBefore 26 = .ok (.ifCond .eq 7, 3) := by decide +kernel
theorem dX3_answeredBefore_29 : decode cX3_answeredBefore 29 = .ok (.iload_n 3, 1) := by decide +kernel
theorem dX3_answeredBefore_30 : decode cX3_answeredBefore 30 = .ok (.goto 5, 3) := by decide +kernel
theorem dX3_answeredBefore_33 : decode cX3_answeredBefore 33 = .ok (.bipush (-4), 2) := by decide +kernel
theorem dX3_answeredBefore_35 : decode cX3_answeredBefore 35 = .ok (.ireturn, 1) := by decide +kernel
theorem dX3_answeredBefore_36 : decode cX3_answeredBefore 36 = .ok (.iinc 3 1, 3) := by decide +kernel
theorem dX3_answeredBefore_39 : decode cX3_answeredBefore 39 = .ok (.goto (-37), 3) := by decide +kernel
theorem dX3_answeredBefore_42 : decode cX3_answeredBefore 42 = .ok (.iconst (-1), 1) := by decide +kernel
theorem dX3_answeredBefore_43 : decode cX3_answeredBefore 43 = .ok (.ireturn, 1) := by decide +kernel
theorem dX3_isAsDrafted_0 : decode cX3_isAsDrafted 0 = .ok (.aload_n 0, 1) := by decide +kernel
theorem dX3_isAsDrafted_1 : decode cX3_isAsDrafted 1 = .ok (.getfield 28, 3) := by decide +kernel
theorem dX3_isAsDrafted_4 : decode cX3_isAsDrafted 4 = .ok (.iload_n 1, 1) := by decide +kernel
theorem dX3_isAsDrafted_5 : decode cX3_isAsDrafted 5 = .ok (.iconst 1, 1) := by decide +kernel
theorem dX3_isAsDrafted_6 : decode cX3_isAsDrafted 6 = .ok (.iadd, 1) := by decide +kernel
theorem dX3_isAsDrafted_7 : decode cX3_isAsDrafted 7 = .ok (.iaload, 1) := by decide +kernel
theorem dX3_isAsDrafted_8 : decode cX3_isAsDrafted 8 = .ok (.aload_n 0, 1) := by decide +kernel
theorem dX3_isAsDrafted_9 : decode cX3_isAsDrafted 9 = .ok (.getfield 28, 3) := by decide +kernel
theorem dX3_isAsDrafted_12 : decode cX3_isAsDrafted 12 = .ok (.iload_n 1, 1) := by decide +kernel
theorem dX3_isAsDrafted_13 : decode cX3_isAsDrafted 13 = .ok (.iaload, 1) := by decide +kernel
theorem dX3_isAsDrafted_14 : decode cX3_isAsDrafted 14 = .ok (.isub, 1) := by decide +kernel
theorem dX3_isAsDrafted_15 : decode cX3_isAsDrafted 15 = .ok (.aload_n 0, 1) := by decide +kernel
theorem dX3_isAsDrafted_16 : decode cX3_isAsDrafted 16 = .ok (.getfield 50, 3) := by decide +kernel
theorem dX3_isAsDrafted_19 : decode cX3_isAsDrafted 19 = .ok (.getfield 156, 3) := by decide +kernel
theorem dX3_isAsDrafted_22 : decode cX3_isAsDrafted 22 = .ok (.if_icmp .eq 5, 3) := by decide +kernel
theorem dX3_isAsDrafted_25 : decode cX3_isAsDrafted 25 = .ok (.iconst 0, 1) := by decide +kernel
theorem dX3_isAsDrafted_26 : decode cX3_isAsDrafted 26 = .ok (.ireturn, 1) := by decide +kernel
theorem dX3_isAsDrafted_27 : decode cX3_isAsDrafted 27 = .ok (.iconst 0, 1) := by decide +kernel
theorem dX3_isAsDrafted_28 : decode cX3_isAsDrafted 28 = .ok (.istore_n 2, 1) := by decide +kernel
theorem dX3_isAsDrafted_29 : decode cX3_isAsDrafted 29 = .ok (.iload_n 2, 1) := by decide +kernel
theorem dX3_isAsDrafted_30 : decode cX3_isAsDrafted 30 = .ok (.aload_n 0, 1) := by decide +kernel
theorem dX3_isAsDrafted_31 : decode cX3_isAsDrafted 31 = .ok (.getfield 50, 3) := by decide +kernel
theorem dX3_isAsDrafted_34 : decode cX3_isAsDrafted 34 = .ok (.getfield 156, 3) := by decide +kernel
theorem dX3_isAsDrafted_37 : decode cX3_isAsDrafted 37 = .ok (.if_icmp .ge 36, 3) := by decide +kernel
theorem dX3_isAsDrafted_40 : decode cX3_isAsDrafted 40 = .ok (.aload_n 0, 1) := by decide +kernel
theorem dX3_isAsDrafted_41 : decode cX3_isAsDrafted 41 = .ok (.getfield 24, 3) := by decide +kernel
theorem dX3_isAsDrafted_44 : decode cX3_isAsDrafted 44 = .ok (.aload_n 0, 1) := by decide +kernel
theorem dX3_isAsDrafted_45 : decode cX3_isAsDrafted 45 = .ok (.getfield 28, 3) := by decide +kernel
theorem dX3_isAsDrafted_48 : decode cX3_isAsDrafted 48 = .ok (.iload_n 1, 1) := by decide +kernel
theorem dX3_isAsDrafted_49 : decode cX3_isAsDrafted 49 = .ok (.iaload, 1) := by decide +kernel
theorem dX3_isAsDrafted_50 : decode cX3_isAsDrafted 50 = .ok (.iload_n 2, 1) := by decide +kernel
theorem dX3_isAsDrafted_51 : decode cX3_isAsDrafted 51 = .ok (.iadd, 1) := by decide +kernel
theorem dX3_isAsDrafted_52 : decode cX3_isAsDrafted 52 = .ok (.baload, 1) := by decide +kernel
theorem dX3_isAsDrafted_53 : decode cX3_isAsDrafted 53 = .ok (.aload_n 0, 1) := by decide +kernel
theorem dX3_isAsDrafted_54 : decode cX3_isAsDrafted 54 = .ok (.getfield 50, 3) := by decide +kernel
theorem dX3_isAsDrafted_57 : decode cX3_isAsDrafted 57 = .ok (.getfield 157, 3) := by decide +kernel
theorem dX3_isAsDrafted_60 : decode cX3_isAsDrafted 60 = .ok (.iload_n 2, 1) := by decide +kernel
theorem dX3_isAsDrafted_61 : decode cX3_isAsDrafted 61 = .ok (.baload, 1) := by decide +kernel
theorem dX3_isAsDrafted_62 : decode cX3_isAsDrafted 62 = .ok (.if_icmp .eq 5, 3) := by decide +kernel
theorem dX3_isAsDrafted_65 : decode cX3_isAsDrafted 65 = .ok (.iconst 0, 1) := by decide +kernel
theorem dX3_isAsDrafted_66 : decode cX3_isAsDrafted 66 = .ok (.ireturn, 1) := by decide +kernel
theorem dX3_isAsDrafted_67 : decode cX3_isAsDrafted 67 = .ok (.iinc 2 1, 3) := by decide +kernel
theorem dX3_isAsDrafted_70 : decode cX3_isAsDrafted 70 = .ok (.goto (-41), 3) := by decide +kernel
theorem dX3_isAsDrafted_73 : decode cX3_isAsDrafted 73 = .ok (.iconst 1, 1) := by decide +kernel
theorem dX3_isAsDrafted_74 : decode cX3_isAsDrafted 74 = .ok (.ireturn, 1) := by decide +kernel
theorem dX3_areThere_0 : decode cX3_areThere 0 = .ok (.iconst 0, 1) := by decide +kernel
theorem dX3_areThere_1 : decode cX3_areThere 1 = .ok (.istore_n 2, 1) := by decide +kernel
theorem dX3_areThere_2 : decode cX3_areThere 2 = .ok (.iload_n 2, 1) := by decide +kernel
theorem dX3_areThere_3 : decode cX3_areThere 3 = .ok (.aload_n 1, 1) := by decide +kernel
theorem dX3_areThere_4 : decode cX3_areThere 4 = .ok (.getfield 92, 3) := by decide +kernel
theorem dX3_areThere_7 : decode cX3_areThere 7 = .ok (.if_icmp .ge 24, 3) := by decide +kernel
theorem dX3_areThere_10 : decode cX3_areThere 10 = .ok (.aload_n 1, 1) := by decide +kernel
theorem dX3_areThere_11 : decode cX3_areThere 11 = .ok (.getfield 99, 3) := by decide +kernel
theorem dX3_areThere_14 : decode cX3_areThere 14 = .ok (.iload_n 2, 1) := by decide +kernel
theorem dX3_areThere_15 : decode cX3_areThere 15 = .ok (.iaload, 1) := by decide +kernel
theorem dX3_areThere_16 : decode cX3_areThere 16 = .ok (.aload_n 0, 1) := by decide +kernel
theorem dX3_areThere_17 : decode cX3_areThere 17 = .ok (.getfield 61, 3) := by decide +kernel
theorem dX3_areThere_20 : decode cX3_areThere 20 = .ok (.if_icmp .lt 5, 3) := by decide +kernel
theorem dX3_areThere_23 : decode cX3_areThere 23 = .ok (.iconst 0, 1) := by decide +kernel
theorem dX3_areThere_24 : decode cX3_areThere 24 = .ok (.ireturn, 1) := by decide +kernel
theorem dX3_areThere_25 : decode cX3_areThere 25 = .ok (.iinc 2 1, 3) := by decide +kernel
theorem dX3_areThere_28 : decode cX3_areThere 28 = .ok (.goto (-26), 3) := by decide +kernel
theorem dX3_areThere_31 : decode cX3_areThere 31 = .ok (.iconst 1, 1) := by decide +kernel
theorem dX3_areThere_32 : decode cX3_areThere 32 = .ok (.ireturn, 1) := by decide +kernel
theorem dX3_weigh_0 : decode cX3_weigh 0 = .ok (.aload_n 0, 1) := by decide +kernel
theorem dX3_weigh_1 : decode cX3_weigh 1 = .ok (.getfield 15, 3) := by decide +kernel
theorem dX3_weigh_4 : decode cX3_weigh 4 = .ok (.iconst 0, 1) := by decide +kernel
theorem dX3_weigh_5 : decode cX3_weigh 5 = .ok (.aload_n 0, 1) := by decide +kernel
theorem dX3_weigh_6 : decode cX3_weigh 6 = .ok (.getfield 21, 3) := by decide +kernel
theorem dX3_weigh_9 : decode cX3_weigh 9 = .ok (.iconst 0, 1) := by decide +kernel
theorem dX3_weigh_10 : decode cX3_weigh 10 = .ok (.aload_n 0, 1) := by decide +kernel
theorem dX3_weigh_11 : decode cX3_weigh 11 = .ok (.getfield 61, 3) := by decide +kernel
theorem dX3_weigh_14 : decode cX3_weigh 14 = .ok (.invokestatic 160, 3) := by decide +kernel
theorem dX3_weigh_17 : decode cX3_weigh 17 = .ok (.iconst 0, 1) := by decide +kernel
theorem dX3_weigh_18 : decode cX3_weigh 18 = .ok (.istore 5, 2) := by decide +kernel
theorem dX3_weigh_20 : decode cX3_weigh 20 = .ok (.iload 5, 2) := by decide +kernel
theorem dX3_weigh_22 : decode cX3_weigh 22 = .ok (.aload_n 1, 1) := by decide +kernel
theorem dX3_weigh_23 : decode cX3_weigh 23 = .ok (.getfield 92, 3) := by decide +kernel
theorem dX3_weigh_26 : decode cX3_weigh 26 = .ok (.if_icmp .ge 73, 3) := by decide +kernel
theorem dX3_weigh_29 : decode cX3_weigh 29 = .ok (.aload_n 0, 1) := by decide +kernel
theorem dX3_weigh_30 : decode cX3_weigh 30 = .ok (.getfield 21, 3) := by decide +kernel
theorem dX3_weigh_33 : decode cX3_weigh 33 = .ok (.aload_n 1, 1) := by decide +kernel
theorem dX3_weigh_34 : decode cX3_weigh 34 = .ok (.getfield 99, 3) := by decide +kernel
theorem dX3_weigh_37 : decode cX3_weigh 37 = .ok (.iload 5, 2) := by decide +kernel
theorem dX3_weigh_39 : decode cX3_weigh 39 = .ok (.iaload, 1) := by decide +kernel
theorem dX3_weigh_40 : decode cX3_weigh 40 = .ok (.laload, 1) := by decide +kernel
theorem dX3_weigh_41 : decode cX3_weigh 41 = .ok (.lstore 6, 2) := by decide +kernel
theorem dX3_weigh_43 : decode cX3_weigh 43 = .ok (.lload 6, 2) := by decide +kernel
theorem dX3_weigh_45 : decode cX3_weigh 45 = .ok (.aload_n 1, 1) := by decide +kernel
theorem dX3_weigh_46 : decode cX3_weigh 46 = .ok (.getfield 102, 3) := by decide +kernel
theorem dX3_weigh_49 : decode cX3_weigh 49 = .ok (.iload 5, 2) := by decide +kernel
theorem dX3_weigh_51 : decode cX3_weigh 51 = .ok (.laload, 1) := by decide +kernel
theorem dX3_weigh_52 : decode cX3_weigh 52 = .ok (.ladd, 1) := by decide +kernel
theorem dX3_weigh_53 : decode cX3_weigh 53 = .ok (.lstore 8, 2) := by decide +kernel
theorem dX3_weigh_55 : decode cX3_weigh 55 = .ok (.lload 6, 2) := by decide +kernel
theorem dX3_weigh_57 : decode cX3_weigh 57 = .ok (.lload 8, 2) := by decide +kernel
theorem dX3_weigh_59 : decode cX3_weigh 59 = .ok (.lxor, 1) := by decide +kernel
theorem dX3_weigh_60 : decode cX3_weigh 60 = .ok (.aload_n 1, 1) := by decide +kernel
theorem dX3_weigh_61 : decode cX3_weigh 61 = .ok (.getfield 102, 3) := by decide +kernel
theorem dX3_weigh_64 : decode cX3_weigh 64 = .ok (.iload 5, 2) := by decide +kernel
theorem dX3_weigh_66 : decode cX3_weigh 66 = .ok (.laload, 1) := by decide +kernel
theorem dX3_weigh_67 : decode cX3_weigh 67 = .ok (.lload 8, 2) := by decide +kernel
theorem dX3_weigh_69 : decode cX3_weigh 69 = .ok (.lxor, 1) := by decide +kernel
theorem dX3_weigh_70 : decode cX3_weigh 70 = .ok (.land, 1) := by decide +kernel
theorem dX3_weigh_71 : decode cX3_weigh 71 = .ok (.lconst 0, 1) := by decide +kernel
theorem dX3_weigh_72 : decode cX3_weigh 72 = .ok (.lcmp, 1) := by decide +kernel
theorem dX3_weigh_73 : decode cX3_weigh 73 = .ok (.ifCond .ge 6, 3) := by decide +kernel
theorem dX3_weigh_76 : decode cX3_weigh 76 = .ok (.bipush (-5), 2) := by decide +kernel
theorem dX3_weigh_78 : decode cX3_weigh 78 = .ok (.ireturn, 1) := by decide +kernel
theorem dX3_weigh_79 : decode cX3_weigh 79 = .ok (.aload_n 0, 1) := by decide +kernel
theorem dX3_weigh_80 : decode cX3_weigh 80 = .ok (.getfield 21, 3) := by decide +kernel
theorem dX3_weigh_83 : decode cX3_weigh 83 = .ok (.aload_n 1, 1) := by decide +kernel
theorem dX3_weigh_84 : decode cX3_weigh 84 = .ok (.getfield 99, 3) := by decide +kernel
theorem dX3_weigh_87 : decode cX3_weigh 87 = .ok (.iload 5, 2) := by decide +kernel
theorem dX3_weigh_89 : decode cX3_weigh 89 = .ok (.iaload, 1) := by decide +kernel
theorem dX3_weigh_90 : decode cX3_weigh 90 = .ok (.lload 8, 2) := by decide +kernel
theorem dX3_weigh_92 : decode cX3_weigh 92 = .ok (.lastore, 1) := by decide +kernel
theorem dX3_weigh_93 : decode cX3_weigh 93 = .ok (.iinc 5 1, 3) := by decide +kernel
theorem dX3_weigh_96 : decode cX3_weigh 96 = .ok (.goto (-76), 3) := by decide +kernel
theorem dX3_weigh_99 : decode cX3_weigh 99 = .ok (.iconst 0, 1) := by decide +kernel
theorem dX3_weigh_100 : decode cX3_weigh 100 = .ok (.istore 5, 2) := by decide +kernel
theorem dX3_weigh_102 : decode cX3_weigh 102 = .ok (.iload 5, 2) := by decide +kernel
theorem dX3_weigh_104 : decode cX3_weigh 104 = .ok (.aload_n 1, 1) := by decide +kernel
theorem dX3_weigh_105 : decode cX3_weigh 105 = .ok (.getfield 92, 3) := by decide +kernel
theorem dX3_weigh_108 : decode cX3_weigh 108 = .ok (.if_icmp .ge 89, 3) := by decide +kernel
theorem dX3_weigh_111 : decode cX3_weigh 111 = .ok (.aload_n 1, 1) := by decide +kernel
theorem dX3_weigh_112 : decode cX3_weigh 112 = .ok (.getfield 99, 3) := by decide +kernel
theorem dX3_weigh_115 : decode cX3_weigh 115 = .ok (.iload 5, 2) := by decide +kernel
theorem dX3_weigh_117 : decode cX3_weigh 117 = .ok (.iaload, 1) := by decide +kernel
theorem dX3_weigh_118 : decode cX3_weigh 118 = .ok (.istore 6, 2) := by decide +kernel
theorem dX3_weigh_120 : decode cX3_weigh 120 = .ok (.iload 6, 2) := by decide +kernel
theorem dX3_weigh_122 : decode cX3_weigh 122 = .ok (.iload_n 2, 1) := by decide +kernel
theorem dX3_weigh_123 : decode cX3_weigh 123 = .ok (.if_icmp .ne 15, 3) := by decide +kernel
theorem dX3_weigh_126 : decode cX3_weigh 126 = .ok (.aload_n 0, 1) := by decide +kernel
theorem dX3_weigh_127 : decode cX3_weigh 127 = .ok (.getfield 18, 3) := by decide +kernel
theorem dX3_weigh_130 : decode cX3_weigh 130 = .ok (.iload 6, 2) := by decide +kernel
theorem dX3_weigh_132 : decode cX3_weigh 132 = .ok (.laload, 1) := by decide +kernel
theorem dX3_weigh_133 : decode cX3_weigh 133 = .ok (.lload_n 3, 1) := by decide +kernel
theorem dX3_weigh_134 : decode cX3_weigh 134 = .ok (.lsub, 1) := by decide +kernel
theorem dX3_weigh_135 : decode cX3_weigh 135 = .ok (.goto 10, 3) := by decide +kernel
theorem dX3_weigh_138 : decode cX3_weigh 138 = .ok (.aload_n 0, 1) := by decide +kernel
theorem dX3_weigh_139 : decode cX3_weigh 139 = .ok (.getfield 18, 3) := by decide +kernel
theorem dX3_weigh_142 : decode cX3_weigh 142 = .ok (.iload 6, 2) := by decide +kernel
theorem dX3_weigh_144 : decode cX3_weigh 144 = .ok (.laload, 1) := by decide +kernel
theorem dX3_weigh_145 : decode cX3_weigh 145 = .ok (.lstore 7, 2) := by decide +kernel
theorem dX3_weigh_147 : decode cX3_weigh 147 = .ok (.aload_n 0, 1) := by decide +kernel
theorem dX3_weigh_148 : decode cX3_weigh 148 = .ok (.getfield 21, 3) := by decide +kernel
theorem dX3_weigh_151 : decode cX3_weigh 151 = .ok (.iload 6, 2) := by decide +kernel
theorem dX3_weigh_153 : decode cX3_weigh 153 = .ok (.laload, 1) := by decide +kernel
theorem dX3_weigh_154 : decode cX3_weigh 154 = .ok (.aload_n 0, 1) := by decide +kernel
theorem dX3_weigh_155 : decode cX3_weigh 155 = .ok (.getfield 9, 3) := by decide +kernel
theorem dX3_weigh_158 : decode cX3_weigh 158 = .ok (.iload 6, 2) := by decide +kernel
theorem dX3_weigh_160 : decode cX3_weigh 160 = .ok (.laload, 1) := by decide +kernel
theorem dX3_weigh_161 : decode cX3_weigh 161 = .ok (.lcmp, 1) := by decide +kernel
theorem dX3_weigh_162 : decode cX3_weigh 162 = .ok (.ifCond .lt 26, 3) := by decide +kernel
theorem dX3_weigh_165 : decode cX3_weigh 165 = .ok (.aload_n 0, 1) := by decide +kernel
theorem dX3_weigh_166 : decode cX3_weigh 166 = .ok (.getfield 21, 3) := by decide +kernel
theorem dX3_weigh_169 : decode cX3_weigh 169 = .ok (.iload 6, 2) := by decide +kernel
theorem dX3_weigh_171 : decode cX3_weigh 171 = .ok (.laload, 1) := by decide +kernel
theorem dX3_weigh_172 : decode cX3_weigh 172 = .ok (.aload_n 0, 1) := by decide +kernel
theorem dX3_weigh_173 : decode cX3_weigh 173 = .ok (.getfield 9, 3) := by decide +kernel
theorem dX3_weigh_176 : decode cX3_weigh 176 = .ok (.iload 6, 2) := by decide +kernel
theorem dX3_weigh_178 : decode cX3_weigh 178 = .ok (.laload, 1) := by decide +kernel
theorem dX3_weigh_179 : decode cX3_weigh 179 = .ok (.lsub, 1) := by decide +kernel
theorem dX3_weigh_180 : decode cX3_weigh 180 = .ok (.lload 7, 2) := by decide +kernel
theorem dX3_weigh_182 : decode cX3_weigh 182 = .ok (.invokestatic 128, 3) := by decide +kernel
theorem dX3_weigh_185 : decode cX3_weigh 185 = .ok (.ifCond .eq 6, 3) := by decide +kernel
theorem dX3_weigh_188 : decode cX3_weigh 188 = .ok (.bipush (-6), 2) := by decide +kernel
theorem dX3_weigh_190 : decode cX3_weigh 190 = .ok (.ireturn, 1) := by decide +kernel
theorem dX3_weigh_191 : decode cX3_weigh 191 = .ok (.iinc 5 1, 3) := by decide +kernel
theorem dX3_weigh_194 : decode cX3_weigh 194 = .ok (.goto (-92), 3) := by decide +kernel
theorem dX3_weigh_197 : decode cX3_weigh 197 = .ok (.aload_n 0, 1) := by decide +kernel
theorem dX3_weigh_198 : decode cX3_weigh 198 = .ok (.getfield 65, 3) := by decide +kernel
theorem dX3_weigh_201 : decode cX3_weigh 201 = .ok (.sipush 200, 3) := by decide +kernel
theorem dX3_weigh_204 : decode cX3_weigh 204 = .ok (.if_icmp .lt 8, 3) := by decide +kernel
theorem dX3_weigh_207 : decode cX3_weigh 207 = .ok (.bipush (-8), 2) := by decide +kernel
theorem dX3_weigh_209 : decode cX3_weigh 209 = .ok (.goto 4, 3) := by decide +kernel
theorem dX3_weigh_212 : decode cX3_weigh 212 = .ok (.iconst 0, 1) := by decide +kernel
theorem dX3_weigh_213 : decode cX3_weigh 213 = .ok (.ireturn, 1) := by decide +kernel
theorem dX3_move_0 : decode cX3_move 0 = .ok (.aload_n 0, 1) := by decide +kernel
theorem dX3_move_1 : decode cX3_move 1 = .ok (.getfield 21, 3) := by decide +kernel
theorem dX3_move_4 : decode cX3_move 4 = .ok (.iconst 0, 1) := by decide +kernel
theorem dX3_move_5 : decode cX3_move 5 = .ok (.aload_n 0, 1) := by decide +kernel
theorem dX3_move_6 : decode cX3_move 6 = .ok (.getfield 15, 3) := by decide +kernel
theorem dX3_move_9 : decode cX3_move 9 = .ok (.iconst 0, 1) := by decide +kernel
theorem dX3_move_10 : decode cX3_move 10 = .ok (.aload_n 0, 1) := by decide +kernel
theorem dX3_move_11 : decode cX3_move 11 = .ok (.getfield 61, 3) := by decide +kernel
theorem dX3_move_14 : decode cX3_move 14 = .ok (.invokestatic 160, 3) := by decide +kernel
theorem dX3_move_17 : decode cX3_move 17 = .ok (.aload_n 0, 1) := by decide +kernel
theorem dX3_move_18 : decode cX3_move 18 = .ok (.lload_n 1, 1) := by decide +kernel
theorem dX3_move_19 : decode cX3_move 19 = .ok (.invokevirtual 88, 3) := by decide +kernel
theorem dX3_move_22 : decode cX3_move 22 = .ok (.istore 4, 2) := by decide +kernel
theorem dX3_move_24 : decode cX3_move 24 = .ok (.aload_n 0, 1) := by decide +kernel
theorem dX3_move_25 : decode cX3_move 25 = .ok (.getfield 38, 3) := by decide +kernel
theorem dX3_move_28 : decode cX3_move 28 = .ok (.iload 4, 2) := by decide +kernel
theorem dX3_move_30 : decode cX3_move 30 = .ok (.aload_n 3, 1) := by decide +kernel
theorem dX3_move_31 : decode cX3_move 31 = .ok (.getfield 92, 3) := by decide +kernel
theorem dX3_move_34 : decode cX3_move 34 = .ok (.iastore, 1) := by decide +kernel
theorem dX3_move_35 : decode cX3_move 35 = .ok (.iconst 0, 1) := by decide +kernel
theorem dX3_move_36 : decode cX3_move 36 = .ok (.istore 5, 2) := by decide +kernel
theorem dX3_move_38 : decode cX3_move 38 = .ok (.iload 5, 2) := by decide +kernel
theorem dX3_move_40 : decode cX3_move 40 = .ok (.aload_n 3, 1) := by decide +kernel
theorem dX3_move_41 : decode cX3_move 41 = .ok (.getfield 92, 3) := by decide +kernel
theorem dX3_move_44 : decode cX3_move 44 = .ok (.if_icmp .ge 49, 3) := by decide +kernel
theorem dX3_move_47 : decode cX3_move 47 = .ok (.aload_n 0, 1) := by decide +kernel
theorem dX3_move_48 : decode cX3_move 48 = .ok (.getfield 41, 3) := by decide +kernel
theorem dX3_move_51 : decode cX3_move 51 = .ok (.iload 4, 2) := by decide +kernel
theorem dX3_move_53 : decode cX3_move 53 = .ok (.bipush 8, 2) := by decide +kernel
theorem dX3_move_55 : decode cX3_move 55 = .ok (.imul, 1) := by decide +kernel
theorem dX3_move_56 : decode cX3_move 56 = .ok (.iload 5, 2) := by decide +kernel
theorem dX3_move_58 : decode cX3_move 58 = .ok (.iadd, 1) := by decide +kernel
theorem dX3_move_59 : decode cX3_move 59 = .ok (.aload_n 3, 1) := by decide +kernel
theorem dX3_move_60 : decode cX3_move 60 = .ok (.getfield 99, 3) := by decide +kernel
theorem dX3_move_63 : decode cX3_move 63 = .ok (.iload 5, 2) := by decide +kernel
theorem dX3_move_65 : decode cX3_move 65 = .ok (.iaload, 1) := by decide +kernel
theorem dX3_move_66 : decode cX3_move 66 = .ok (.iastore, 1) := by decide +kernel
theorem dX3_move_67 : decode cX3_move 67 = .ok (.aload_n 0, 1) := by decide +kernel
theorem dX3_move_68 : decode cX3_move 68 = .ok (.getfield 44, 3) := by decide +kernel
theorem dX3_move_71 : decode cX3_move 71 = .ok (.iload 4, 2) := by decide +kernel
theorem dX3_move_73 : decode cX3_move 73 = .ok (.bipush 8, 2) := by decide +kernel
theorem dX3_move_75 : decode cX3_move 75 = .ok (.imul, 1) := by decide +kernel
theorem dX3_move_76 : decode cX3_move 76 = .ok (.iload 5, 2) := by decide +kernel
theorem dX3_move_78 : decode cX3_move 78 = .ok (.iadd, 1) := by decide +kernel
theorem dX3_move_79 : decode cX3_move 79 = .ok (.aload_n 3, 1) := by decide +kernel
theorem dX3_move_80 : decode cX3_move 80 = .ok (.getfield 102, 3) := by decide +kernel
theorem dX3_move_83 : decode cX3_move 83 = .ok (.iload 5, 2) := by decide +kernel
theorem dX3_move_85 : decode cX3_move 85 = .ok (.laload, 1) := by decide +kernel
theorem dX3_move_86 : decode cX3_move 86 = .ok (.lastore, 1) := by decide +kernel
theorem dX3_move_87 : decode cX3_move 87 = .ok (.iinc 5 1, 3) := by decide +kernel
theorem dX3_move_90 : decode cX3_move 90 = .ok (.goto (-52), 3) := by decide +kernel
theorem dX3_move_93 : decode cX3_move 93 = .ok (.aload_n 0, 1) := by decide +kernel
theorem dX3_move_94 : decode cX3_move 94 = .ok (.dup, 1) := by decide +kernel
theorem dX3_move_95 : decode cX3_move 95 = .ok (.getfield 78, 3) := by decide +kernel
theorem dX3_move_98 : decode cX3_move 98 = .ok (.iconst 1, 1) := by decide +kernel
theorem dX3_move_99 : decode cX3_move 99 = .ok (.iadd, 1) := by decide +kernel
theorem dX3_move_100 : decode cX3_move 100 = .ok (.putfield 78, 3) := by decide +kernel
theorem dX3_move_103 : decode cX3_move 103 = .ok (.aload_n 0, 1) := by decide +kernel
theorem dX3_move_104 : decode cX3_move 104 = .ok (.getfield 75, 3) := by decide +kernel
theorem dX3_move_107 : decode cX3_move 107 = .ok (.ifCond .le 28, 3) := by decide +kernel
theorem dX3_move_110 : decode cX3_move 110 = .ok (.aload_n 0, 1) := by decide +kernel
theorem dX3_move_111 : decode cX3_move 111 = .ok (.getfield 78, 3) := by decide +kernel
theorem dX3_move_114 : decode cX3_move 114 = .ok (.aload_n 0, 1) := by decide +kernel
theorem dX3_move_115 : decode cX3_move 115 = .ok (.getfield 75, 3) := by decide +kernel
theorem dX3_move_118 : decode cX3_move 118 = .ok (.if_icmp .lt 17, 3) := by decide +kernel
theorem dX3_move_121 : decode cX3_move 121 = .ok (.aload_n 0, 1) := by decide +kernel
theorem dX3_move_122 : decode cX3_move 122 = .ok (.getfield 65, 3) := by decide +kernel
theorem dX3_move_125 : decode cX3_move 125 = .ok (.sipush 200, 3) := by decide +kernel
theorem dX3_move_128 : decode cX3_move 128 = .ok (.if_icmp .ge 7, 3) := by decide +kernel
theorem dX3_move_131 : decode cX3_move 131 = .ok (.aload_n 0, 1) := by decide +kernel
theorem dX3_move_132 : decode cX3_move 132 = .ok (.invokevirtual 166, 3) := by decide +kernel
theorem dX3_move_135 : decode cX3_move 135 = .ok (.iload 4, 2) := by decide +kernel
theorem dX3_move_137 : decode cX3_move 137 = .ok (.ireturn, 1) := by decide +kernel
theorem dX3_addTrial_0 : decode cX3_addTrial 0 = .ok (.lconst 0, 1) := by decide +kernel
theorem dX3_addTrial_1 : decode cX3_addTrial 1 = .ok (.lstore_n 1, 1) := by decide +kernel
theorem dX3_addTrial_2 : decode cX3_addTrial 2 = .ok (.lconst 0, 1) := by decide +kernel
theorem dX3_addTrial_3 : decode cX3_addTrial 3 = .ok (.lstore_n 3, 1) := by decide +kernel
theorem dX3_addTrial_4 : decode cX3_addTrial 4 = .ok (.iconst 0, 1) := by decide +kernel
theorem dX3_addTrial_5 : decode cX3_addTrial 5 = .ok (.istore 5, 2) := by decide +kernel
theorem dX3_addTrial_7 : decode cX3_addTrial 7 = .ok (.iload 5, 2) := by decide +kernel
theorem dX3_addTrial_9 : decode cX3_addTrial 9 = .ok (.aload_n 0, 1) := by decide +kernel
theorem dX3_addTrial_10 : decode cX3_addTrial 10 = .ok (.getfield 61, 3) := by decide +kernel
theorem dX3_addTrial_13 : decode cX3_addTrial 13 = .ok (.if_icmp .ge 53, 3) := by decide +kernel
theorem dX3_addTrial_16 : decode cX3_addTrial 16 = .ok (.aload_n 0, 1) := by decide +kernel
theorem dX3_addTrial_17 : decode cX3_addTrial 17 = .ok (.getfield 15, 3) := by decide +kernel
theorem dX3_addTrial_20 : decode cX3_addTrial 20 = .ok (.iload 5, 2) := by decide +kernel
theorem dX3_addTrial_22 : decode cX3_addTrial 22 = .ok (.laload, 1) := by decide +kernel
theorem dX3_addTrial_23 : decode cX3_addTrial 23 = .ok (.lconst 0, 1) := by decide +kernel
theorem dX3_addTrial_24 : decode cX3_addTrial 24 = .ok (.lcmp, 1) := by decide +kernel
theorem dX3_addTrial_25 : decode cX3_addTrial 25 = .ok (.ifCond .le 35, 3) := by decide +kernel
theorem dX3_addTrial_28 : decode cX3_addTrial 28 = .ok (.lload_n 3, 1) := by decide +kernel
theorem dX3_addTrial_29 : decode cX3_addTrial 29 = .ok (.aload_n 0, 1) := by decide +kernel
theorem dX3_addTrial_30 : decode cX3_addTrial 30 = .ok (.getfield 15, 3) := by decide +kernel
theorem dX3_addTrial_33 : decode cX3_addTrial 33 = .ok (.iload 5, 2) := by decide +kernel
theorem dX3_addTrial_35 : decode cX3_addTrial 35 = .ok (.laload, 1) := by decide +kernel
theorem dX3_addTrial_36 : decode cX3_addTrial 36 = .ok (.ladd, 1) := by decide +kernel
theorem dX3_addTrial_37 : decode cX3_addTrial 37 = .ok (.lstore_n 3, 1) := by decide +kernel
theorem dX3_addTrial_38 : decode cX3_addTrial 38 = .ok (.lload_n 1, 1) := by decide +kernel
theorem dX3_addTrial_39 : decode cX3_addTrial 39 = .ok (.lload_n 3, 1) := by decide +kernel
theorem dX3_addTrial_40 : decode cX3_addTrial 40 = .ok (.aload_n 0, 1) := by decide +kernel
theorem dX3_addTrial_41 : decode cX3_addTrial 41 = .ok (.getfield 15, 3) := by decide +kernel
theorem dX3_addTrial_44 : decode cX3_addTrial 44 = .ok (.iload 5, 2) := by decide +kernel
theorem dX3_addTrial_46 : decode cX3_addTrial 46 = .ok (.laload, 1) := by decide +kernel
theorem dX3_addTrial_47 : decode cX3_addTrial 47 = .ok (.invokestatic 128, 3) := by decide +kernel
theorem dX3_addTrial_50 : decode cX3_addTrial 50 = .ok (.ifCond .eq 7, 3) := by decide +kernel
theorem dX3_addTrial_53 : decode cX3_addTrial 53 = .ok (.lconst 1, 1) := by decide +kernel
theorem dX3_addTrial_54 : decode cX3_addTrial 54 = .ok (.goto 4, 3) := by decide +kernel
theorem dX3_addTrial_57 : decode cX3_addTrial 57 = .ok (.lconst 0, 1) := by decide +kernel
theorem dX3_addTrial_58 : decode cX3_addTrial 58 = .ok (.ladd, 1) := by decide +kernel
theorem dX3_addTrial_59 : decode cX3_addTrial 59 = .ok (.lstore_n 1, 1) := by decide +kernel
theorem dX3_addTrial_60 : decode cX3_addTrial 60 = .ok (.iinc 5 1, 3) := by decide +kernel
theorem dX3_addTrial_63 : decode cX3_addTrial 63 = .ok (.goto (-56), 3) := by decide +kernel
theorem dX3_addTrial_66 : decode cX3_addTrial 66 = .ok (.aload_n 0, 1) := by decide +kernel
theorem dX3_addTrial_67 : decode cX3_addTrial 67 = .ok (.getfield 50, 3) := by decide +kernel
theorem dX3_addTrial_70 : decode cX3_addTrial 70 = .ok (.bipush 7, 2) := by decide +kernel
theorem dX3_addTrial_72 : decode cX3_addTrial 72 = .ok (.invokevirtual 81, 3) := by decide +kernel
theorem dX3_addTrial_75 : decode cX3_addTrial 75 = .ok (.aload_n 0, 1) := by decide +kernel
theorem dX3_addTrial_76 : decode cX3_addTrial 76 = .ok (.getfield 50, 3) := by decide +kernel
theorem dX3_addTrial_79 : decode cX3_addTrial 79 = .ok (.aload_n 0, 1) := by decide +kernel
theorem dX3_addTrial_80 : decode cX3_addTrial 80 = .ok (.getfield 61, 3) := by decide +kernel
theorem dX3_addTrial_83 : decode cX3_addTrial 83 = .ok (.i2l, 1) := by decide +kernel
theorem dX3_addTrial_84 : decode cX3_addTrial 84 = .ok (.iconst 1, 1) := by decide +kernel
theorem dX3_addTrial_85 : decode cX3_addTrial 85 = .ok (.invokevirtual 84, 3) := by decide +kernel
theorem dX3_addTrial_88 : decode cX3_addTrial 88 = .ok (.aload_n 0, 1) := by decide +kernel
theorem dX3_addTrial_89 : decode cX3_addTrial 89 = .ok (.getfield 50, 3) := by decide +kernel
theorem dX3_addTrial_92 : decode cX3_addTrial 92 = .ok (.lload_n 1, 1) := by decide +kernel
theorem dX3_addTrial_93 : decode cX3_addTrial 93 = .ok (.bipush 8, 2) := by decide +kernel
theorem dX3_addTrial_95 : decode cX3_addTrial 95 = .ok (.invokevirtual 84, 3) := by decide +kernel
theorem dX3_addTrial_98 : decode cX3_addTrial 98 = .ok (.aload_n 0, 1) := by decide +kernel
theorem dX3_addTrial_99 : decode cX3_addTrial 99 = .ok (.getfield 50, 3) := by decide +kernel
theorem dX3_addTrial_102 : decode cX3_addTrial 102 = .ok (.lload_n 3, 1) := by decide +kernel
theorem dX3_addTrial_103 : decode cX3_addTrial 103 = .ok (.bipush 8, 2) := by decide +kernel
theorem dX3_addTrial_105 : decode cX3_addTrial 105 = .ok (.invokevirtual 84, 3) := by decide +kernel
theorem dX3_addTrial_108 : decode cX3_addTrial 108 = .ok (.aload_n 0, 1) := by decide +kernel
theorem dX3_addTrial_109 : decode cX3_addTrial 109 = .ok (.lconst 0, 1) := by decide +kernel
theorem dX3_addTrial_110 : decode cX3_addTrial 110 = .ok (.invokevirtual 88, 3) := by decide +kernel
theorem dX3_addTrial_113 : decode cX3_addTrial 113 = .ok (.pop, 1) := by decide +kernel
theorem dX3_addTrial_114 : decode cX3_addTrial 114 = .ok (.aload_n 0, 1) := by decide +kernel
theorem dX3_addTrial_115 : decode cX3_addTrial 115 = .ok (.iconst 0, 1) := by decide +kernel
theorem dX3_addTrial_116 : decode cX3_addTrial 116 = .ok (.putfield 78, 3) := by decide +kernel
theorem dX3_addTrial_119 : decode cX3_addTrial 119 = .ok (.return_, 1) := by decide +kernel
theorem dX3_isHoldThere_0 : decode cX3_isHoldThere 0 = .ok (.iload_n 1, 1) := by decide +kernel
theorem dX3_isHoldThere_1 : decode cX3_isHoldThere 1 = .ok (.aload_n 0, 1) := by decide +kernel
theorem dX3_isHoldThere_2 : decode cX3_isHoldThere 2 = .ok (.getfield 65, 3) := by decide +kernel
theorem dX3_isHoldThere_5 : decode cX3_isHoldThere 5 = .ok (.if_icmp .ge 26, 3) := by decide +kernel
theorem dX3_isHoldThere_8 : decode cX3_isHoldThere 8 = .ok (.aload_n 0, 1) := by decide +kernel
theorem dX3_isHoldThere_9 : decode cX3_isHoldThere 9 = .ok (.iload_n 1, 1) := by decide +kernel
theorem dX3_isHoldThere_10 : decode cX3_isHoldThere 10 = .ok (.invokevirtual 169, 3) := by decide +kernel
theorem dX3_isHoldThere_13 : decode cX3_isHoldThere 13 = .ok (.iconst 3, 1) := by decide +kernel
theorem dX3_isHoldThere_14 : decode cX3_isHoldThere 14 = .ok (.if_icmp .ne 17, 3) := by decide +kernel
theorem dX3_isHoldThere_17 : decode cX3_isHoldThere 17 = .ok (.aload_n 0, 1) := by decide +kernel
theorem dX3_isHoldThere_18 : decode cX3_isHoldThere 18 = .ok (.getfield 35, 3) := by decide +kernel
theorem dX3_isHoldThere_21 : decode cX3_isHoldThere 21 = .ok (.iload_n 1, 1) := by decide +kernel
theorem dX3_isHoldThere_22 : decode cX3_isHoldThere 22 = .ok (.iaload, 1) := by decide +kernel
theorem dX3_isHoldThere_23 : decode cX3_isHoldThere 23 = .ok (.iconst (-1), 1) := by decide +kernel
theorem dX3_isHoldThere_24 : decode cX3_isHoldThere 24 = .ok (.if_icmp .ne 7, 3) := by decide +kernel
theorem dX3_isHoldThere_27 : decode cX3_isHoldThere 27 = .ok (.iconst 1, 1) := by decide +kernel
theorem dX3_isHoldThere_28 : decode cX3_isHoldThere 28 = .ok (.goto 4, 3) := by decide +kernel
theorem dX3_isHoldThere_31 : decode cX3_isHoldThere 31 = .ok (.iconst 0, 1) := by decide +kernel
theorem dX3_isHoldThere_32 : decode cX3_isHoldThere 32 = .ok (.ireturn, 1) := by decide +kernel
theorem dX3_accountHeld_0 : decode cX3_accountHeld 0 = .ok (.aload_n 0, 1) := by decide +kernel
theorem dX3_accountHeld_1 : decode cX3_accountHeld 1 = .ok (.getfield 24, 3) := by decide +kernel
theorem dX3_accountHeld_4 : decode cX3_accountHeld 4 = .ok (.aload_n 0, 1) := by decide +kernel
theorem dX3_accountHeld_5 : decode cX3_accountHeld 5 = .ok (.getfield 28, 3) := by decide +kernel
theorem dX3_accountHeld_8 : decode cX3_accountHeld 8 = .ok (.iload_n 1, 1) := by decide +kernel
theorem dX3_accountHeld_9 : decode cX3_accountHeld 9 = .ok (.iaload, 1) := by decide +kernel
theorem dX3_accountHeld_10 : decode cX3_accountHeld 10 = .ok (.bipush 9, 2) := by decide +kernel
theorem dX3_accountHeld_12 : decode cX3_accountHeld 12 = .ok (.iadd, 1) := by decide +kernel
theorem dX3_accountHeld_13 : decode cX3_accountHeld 13 = .ok (.baload, 1) := by decide +kernel
theorem dX3_accountHeld_14 : decode cX3_accountHeld 14 = .ok (.sipush 255, 3) := by decide +kernel
theorem dX3_accountHeld_17 : decode cX3_accountHeld 17 = .ok (.iand, 1) := by decide +kernel
theorem dX3_accountHeld_18 : decode cX3_accountHeld 18 = .ok (.ireturn, 1) := by decide +kernel
theorem dX3_amountHeld_0 : decode cX3_amountHeld 0 = .ok (.lconst 0, 1) := by decide +kernel
theorem dX3_amountHeld_1 : decode cX3_amountHeld 1 = .ok (.lstore_n 2, 1) := by decide +kernel
theorem dX3_amountHeld_2 : decode cX3_amountHeld 2 = .ok (.bipush 10, 2) := by decide +kernel
theorem dX3_amountHeld_4 : decode cX3_amountHeld 4 = .ok (.istore 4, 2) := by decide +kernel
theorem dX3_amountHeld_6 : decode cX3_amountHeld 6 = .ok (.iload 4, 2) := by decide +kernel
theorem dX3_amountHeld_8 : decode cX3_amountHeld 8 = .ok (.bipush 18, 2) := by decide +kernel
theorem dX3_amountHeld_10 : decode cX3_amountHeld 10 = .ok (.if_icmp .ge 34, 3) := by decide +kernel
theorem dX3_amountHeld_13 : decode cX3_amountHeld 13 = .ok (.lload_n 2, 1) := by decide +kernel
theorem dX3_amountHeld_14 : decode cX3_amountHeld 14 = .ok (.bipush 8, 2) := by decide +kernel
theorem dX3_amountHeld_16 : decode cX3_amountHeld 16 = .ok (.lshl, 1) := by decide +kernel
theorem dX3_amountHeld_17 : decode cX3_amountHeld 17 = .ok (.aload_n 0, 1) := by decide +kernel
theorem dX3_amountHeld_18 : decode cX3_amountHeld 18 = .ok (.getfield 24, 3) := by decide +kernel
theorem dX3_amountHeld_21 : decode cX3_amountHeld 21 = .ok (.aload_n 0, 1) := by decide +kernel
theorem dX3_amountHeld_22 : decode cX3_amountHeld 22 = .ok (.getfield 28, 3) := by decide +kernel
theorem dX3_amountHeld_25 : decode cX3_amountHeld 25 = .ok (.iload_n 1, 1) := by decide +kernel
theorem dX3_amountHeld_26 : decode cX3_amountHeld 26 = .ok (.iaload, 1) := by decide +kernel
theorem dX3_amountHeld_27 : decode cX3_amountHeld 27 = .ok (.iload 4, 2) := by decide +kernel
theorem dX3_amountHeld_29 : decode cX3_amountHeld 29 = .ok (.iadd, 1) := by decide +kernel
theorem dX3_amountHeld_30 : decode cX3_amountHeld 30 = .ok (.baload, 1) := by decide +kernel
theorem dX3_amountHeld_31 : decode cX3_amountHeld 31 = .ok (.sipush 255, 3) := by decide +kernel
theorem dX3_amountHeld_34 : decode cX3_amountHeld 34 = .ok (.iand, 1) := by decide +kernel
theorem dX3_amountHeld_35 : decode cX3_amountHeld 35 = .ok (.i2l, 1) := by decide +kernel
theorem dX3_amountHeld_36 : decode cX3_amountHeld 36 = .ok (.lor, 1) := by decide +kernel
theorem dX3_amountHeld_37 : decode cX3_amountHeld 37 = .ok (.lstore_n 2, 1) := by decide +kernel
theorem dX3_amountHeld_38 : decode cX3_amountHeld 38 = .ok (.iinc 4 1, 3) := by decide +kernel
theorem dX3_amountHeld_41 : decode cX3_amountHeld 41 = .ok (.goto (-35), 3) := by decide +kernel
theorem dX3_amountHeld_44 : decode cX3_amountHeld 44 = .ok (.lload_n 2, 1) := by decide +kernel
theorem dX3_amountHeld_45 : decode cX3_amountHeld 45 = .ok (.lreturn, 1) := by decide +kernel
theorem dX3_endHold_0 : decode cX3_endHold 0 = .ok (.aload_n 0, 1) := by decide +kernel
theorem dX3_endHold_1 : decode cX3_endHold 1 = .ok (.getfield 18, 3) := by decide +kernel
theorem dX3_endHold_4 : decode cX3_endHold 4 = .ok (.aload_n 0, 1) := by decide +kernel
theorem dX3_endHold_5 : decode cX3_endHold 5 = .ok (.iload_n 1, 1) := by decide +kernel
theorem dX3_endHold_6 : decode cX3_endHold 6 = .ok (.invokevirtual 146, 3) := by decide +kernel
theorem dX3_endHold_9 : decode cX3_endHold 9 = .ok (.dup2, 1) := by decide +kernel
theorem dX3_endHold_10 : decode cX3_endHold 10 = .ok (.laload, 1) := by decide +kernel
theorem dX3_endHold_11 : decode cX3_endHold 11 = .ok (.aload_n 0, 1) := by decide +kernel
theorem dX3_endHold_12 : decode cX3_endHold 12 = .ok (.iload_n 1, 1) := by decide +kernel
theorem dX3_endHold_13 : decode cX3_endHold 13 = .ok (.invokevirtual 142, 3) := by decide +kernel
theorem dX3_endHold_16 : decode cX3_endHold 16 = .ok (.lsub, 1) := by decide +kernel
theorem dX3_endHold_17 : decode cX3_endHold 17 = .ok (.lastore, 1) := by decide +kernel
theorem dX3_endHold_18 : decode cX3_endHold 18 = .ok (.aload_n 0, 1) := by decide +kernel
theorem dX3_endHold_19 : decode cX3_endHold 19 = .ok (.dup, 1) := by decide +kernel
theorem dX3_endHold_20 : decode cX3_endHold 20 = .ok (.getfield 68, 3) := by decide +kernel
theorem dX3_endHold_23 : decode cX3_endHold 23 = .ok (.iconst 1, 1) := by decide +kernel
theorem dX3_endHold_24 : decode cX3_endHold 24 = .ok (.isub, 1) := by decide +kernel
theorem dX3_endHold_25 : decode cX3_endHold 25 = .ok (.putfield 68, 3) := by decide +kernel
theorem dX3_endHold_28 : decode cX3_endHold 28 = .ok (.aload_n 0, 1) := by decide +kernel
theorem dX3_endHold_29 : decode cX3_endHold 29 = .ok (.getfield 35, 3) := by decide +kernel
theorem dX3_endHold_32 : decode cX3_endHold 32 = .ok (.iload_n 1, 1) := by decide +kernel
theorem dX3_endHold_33 : decode cX3_endHold 33 = .ok (.iload_n 2, 1) := by decide +kernel
theorem dX3_endHold_34 : decode cX3_endHold 34 = .ok (.iastore, 1) := by decide +kernel
theorem dX3_endHold_35 : decode cX3_endHold 35 = .ok (.return_, 1) := by decide +kernel
theorem dX3_append_0 : decode cX3_append 0 = .ok (.aload_n 0, 1) := by decide +kernel
theorem dX3_append_1 : decode cX3_append 1 = .ok (.getfield 65, 3) := by decide +kernel
theorem dX3_append_4 : decode cX3_append 4 = .ok (.istore_n 3, 1) := by decide +kernel
theorem dX3_append_5 : decode cX3_append 5 = .ok (.aload_n 0, 1) := by decide +kernel
theorem dX3_append_6 : decode cX3_append 6 = .ok (.getfield 50, 3) := by decide +kernel
theorem dX3_append_9 : decode cX3_append 9 = .ok (.getfield 157, 3) := by decide +kernel
theorem dX3_append_12 : decode cX3_append 12 = .ok (.iconst 0, 1) := by decide +kernel
theorem dX3_append_13 : decode cX3_append 13 = .ok (.aload_n 0, 1) := by decide +kernel
theorem dX3_append_14 : decode cX3_append 14 = .ok (.getfield 24, 3) := by decide +kernel
theorem dX3_append_17 : decode cX3_append 17 = .ok (.aload_n 0, 1) := by decide +kernel
theorem dX3_append_18 : decode cX3_append 18 = .ok (.getfield 28, 3) := by decide +kernel
theorem dX3_append_21 : decode cX3_append 21 = .ok (.iload_n 3, 1) := by decide +kernel
theorem dX3_append_22 : decode cX3_append 22 = .ok (.iaload, 1) := by decide +kernel
theorem dX3_append_23 : decode cX3_append 23 = .ok (.aload_n 0, 1) := by decide +kernel
theorem dX3_append_24 : decode cX3_append 24 = .ok (.getfield 50, 3) := by decide +kernel
theorem dX3_append_27 : decode cX3_append 27 = .ok (.getfield 156, 3) := by decide +kernel
theorem dX3_append_30 : decode cX3_append 30 = .ok (.invokestatic 160, 3) := by decide +kernel
theorem dX3_append_33 : decode cX3_append 33 = .ok (.aload_n 0, 1) := by decide +kernel
theorem dX3_append_34 : decode cX3_append 34 = .ok (.getfield 28, 3) := by decide +kernel
theorem dX3_append_37 : decode cX3_append 37 = .ok (.iload_n 3, 1) := by decide +kernel
theorem dX3_append_38 : decode cX3_append 38 = .ok (.iconst 1, 1) := by decide +kernel
theorem dX3_append_39 : decode cX3_append 39 = .ok (.iadd, 1) := by decide +kernel
theorem dX3_append_40 : decode cX3_append 40 = .ok (.aload_n 0, 1) := by decide +kernel
theorem dX3_append_41 : decode cX3_append 41 = .ok (.getfield 28, 3) := by decide +kernel
theorem dX3_append_44 : decode cX3_append 44 = .ok (.iload_n 3, 1) := by decide +kernel
theorem dX3_append_45 : decode cX3_append 45 = .ok (.iaload, 1) := by decide +kernel
theorem dX3_append_46 : decode cX3_append 46 = .ok (.aload_n 0, 1) := by decide +kernel
theorem dX3_append_47 : decode cX3_append 47 = .ok (.getfield 50, 3) := by decide +kernel
theorem dX3_append_50 : decode cX3_append 50 = .ok (.getfield 156, 3) := by decide +kernel
theorem dX3_append_53 : decode cX3_append 53 = .ok (.iadd, 1) := by decide +kernel
theorem dX3_append_54 : decode cX3_append 54 = .ok (.iastore, 1) := by decide +kernel
theorem dX3_append_55 : decode cX3_append 55 = .ok (.aload_n 0, 1) := by decide +kernel
theorem dX3_append_56 : decode cX3_append 56 = .ok (.getfield 32, 3) := by decide +kernel
theorem dX3_append_59 : decode cX3_append 59 = .ok (.iload_n 3, 1) := by decide +kernel
theorem dX3_append_60 : decode cX3_append 60 = .ok (.lload_n 1, 1) := by decide +kernel
theorem dX3_append_61 : decode cX3_append 61 = .ok (.lastore, 1) := by decide +kernel
theorem dX3_append_62 : decode cX3_append 62 = .ok (.aload_n 0, 1) := by decide +kernel
theorem dX3_append_63 : decode cX3_append 63 = .ok (.getfield 35, 3) := by decide +kernel
theorem dX3_append_66 : decode cX3_append 66 = .ok (.iload_n 3, 1) := by decide +kernel
theorem dX3_append_67 : decode cX3_append 67 = .ok (.iconst (-1), 1) := by decide +kernel
theorem dX3_append_68 : decode cX3_append 68 = .ok (.iastore, 1) := by decide +kernel
theorem dX3_append_69 : decode cX3_append 69 = .ok (.aload_n 0, 1) := by decide +kernel
theorem dX3_append_70 : decode cX3_append 70 = .ok (.getfield 38, 3) := by decide +kernel
theorem dX3_append_73 : decode cX3_append 73 = .ok (.iload_n 3, 1) := by decide +kernel
theorem dX3_append_74 : decode cX3_append 74 = .ok (.iconst 0, 1) := by decide +kernel
theorem dX3_append_75 : decode cX3_append 75 = .ok (.iastore, 1) := by decide +kernel
theorem dX3_append_76 : decode cX3_append 76 = .ok (.aload_n 0, 1) := by decide +kernel
theorem dX3_append_77 : decode cX3_append 77 = .ok (.dup, 1) := by decide +kernel
theorem dX3_append_78 : decode cX3_append 78 = .ok (.getfield 65, 3) := by decide +kernel
theorem dX3_append_81 : decode cX3_append 81 = .ok (.iconst 1, 1) := by decide +kernel
theorem dX3_append_82 : decode cX3_append 82 = .ok (.iadd, 1) := by decide +kernel
theorem dX3_append_83 : decode cX3_append 83 = .ok (.putfield 65, 3) := by decide +kernel
theorem dX3_append_86 : decode cX3_append 86 = .ok (.iload_n 3, 1) := by decide +kernel
theorem dX3_append_87 : decode cX3_append 87 = .ok (.ireturn, 1) := by decide +kernel
theorem dX4_init_0 : decode cX4_init 0 = .ok (.aload_n 0, 1) := by decide +kernel
theorem dX4_init_1 : decode cX4_init 1 = .ok (.invokespecial 3, 3) := by decide +kernel
theorem dX4_init_4 : decode cX4_init 4 = .ok (.aload_n 0, 1) := by decide +kernel
theorem dX4_init_5 : decode cX4_init 5 = .ok (.bipush 8, 2) := by decide +kernel
theorem dX4_init_7 : decode cX4_init 7 = .ok (.newarray .int, 2) := by decide +kernel
theorem dX4_init_9 : decode cX4_init 9 = .ok (.putfield 9, 3) := by decide +kernel
theorem dX4_init_12 : decode cX4_init 12 = .ok (.aload_n 0, 1) := by decide +kernel
theorem dX4_init_13 : decode cX4_init 13 = .ok (.bipush 8, 2) := by decide +kernel
theorem dX4_init_15 : decode cX4_init 15 = .ok (.newarray .long, 2) := by decide +kernel
theorem dX4_init_17 : decode cX4_init 17 = .ok (.putfield 15, 3) := by decide +kernel
theorem dX4_init_20 : decode cX4_init 20 = .ok (.return_, 1) := by decide +kernel
theorem dX4_add_0 : decode cX4_add 0 = .ok (.aload_n 0, 1) := by decide +kernel
theorem dX4_add_1 : decode cX4_add 1 = .ok (.getfield 19, 3) := by decide +kernel
theorem dX4_add_4 : decode cX4_add 4 = .ok (.bipush 8, 2) := by decide +kernel
theorem dX4_add_6 : decode cX4_add 6 = .ok (.if_icmp .ge 24, 3) := by decide +kernel
theorem dX4_add_9 : decode cX4_add 9 = .ok (.iload_n 1, 1) := by decide +kernel
theorem dX4_add_10 : decode cX4_add 10 = .ok (.invokestatic 23, 3) := by decide +kernel
theorem dX4_add_13 : decode cX4_add 13 = .ok (.ifCond .eq 17, 3) := by decide +kernel
theorem dX4_add_16 : decode cX4_add 16 = .ok (.lload_n 2, 1) := by decide +kernel
theorem dX4_add_17 : decode cX4_add 17 = .ok (.lconst 0, 1) := by decide +kernel
theorem dX4_add_18 : decode cX4_add 18 = .ok (.lcmp, 1) := by decide +kernel
theorem dX4_add_19 : decode cX4_add 19 = .ok (.ifCond .eq 11, 3) := by decide +kernel
theorem dX4_add_22 : decode cX4_add 22 = .ok (.lload_n 2, 1) := by decide +kernel
theorem dX4_add_23 : decode cX4_add 23 = .ok (.ldc2_w 27, 3) := by decide +kernel
theorem dX4_add_26 : decode cX4_add 26 = .ok (.lcmp, 1) := by decide +kernel
theorem dX4_add_27 : decode cX4_add 27 = .ok (.ifCond .ne 5, 3) := by decide +kernel
theorem dX4_add_30 : decode cX4_add 30 = .ok (.iconst 0, 1) := by decide +kernel
theorem dX4_add_31 : decode cX4_add 31 = .ok (.ireturn, 1) := by decide +kernel
theorem dX4_add_32 : decode cX4_add 32 = .ok (.aload_n 0, 1) := by decide +kernel
theorem dX4_add_33 : decode cX4_add 33 = .ok (.getfield 9, 3) := by decide +kernel
theorem dX4_add_36 : decode cX4_add 36 = .ok (.aload_n 0, 1) := by decide +kernel
theorem dX4_add_37 : decode cX4_add 37 = .ok (.getfield 19, 3) := by decide +kernel
theorem dX4_add_40 : decode cX4_add 40 = .ok (.iload_n 1, 1) := by decide +kernel
theorem dX4_add_41 : decode cX4_add 41 = .ok (.iastore, 1) := by decide +kernel
theorem dX4_add_42 : decode cX4_add 42 = .ok (.aload_n 0, 1) := by decide +kernel
theorem dX4_add_43 : decode cX4_add 43 = .ok (.getfield 15, 3) := by decide +kernel
theorem dX4_add_46 : decode cX4_add 46 = .ok (.aload_n 0, 1) := by decide +kernel
theorem dX4_add_47 : decode cX4_add 47 = .ok (.getfield 19, 3) := by decide +kernel
theorem dX4_add_50 : decode cX4_add 50 = .ok (.lload_n 2, 1) := by decide +kernel
theorem dX4_add_51 : decode cX4_add 51 = .ok (.lastore, 1) := by decide +kernel
theorem dX4_add_52 : decode cX4_add 52 = .ok (.aload_n 0, 1) := by decide +kernel
theorem dX4_add_53 : decode cX4_add 53 = .ok (.dup, 1) := by decide +kernel
theorem dX4_add_54 : decode cX4_add 54 = .ok (.getfield 19, 3) := by decide +kernel
theorem dX4_add_57 : decode cX4_add 57 = .ok (.iconst 1, 1) := by decide +kernel
theorem dX4_add_58 : decode cX4_add 58 = .ok (.iadd, 1) := by decide +kernel
theorem dX4_add_59 : decode cX4_add 59 = .ok (.putfield 19, 3) := by decide +kernel
theorem dX4_add_62 : decode cX4_add 62 = .ok (.iconst 1, 1) := by decide +kernel
theorem dX4_add_63 : decode cX4_add 63 = .ok (.ireturn, 1) := by decide +kernel
theorem dX4_comeToNothing_0 : decode cX4_comeToNothing 0 = .ok (.lconst 0, 1) := by decide +kernel
theorem dX4_comeToNothing_1 : decode cX4_comeToNothing 1 = .ok (.lstore_n 1, 1) := by decide +kernel
theorem dX4_comeToNothing_2 : decode cX4_comeToNothing 2 = .ok (.lconst 0, 1) := by decide +kernel
theorem dX4_comeToNothing_3 : decode cX4_comeToNothing 3 = .ok (.lstore_n 3, 1) := by decide +kernel
theorem dX4_comeToNothing_4 : decode cX4_comeToNothing 4 = .ok (.iconst 0, 1) := by decide +kernel
theorem dX4_comeToNothing_5 : decode cX4_comeToNothing 5 = .ok (.istore 5, 2) := by decide +kernel
theorem dX4_comeToNothing_7 : decode cX4_comeToNothing 7 = .ok (.iload 5, 2) := by decide +kernel
theorem dX4_comeToNothing_9 : decode cX4_comeToNothing 9 = .ok (.aload_n 0, 1) := by decide +kernel
theorem dX4_comeToNothing_10 : decode cX4_comeToNothing 10 = .ok (.getfield 19, 3) := by decide +kernel
theorem dX4_comeToNothing_13 : decode cX4_comeToNothing 13 = .ok (.if_icmp .ge 36, 3) := by decide +kernel
theorem dX4_comeToNothing_16 : decode cX4_comeToNothing 16 = .ok (.lload_n 1, 1) := by decide +kernel
theorem dX4_comeToNothing_17 : decode cX4_comeToNothing 17 = .ok (.aload_n 0, 1) := by decide +kernel
theorem dX4_comeToNothing_18 : decode cX4_comeToNothing 18 = .ok (.getfield 15, 3) := by decide +kernel
theorem dX4_comeToNothing_21 : decode cX4_comeToNothing 21 = .ok (.iload 5, 2) := by decide +kernel
theorem dX4_comeToNothing_23 : decode cX4_comeToNothing 23 = .ok (.laload, 1) := by decide +kernel
theorem dX4_comeToNothing_24 : decode cX4_comeToNothing 24 = .ok (.bipush 32, 2) := by decide +kernel
theorem dX4_comeToNothing_26 : decode cX4_comeToNothing 26 = .ok (.lshr, 1) := by decide +kernel
theorem dX4_comeToNothing_27 : decode cX4_comeToNothing 27 = .ok (.ladd, 1) := by decide +kernel
theorem dX4_comeToNothing_28 : decode cX4_comeToNothing 28 = .ok (.lstore_n 1, 1) := by decide +kernel
theorem dX4_comeToNothing_29 : decode cX4_comeToNothing 29 = .ok (.lload_n 3, 1) := by decide +kernel
theorem dX4_comeToNothing_30 : decode cX4_comeToNothing 30 = .ok (.aload_n 0, 1) := by decide +kernel
theorem dX4_comeToNothing_31 : decode cX4_comeToNothing 31 = .ok (.getfield 15, 3) := by decide +kernel
theorem dX4_comeToNothing_34 : decode cX4_comeToNothing 34 = .ok (.iload 5, 2) := by decide +kernel
theorem dX4_comeToNothing_36 : decode cX4_comeToNothing 36 = .ok (.laload, 1) := by decide +kernel
theorem dX4_comeToNothing_37 : decode cX4_comeToNothing 37 = .ok (.ldc2_w 29, 3) := by decide +kernel
theorem dX4_comeToNothing_40 : decode cX4_comeToNothing 40 = .ok (.land, 1) := by decide +kernel
theorem dX4_comeToNothing_41 : decode cX4_comeToNothing 41 = .ok (.ladd, 1) := by decide +kernel
theorem dX4_comeToNothing_42 : decode cX4_comeToNothing 42 = .ok (.lstore_n 3, 1) := by decide +kernel
theorem dX4_comeToNothing_43 : decode cX4_comeToNothing 43 = .ok (.iinc 5 1, 3) := by decide +kernel
theorem dX4_comeToNothing_46 : decode cX4_comeToNothing 46 = .ok (.goto (-39), 3) := by decide +kernel
theorem dX4_comeToNothing_49 : decode cX4_comeToNothing 49 = .ok (.lload_n 3, 1) := by decide +kernel
theorem dX4_comeToNothing_50 : decode cX4_comeToNothing 50 = .ok (.ldc2_w 29, 3) := by decide +kernel
theorem dX4_comeToNothing_53 : decode cX4_comeToNothing 53 = .ok (.land, 1) := by decide +kernel
theorem dX4_comeToNothing_54 : decode cX4_comeToNothing 54 = .ok (.lconst 0, 1) := by decide +kernel
theorem dX4_comeToNothing_55 : decode cX4_comeToNothing 55 = .ok (.lcmp, 1) := by decide +kernel
theorem dX4_comeToNothing_56 : decode cX4_comeToNothing 56 = .ok (.ifCond .ne 18, 3) := by decide +kernel
theorem dX4_comeToNothing_59 : decode cX4_comeToNothing 59 = .ok (.lload_n 1, 1) := by decide +kernel
theorem dX4_comeToNothing_60 : decode cX4_comeToNothing 60 = .ok (.lload_n 3, 1) := by decide +kernel
theorem dX4_comeToNothing_61 : decode cX4_comeToNothing 61 = .ok (.bipush 32, 2) := by decide +kernel
theorem dX4_comeToNothing_63 : decode cX4_comeToNothing 63 = .ok (.lshr, 1) := by decide +kernel
theorem dX4_comeToNothing_64 : decode cX4_comeToNothing 64 = .ok (.ladd, 1) := by decide +kernel
theorem dX4_comeToNothing_65 : decode cX4_comeToNothing 65 = .ok (.lconst 0, 1) := by decide +kernel
theorem dX4_comeToNothing_66 : decode cX4_comeToNothing 66 = .ok (.lcmp, 1) := by decide +kernel
theorem dX4_comeToNothing_67 : decode cX4_comeToNothing 67 = .ok (.ifCond .ne 7, 3) := by decide +kernel
theorem dX4_comeToNothing_70 : decode cX4_comeToNothing 70 = .ok (.iconst 1, 1) := by decide +kernel
theorem dX4_comeToNothing_71 : decode cX4_comeToNothing 71 = .ok (.goto 4, 3) := by decide +kernel
theorem dX4_comeToNothing_74 : decode cX4_comeToNothing 74 = .ok (.iconst 0, 1) := by decide +kernel
theorem dX4_comeToNothing_75 : decode cX4_comeToNothing 75 = .ok (.ireturn, 1) := by decide +kernel
theorem dX5_init_0 : decode cX5_init 0 = .ok (.aload_n 0, 1) := by decide +kernel
theorem dX5_init_1 : decode cX5_init 1 = .ok (.invokespecial 3, 3) := by decide +kernel
theorem dX5_init_4 : decode cX5_init 4 = .ok (.aload_n 0, 1) := by decide +kernel
theorem dX5_init_5 : decode cX5_init 5 = .ok (.sipush 16400, 3) := by decide +kernel
theorem dX5_init_8 : decode cX5_init 8 = .ok (.newarray .byte, 2) := by decide +kernel
theorem dX5_init_10 : decode cX5_init 10 = .ok (.putfield 9, 3) := by decide +kernel
theorem dX5_init_13 : decode cX5_init 13 = .ok (.aload_n 0, 1) := by decide +kernel
theorem dX5_init_14 : decode cX5_init 14 = .ok (.sipush 201, 3) := by decide +kernel
theorem dX5_init_17 : decode cX5_init 17 = .ok (.newarray .int, 2) := by decide +kernel
theorem dX5_init_19 : decode cX5_init 19 = .ok (.putfield 15, 3) := by decide +kernel
theorem dX5_init_22 : decode cX5_init 22 = .ok (.aload_n 0, 1) := by decide +kernel
theorem dX5_init_23 : decode cX5_init 23 = .ok (.new 19, 3) := by decide +kernel
theorem dX5_init_26 : decode cX5_init 26 = .ok (.dup, 1) := by decide +kernel
theorem dX5_init_27 : decode cX5_init 27 = .ok (.invokespecial 21, 3) := by decide +kernel
theorem dX5_init_30 : decode cX5_init 30 = .ok (.putfield 22, 3) := by decide +kernel
theorem dX5_init_33 : decode cX5_init 33 = .ok (.aload_n 0, 1) := by decide +kernel
theorem dX5_init_34 : decode cX5_init 34 = .ok (.sipush 201, 3) := by decide +kernel
theorem dX5_init_37 : decode cX5_init 37 = .ok (.bipush 8, 2) := by decide +kernel
theorem dX5_init_39 : decode cX5_init 39 = .ok (.multianewarray 26 2, 4) := by decide +kernel
theorem dX5_init_43 : decode cX5_init 43 = .ok (.putfield 28, 3) := by decide +kernel
