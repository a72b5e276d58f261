theorem dX9_isBelow_46 : decode cX9_isBelow 46 = .ok (.bipush 32, 2) := by decide +kernel
theorem dX9_isBelow_48 : decode cX9_isBelow 48 = .ok (.lshr, 1) := by decide +kernel
theorem dX9_isBelow_49 : decode cX9_isBelow 49 = .ok (.ladd, 1) := by decide +kernel
theorem dX9_isBelow_50 : decode cX9_isBelow 50 = .ok (.lstore_n 3, 1) := by decide +kernel
theorem dX9_isBelow_51 : decode cX9_isBelow 51 = .ok (.lload 5, 2) := by decide +kernel
theorem dX9_isBelow_53 : decode cX9_isBelow 53 = .ok (.aload_n 0, 1) := by decide +kernel
theorem dX9_isBelow_54 : decode cX9_isBelow 54 = .ok (.getfield 234, 3) := by decide +kernel
theorem dX9_isBelow_57 : decode cX9_isBelow 57 = .ok (.ldc2_w 261, 3) := by decide +kernel
theorem dX9_isBelow_60 : decode cX9_isBelow 60 = .ok (.land, 1) := by decide +kernel
theorem dX9_isBelow_61 : decode cX9_isBelow 61 = .ok (.ladd, 1) := by decide +kernel
theorem dX9_isBelow_62 : decode cX9_isBelow 62 = .ok (.lstore 5, 2) := by decide +kernel
theorem dX9_isBelow_64 : decode cX9_isBelow 64 = .ok (.aload_n 0, 1) := by decide +kernel
theorem dX9_isBelow_65 : decode cX9_isBelow 65 = .ok (.getfield 217, 3) := by decide +kernel
theorem dX9_isBelow_68 : decode cX9_isBelow 68 = .ok (.iconst 5, 1) := by decide +kernel
theorem dX9_isBelow_69 : decode cX9_isBelow 69 = .ok (.if_icmp .ne 67, 3) := by decide +kernel
theorem dX9_isBelow_72 : decode cX9_isBelow 72 = .ok (.iload_n 2, 1) := by decide +kernel
theorem dX9_isBelow_73 : decode cX9_isBelow 73 = .ok (.aload_n 0, 1) := by decide +kernel
theorem dX9_isBelow_74 : decode cX9_isBelow 74 = .ok (.getfield 54, 3) := by decide +kernel
theorem dX9_isBelow_77 : decode cX9_isBelow 77 = .ok (.sipush 200, 3) := by decide +kernel
theorem dX9_isBelow_80 : decode cX9_isBelow 80 = .ok (.iload_n 1, 1) := by decide +kernel
theorem dX9_isBelow_81 : decode cX9_isBelow 81 = .ok (.imul, 1) := by decide +kernel
theorem dX9_isBelow_82 : decode cX9_isBelow 82 = .ok (.aload_n 0, 1) := by decide +kernel
theorem dX9_isBelow_83 : decode cX9_isBelow 83 = .ok (.getfield 228, 3) := by decide +kernel
theorem dX9_isBelow_86 : decode cX9_isBelow 86 = .ok (.iadd, 1) := by decide +kernel
theorem dX9_isBelow_87 : decode cX9_isBelow 87 = .ok (.iaload, 1) := by decide +kernel
theorem dX9_isBelow_88 : decode cX9_isBelow 88 = .ok (.if_icmp .ne 48, 3) := by decide +kernel
theorem dX9_isBelow_91 : decode cX9_isBelow 91 = .ok (.lload_n 3, 1) := by decide +kernel
theorem dX9_isBelow_92 : decode cX9_isBelow 92 = .ok (.aload_n 0, 1) := by decide +kernel
theorem dX9_isBelow_93 : decode cX9_isBelow 93 = .ok (.getfield 57, 3) := by decide +kernel
theorem dX9_isBelow_96 : decode cX9_isBelow 96 = .ok (.sipush 200, 3) := by decide +kernel
theorem dX9_isBelow_99 : decode cX9_isBelow 99 = .ok (.iload_n 1, 1) := by decide +kernel
theorem dX9_isBelow_100 : decode cX9_isBelow 100 = .ok (.imul, 1) := by decide +kernel
theorem dX9_isBelow_101 : decode cX9_isBelow 101 = .ok (.aload_n 0, 1) := by decide +kernel
theorem dX9_isBelow_102 : decode cX9_isBelow 102 = .ok (.getfield 228, 3) := by decide +kernel
theorem dX9_isBelow_105 : decode cX9_isBelow 105 = .ok (.iadd, 1) := by decide +kernel
theorem dX9_isBelow_106 : decode cX9_isBelow 106 = .ok (.laload, 1) := by decide +kernel
theorem dX9_isBelow_107 : decode cX9_isBelow 107 = .ok (.bipush 32, 2) := by decide +kernel
theorem dX9_isBelow_109 : decode cX9_isBelow 109 = .ok (.lshr, 1) := by decide +kernel
theorem dX9_isBelow_110 : decode cX9_isBelow 110 = .ok (.lsub, 1) := by decide +kernel
theorem dX9_isBelow_111 : decode cX9_isBelow 111 = .ok (.lstore_n 3, 1) := by decide +kernel
theorem dX9_isBelow_112 : decode cX9_isBelow 112 = .ok (.lload 5, 2) := by decide +kernel
theorem dX9_isBelow_114 : decode cX9_isBelow 114 = .ok (.aload_n 0, 1) := by decide +kernel
theorem dX9_isBelow_115 : decode cX9_isBelow 115 = .ok (.getfield 57, 3) := by decide +kernel
theorem dX9_isBelow_118 : decode cX9_isBelow 118 = .ok (.sipush 200, 3) := by decide +kernel
theorem dX9_isBelow_121 : decode cX9_isBelow 121 = .ok (.iload_n 1, 1) := by decide +kernel
theorem dX9_isBelow_122 : decode cX9_isBelow 122 = .ok (.imul, 1) := by decide +kernel
theorem dX9_isBelow_123 : decode cX9_isBelow 123 = .ok (.aload_n 0, 1) := by decide +kernel
theorem dX9_isBelow_124 : decode cX9_isBelow 124 = .ok (.getfield 228, 3) := by decide +kernel
theorem dX9_isBelow_127 : decode cX9_isBelow 127 = .ok (.iadd, 1) := by decide +kernel
theorem dX9_isBelow_128 : decode cX9_isBelow 128 = .ok (.laload, 1) := by decide +kernel
theorem dX9_isBelow_129 : decode cX9_isBelow 129 = .ok (.ldc2_w 261, 3) := by decide +kernel
theorem dX9_isBelow_132 : decode cX9_isBelow 132 = .ok (.land, 1) := by decide +kernel
theorem dX9_isBelow_133 : decode cX9_isBelow 133 = .ok (.lsub, 1) := by decide +kernel
theorem dX9_isBelow_134 : decode cX9_isBelow 134 = .ok (.lstore 5, 2) := by decide +kernel
theorem dX9_isBelow_136 : decode cX9_isBelow 136 = .ok (.aload_n 0, 1) := by decide +kernel
theorem dX9_isBelow_137 : decode cX9_isBelow 137 = .ok (.getfield 26, 3) := by decide +kernel
theorem dX9_isBelow_140 : decode cX9_isBelow 140 = .ok (.bipush 40, 2) := by decide +kernel
theorem dX9_isBelow_142 : decode cX9_isBelow 142 = .ok (.iload_n 1, 1) := by decide +kernel
theorem dX9_isBelow_143 : decode cX9_isBelow 143 = .ok (.imul, 1) := by decide +kernel
theorem dX9_isBelow_144 : decode cX9_isBelow 144 = .ok (.iload_n 2, 1) := by decide +kernel
theorem dX9_isBelow_145 : decode cX9_isBelow 145 = .ok (.iadd, 1) := by decide +kernel
theorem dX9_isBelow_146 : decode cX9_isBelow 146 = .ok (.laload, 1) := by decide +kernel
theorem dX9_isBelow_147 : decode cX9_isBelow 147 = .ok (.lstore 7, 2) := by decide +kernel
theorem dX9_isBelow_149 : decode cX9_isBelow 149 = .ok (.aload_n 0, 1) := by decide +kernel
theorem dX9_isBelow_150 : decode cX9_isBelow 150 = .ok (.getfield 93, 3) := by decide +kernel
theorem dX9_isBelow_153 : decode cX9_isBelow 153 = .ok (.iload_n 2, 1) := by decide +kernel
theorem dX9_isBelow_154 : decode cX9_isBelow 154 = .ok (.laload, 1) := by decide +kernel
theorem dX9_isBelow_155 : decode cX9_isBelow 155 = .ok (.bipush 32, 2) := by decide +kernel
theorem dX9_isBelow_157 : decode cX9_isBelow 157 = .ok (.lshr, 1) := by decide +kernel
theorem dX9_isBelow_158 : decode cX9_isBelow 158 = .ok (.lload_n 3, 1) := by decide +kernel
theorem dX9_isBelow_159 : decode cX9_isBelow 159 = .ok (.lsub, 1) := by decide +kernel
theorem dX9_isBelow_160 : decode cX9_isBelow 160 = .ok (.lload 7, 2) := by decide +kernel
theorem dX9_isBelow_162 : decode cX9_isBelow 162 = .ok (.bipush 32, 2) := by decide +kernel
theorem dX9_isBelow_164 : decode cX9_isBelow 164 = .ok (.lshr, 1) := by decide +kernel
theorem dX9_isBelow_165 : decode cX9_isBelow 165 = .ok (.lsub, 1) := by decide +kernel
theorem dX9_isBelow_166 : decode cX9_isBelow 166 = .ok (.lstore 9, 2) := by decide +kernel
theorem dX9_isBelow_168 : decode cX9_isBelow 168 = .ok (.aload_n 0, 1) := by decide +kernel
theorem dX9_isBelow_169 : decode cX9_isBelow 169 = .ok (.getfield 93, 3) := by decide +kernel
theorem dX9_isBelow_172 : decode cX9_isBelow 172 = .ok (.iload_n 2, 1) := by decide +kernel
theorem dX9_isBelow_173 : decode cX9_isBelow 173 = .ok (.laload, 1) := by decide +kernel
theorem dX9_isBelow_174 : decode cX9_isBelow 174 = .ok (.ldc2_w 261, 3) := by decide +kernel
theorem dX9_isBelow_177 : decode cX9_isBelow 177 = .ok (.land, 1) := by decide +kernel
theorem dX9_isBelow_178 : decode cX9_isBelow 178 = .ok (.lload 5, 2) := by decide +kernel
theorem dX9_isBelow_180 : decode cX9_isBelow 180 = .ok (.lsub, 1) := by decide +kernel
theorem dX9_isBelow_181 : decode cX9_isBelow 181 = .ok (.lload 7, 2) := by decide +kernel
theorem dX9_isBelow_183 : decode cX9_isBelow 183 = .ok (.ldc2_w 261, 3) := by decide +kernel
theorem dX9_isBelow_186 : decode cX9_isBelow 186 = .ok (.land, 1) := by decide +kernel
theorem dX9_isBelow_187 : decode cX9_isBelow 187 = .ok (.lsub, 1) := by decide +kernel
theorem dX9_isBelow_188 : decode cX9_isBelow 188 = .ok (.lstore 11, 2) := by decide +kernel
theorem dX9_isBelow_190 : decode cX9_isBelow 190 = .ok (.lload 9, 2) := by decide +kernel
theorem dX9_isBelow_192 : decode cX9_isBelow 192 = .ok (.lload 11, 2) := by decide +kernel
theorem dX9_isBelow_194 : decode cX9_isBelow 194 = .ok (.bipush 32, 2) := by decide +kernel
theorem dX9_isBelow_196 : decode cX9_isBelow 196 = .ok (.lshr, 1) := by decide +kernel
theorem dX9_isBelow_197 : decode cX9_isBelow 197 = .ok (.ladd, 1) := by decide +kernel
theorem dX9_isBelow_198 : decode cX9_isBelow 198 = .ok (.lconst 0, 1) := by decide +kernel
theorem dX9_isBelow_199 : decode cX9_isBelow 199 = .ok (.lcmp, 1) := by decide +kernel
theorem dX9_isBelow_200 : decode cX9_isBelow 200 = .ok (.ifCond .ge 7, 3) := by decide +kernel
theorem dX9_isBelow_203 : decode cX9_isBelow 203 = .ok (.iconst 1, 1) := by decide +kernel
theorem dX9_isBelow_204 : decode cX9_isBelow 204 = .ok (.goto 4, 3) := by decide +kernel
theorem dX9_isBelow_207 : decode cX9_isBelow 207 = .ok (.iconst 0, 1) := by decide +kernel
theorem dX9_isBelow_208 : decode cX9_isBelow 208 = .ok (.ireturn, 1) := by decide +kernel
theorem dX9_refused_0 : decode cX9_refused 0 = .ok (.aload_n 0, 1) := by decide +kernel
theorem dX9_refused_1 : decode cX9_refused 1 = .ok (.iload_n 1, 1) := by decide +kernel
theorem dX9_refused_2 : decode cX9_refused 2 = .ok (.invokevirtual 263, 3) := by decide +kernel
theorem dX9_refused_5 : decode cX9_refused 5 = .ok (.ifCond .eq 6, 3) := by decide +kernel
theorem dX9_refused_8 : decode cX9_refused 8 = .ok (.bipush (-2), 2) := by decide +kernel
theorem dX9_refused_10 : decode cX9_refused 10 = .ok (.ireturn, 1) := by decide +kernel
theorem dX9_refused_11 : decode cX9_refused 11 = .ok (.aload_n 0, 1) := by decide +kernel
theorem dX9_refused_12 : decode cX9_refused 12 = .ok (.invokevirtual 267, 3) := by decide +kernel
theorem dX9_refused_15 : decode cX9_refused 15 = .ok (.ifCond .eq 6, 3) := by decide +kernel
theorem dX9_refused_18 : decode cX9_refused 18 = .ok (.bipush (-3), 2) := by decide +kernel
theorem dX9_refused_20 : decode cX9_refused 20 = .ok (.ireturn, 1) := by decide +kernel
theorem dX9_refused_21 : decode cX9_refused 21 = .ok (.aload_n 0, 1) := by decide +kernel
theorem dX9_refused_22 : decode cX9_refused 22 = .ok (.getfield 217, 3) := by decide +kernel
theorem dX9_refused_25 : decode cX9_refused 25 = .ok (.bipush 6, 2) := by decide +kernel
theorem dX9_refused_27 : decode cX9_refused 27 = .ok (.if_icmp .ne 25, 3) := by decide +kernel
theorem dX9_refused_30 : decode cX9_refused 30 = .ok (.aload_n 0, 1) := by decide +kernel
theorem dX9_refused_31 : decode cX9_refused 31 = .ok (.getfield 63, 3) := by decide +kernel
theorem dX9_refused_34 : decode cX9_refused 34 = .ok (.sipush 200, 3) := by decide +kernel
theorem dX9_refused_37 : decode cX9_refused 37 = .ok (.iload_n 1, 1) := by decide +kernel
theorem dX9_refused_38 : decode cX9_refused 38 = .ok (.imul, 1) := by decide +kernel
theorem dX9_refused_39 : decode cX9_refused 39 = .ok (.aload_n 0, 1) := by decide +kernel
theorem dX9_refused_40 : decode cX9_refused 40 = .ok (.getfield 228, 3) := by decide +kernel
theorem dX9_refused_43 : decode cX9_refused 43 = .ok (.iadd, 1) := by decide +kernel
theorem dX9_refused_44 : decode cX9_refused 44 = .ok (.iaload, 1) := by decide +kernel
theorem dX9_refused_45 : decode cX9_refused 45 = .ok (.iconst (-1), 1) := by decide +kernel
theorem dX9_refused_46 : decode cX9_refused 46 = .ok (.if_icmp .eq 6, 3) := by decide +kernel
theorem dX9_refused_49 : decode cX9_refused 49 = .ok (.bipush (-7), 2) := by decide +kernel
theorem dX9_refused_51 : decode cX9_refused 51 = .ok (.ireturn, 1) := by decide +kernel
theorem dX9_refused_52 : decode cX9_refused 52 = .ok (.aload_n 0, 1) := by decide +kernel
theorem dX9_refused_53 : decode cX9_refused 53 = .ok (.iload_n 1, 1) := by decide +kernel
theorem dX9_refused_54 : decode cX9_refused 54 = .ok (.invokevirtual 271, 3) := by decide +kernel
theorem dX9_refused_57 : decode cX9_refused 57 = .ok (.ifCond .eq 6, 3) := by decide +kernel
theorem dX9_refused_60 : decode cX9_refused 60 = .ok (.bipush (-5), 2) := by decide +kernel
theorem dX9_refused_62 : decode cX9_refused 62 = .ok (.ireturn, 1) := by decide +kernel
theorem dX9_refused_63 : decode cX9_refused 63 = .ok (.aload_n 0, 1) := by decide +kernel
theorem dX9_refused_64 : decode cX9_refused 64 = .ok (.getfield 217, 3) := by decide +kernel
theorem dX9_refused_67 : decode cX9_refused 67 = .ok (.iconst 3, 1) := by decide +kernel
theorem dX9_refused_68 : decode cX9_refused 68 = .ok (.if_icmp .ne 19, 3) := by decide +kernel
theorem dX9_refused_71 : decode cX9_refused 71 = .ok (.aload_n 0, 1) := by decide +kernel
theorem dX9_refused_72 : decode cX9_refused 72 = .ok (.iload_n 1, 1) := by decide +kernel
theorem dX9_refused_73 : decode cX9_refused 73 = .ok (.aload_n 0, 1) := by decide +kernel
theorem dX9_refused_74 : decode cX9_refused 74 = .ok (.getfield 231, 3) := by decide +kernel
theorem dX9_refused_77 : decode cX9_refused 77 = .ok (.invokevirtual 274, 3) := by decide +kernel
theorem dX9_refused_80 : decode cX9_refused 80 = .ok (.ifCond .eq 7, 3) := by decide +kernel
theorem dX9_refused_83 : decode cX9_refused 83 = .ok (.iconst 1, 1) := by decide +kernel
theorem dX9_refused_84 : decode cX9_refused 84 = .ok (.goto 4, 3) := by decide +kernel
theorem dX9_refused_87 : decode cX9_refused 87 = .ok (.iconst 0, 1) := by decide +kernel
theorem dX9_refused_88 : decode cX9_refused 88 = .ok (.istore_n 2, 1) := by decide +kernel
theorem dX9_refused_89 : decode cX9_refused 89 = .ok (.iconst 0, 1) := by decide +kernel
theorem dX9_refused_90 : decode cX9_refused 90 = .ok (.istore_n 3, 1) := by decide +kernel
theorem dX9_refused_91 : decode cX9_refused 91 = .ok (.iload_n 3, 1) := by decide +kernel
theorem dX9_refused_92 : decode cX9_refused 92 = .ok (.aload_n 0, 1) := by decide +kernel
theorem dX9_refused_93 : decode cX9_refused 93 = .ok (.getfield 225, 3) := by decide +kernel
theorem dX9_refused_96 : decode cX9_refused 96 = .ok (.if_icmp .ge 33, 3) := by decide +kernel
theorem dX9_refused_99 : decode cX9_refused 99 = .ok (.iload_n 2, 1) := by decide +kernel
theorem dX9_refused_100 : decode cX9_refused 100 = .ok (.ifCond .ne 17, 3) := by decide +kernel
theorem dX9_refused_103 : decode cX9_refused 103 = .ok (.aload_n 0, 1) := by decide +kernel
theorem dX9_refused_104 : decode cX9_refused 104 = .ok (.iload_n 1, 1) := by decide +kernel
theorem dX9_refused_105 : decode cX9_refused 105 = .ok (.aload_n 0, 1) := by decide +kernel
theorem dX9_refused_106 : decode cX9_refused 106 = .ok (.getfield 84, 3) := by decide +kernel
theorem dX9_refused_109 : decode cX9_refused 109 = .ok (.iload_n 3, 1) := by decide +kernel
theorem dX9_refused_110 : decode cX9_refused 110 = .ok (.iaload, 1) := by decide +kernel
theorem dX9_refused_111 : decode cX9_refused 111 = .ok (.invokevirtual 274, 3) := by decide +kernel
theorem dX9_refused_114 : decode cX9_refused 114 = .ok (.ifCond .eq 7, 3) := by decide +kernel
theorem dX9_refused_117 : decode cX9_refused 117 = .ok (.iconst 1, 1) := by decide +kernel
theorem dX9_refused_118 : decode cX9_refused 118 = .ok (.goto 4, 3) := by decide +kernel
theorem dX9_refused_121 : decode cX9_refused 121 = .ok (.iconst 0, 1) := by decide +kernel
theorem dX9_refused_122 : decode cX9_refused 122 = .ok (.istore_n 2, 1) := by decide +kernel
theorem dX9_refused_123 : decode cX9_refused 123 = .ok (.iinc 3 1, 3) := by decide +kernel
theorem dX9_refused_126 : decode cX9_refused 126 = .ok (.goto (-35), 3) := by decide +kernel
theorem dX9_refused_129 : decode cX9_refused 129 = .ok (.iload_n 2, 1) := by decide +kernel
theorem dX9_refused_130 : decode cX9_refused 130 = .ok (.ifCond .eq 6, 3) := by decide +kernel
theorem dX9_refused_133 : decode cX9_refused 133 = .ok (.bipush (-6), 2) := by decide +kernel
theorem dX9_refused_135 : decode cX9_refused 135 = .ok (.ireturn, 1) := by decide +kernel
theorem dX9_refused_136 : decode cX9_refused 136 = .ok (.aload_n 0, 1) := by decide +kernel
theorem dX9_refused_137 : decode cX9_refused 137 = .ok (.getfield 13, 3) := by decide +kernel
theorem dX9_refused_140 : decode cX9_refused 140 = .ok (.iload_n 1, 1) := by decide +kernel
theorem dX9_refused_141 : decode cX9_refused 141 = .ok (.iaload, 1) := by decide +kernel
theorem dX9_refused_142 : decode cX9_refused 142 = .ok (.sipush 200, 3) := by decide +kernel
theorem dX9_refused_145 : decode cX9_refused 145 = .ok (.if_icmp .ne 8, 3) := by decide +kernel
theorem dX9_refused_148 : decode cX9_refused 148 = .ok (.bipush (-8), 2) := by decide +kernel
theorem dX9_refused_150 : decode cX9_refused 150 = .ok (.goto 4, 3) := by decide +kernel
theorem dX9_refused_153 : decode cX9_refused 153 = .ok (.iconst 0, 1) := by decide +kernel
theorem dX9_refused_154 : decode cX9_refused 154 = .ok (.ireturn, 1) := by decide +kernel
theorem dX9_hold_0 : decode cX9_hold 0 = .ok (.bipush 40, 2) := by decide +kernel
theorem dX9_hold_2 : decode cX9_hold 2 = .ok (.iload_n 1, 1) := by decide +kernel
theorem dX9_hold_3 : decode cX9_hold 3 = .ok (.imul, 1) := by decide +kernel
theorem dX9_hold_4 : decode cX9_hold 4 = .ok (.iload_n 2, 1) := by decide +kernel
theorem dX9_hold_5 : decode cX9_hold 5 = .ok (.iadd, 1) := by decide +kernel
theorem dX9_hold_6 : decode cX9_hold 6 = .ok (.istore 6, 2) := by decide +kernel
theorem dX9_hold_8 : decode cX9_hold 8 = .ok (.aload_n 0, 1) := by decide +kernel
theorem dX9_hold_9 : decode cX9_hold 9 = .ok (.getfield 36, 3) := by decide +kernel
theorem dX9_hold_12 : decode cX9_hold 12 = .ok (.iload 6, 2) := by decide +kernel
theorem dX9_hold_14 : decode cX9_hold 14 = .ok (.laload, 1) := by decide +kernel
theorem dX9_hold_15 : decode cX9_hold 15 = .ok (.iload 5, 2) := by decide +kernel
theorem dX9_hold_17 : decode cX9_hold 17 = .ok (.i2l, 1) := by decide +kernel
theorem dX9_hold_18 : decode cX9_hold 18 = .ok (.lload_n 3, 1) := by decide +kernel
theorem dX9_hold_19 : decode cX9_hold 19 = .ok (.ldc2_w 261, 3) := by decide +kernel
theorem dX9_hold_22 : decode cX9_hold 22 = .ok (.land, 1) := by decide +kernel
theorem dX9_hold_23 : decode cX9_hold 23 = .ok (.lmul, 1) := by decide +kernel
theorem dX9_hold_24 : decode cX9_hold 24 = .ok (.ladd, 1) := by decide +kernel
theorem dX9_hold_25 : decode cX9_hold 25 = .ok (.lstore 7, 2) := by decide +kernel
theorem dX9_hold_27 : decode cX9_hold 27 = .ok (.aload_n 0, 1) := by decide +kernel
theorem dX9_hold_28 : decode cX9_hold 28 = .ok (.getfield 33, 3) := by decide +kernel
theorem dX9_hold_31 : decode cX9_hold 31 = .ok (.iload 6, 2) := by decide +kernel
theorem dX9_hold_33 : decode cX9_hold 33 = .ok (.dup2, 1) := by decide +kernel
theorem dX9_hold_34 : decode cX9_hold 34 = .ok (.laload, 1) := by decide +kernel
theorem dX9_hold_35 : decode cX9_hold 35 = .ok (.iload 5, 2) := by decide +kernel
theorem dX9_hold_37 : decode cX9_hold 37 = .ok (.i2l, 1) := by decide +kernel
theorem dX9_hold_38 : decode cX9_hold 38 = .ok (.lload_n 3, 1) := by decide +kernel
theorem dX9_hold_39 : decode cX9_hold 39 = .ok (.bipush 32, 2) := by decide +kernel
theorem dX9_hold_41 : decode cX9_hold 41 = .ok (.lshr, 1) := by decide +kernel
theorem dX9_hold_42 : decode cX9_hold 42 = .ok (.lmul, 1) := by decide +kernel
theorem dX9_hold_43 : decode cX9_hold 43 = .ok (.lload 7, 2) := by decide +kernel
theorem dX9_hold_45 : decode cX9_hold 45 = .ok (.bipush 32, 2) := by decide +kernel
theorem dX9_hold_47 : decode cX9_hold 47 = .ok (.lshr, 1) := by decide +kernel
theorem dX9_hold_48 : decode cX9_hold 48 = .ok (.ladd, 1) := by decide +kernel
theorem dX9_hold_49 : decode cX9_hold 49 = .ok (.ladd, 1) := by decide +kernel
theorem dX9_hold_50 : decode cX9_hold 50 = .ok (.lastore, 1) := by decide +kernel
theorem dX9_hold_51 : decode cX9_hold 51 = .ok (.aload_n 0, 1) := by decide +kernel
theorem dX9_hold_52 : decode cX9_hold 52 = .ok (.getfield 36, 3) := by decide +kernel
theorem dX9_hold_55 : decode cX9_hold 55 = .ok (.iload 6, 2) := by decide +kernel
theorem dX9_hold_57 : decode cX9_hold 57 = .ok (.lload 7, 2) := by decide +kernel
theorem dX9_hold_59 : decode cX9_hold 59 = .ok (.ldc2_w 261, 3) := by decide +kernel
theorem dX9_hold_62 : decode cX9_hold 62 = .ok (.land, 1) := by decide +kernel
theorem dX9_hold_63 : decode cX9_hold 63 = .ok (.lastore, 1) := by decide +kernel
theorem dX9_hold_64 : decode cX9_hold 64 = .ok (.return_, 1) := by decide +kernel
theorem dX9_does_0 : decode cX9_does 0 = .ok (.aload_n 0, 1) := by decide +kernel
theorem dX9_does_1 : decode cX9_does 1 = .ok (.getfield 13, 3) := by decide +kernel
theorem dX9_does_4 : decode cX9_does 4 = .ok (.iload_n 1, 1) := by decide +kernel
theorem dX9_does_5 : decode cX9_does 5 = .ok (.iaload, 1) := by decide +kernel
theorem dX9_does_6 : decode cX9_does 6 = .ok (.istore_n 2, 1) := by decide +kernel
theorem dX9_does_7 : decode cX9_does 7 = .ok (.sipush 200, 3) := by decide +kernel
theorem dX9_does_10 : decode cX9_does 10 = .ok (.iload_n 1, 1) := by decide +kernel
theorem dX9_does_11 : decode cX9_does 11 = .ok (.imul, 1) := by decide +kernel
theorem dX9_does_12 : decode cX9_does 12 = .ok (.iload_n 2, 1) := by decide +kernel
theorem dX9_does_13 : decode cX9_does 13 = .ok (.iadd, 1) := by decide +kernel
theorem dX9_does_14 : decode cX9_does 14 = .ok (.istore_n 3, 1) := by decide +kernel
theorem dX9_does_15 : decode cX9_does 15 = .ok (.aload_n 0, 1) := by decide +kernel
theorem dX9_does_16 : decode cX9_does 16 = .ok (.getfield 39, 3) := by decide +kernel
theorem dX9_does_19 : decode cX9_does 19 = .ok (.iload_n 3, 1) := by decide +kernel
theorem dX9_does_20 : decode cX9_does 20 = .ok (.aload_n 0, 1) := by decide +kernel
theorem dX9_does_21 : decode cX9_does 21 = .ok (.getfield 217, 3) := by decide +kernel
theorem dX9_does_24 : decode cX9_does 24 = .ok (.iastore, 1) := by decide +kernel
theorem dX9_does_25 : decode cX9_does 25 = .ok (.aload_n 0, 1) := by decide +kernel
theorem dX9_does_26 : decode cX9_does 26 = .ok (.getfield 42, 3) := by decide +kernel
theorem dX9_does_29 : decode cX9_does 29 = .ok (.iload_n 3, 1) := by decide +kernel
theorem dX9_does_30 : decode cX9_does 30 = .ok (.aload_n 0, 1) := by decide +kernel
theorem dX9_does_31 : decode cX9_does 31 = .ok (.getfield 221, 3) := by decide +kernel
theorem dX9_does_34 : decode cX9_does 34 = .ok (.lastore, 1) := by decide +kernel
theorem dX9_does_35 : decode cX9_does 35 = .ok (.aload_n 0, 1) := by decide +kernel
theorem dX9_does_36 : decode cX9_does 36 = .ok (.getfield 45, 3) := by decide +kernel
theorem dX9_does_39 : decode cX9_does 39 = .ok (.iload_n 3, 1) := by decide +kernel
theorem dX9_does_40 : decode cX9_does 40 = .ok (.aload_n 0, 1) := by decide +kernel
theorem dX9_does_41 : decode cX9_does 41 = .ok (.getfield 225, 3) := by decide +kernel
theorem dX9_does_44 : decode cX9_does 44 = .ok (.iastore, 1) := by decide +kernel
theorem dX9_does_45 : decode cX9_does 45 = .ok (.aload_n 0, 1) := by decide +kernel
theorem dX9_does_46 : decode cX9_does 46 = .ok (.getfield 60, 3) := by decide +kernel
theorem dX9_does_49 : decode cX9_does 49 = .ok (.iload_n 3, 1) := by decide +kernel
theorem dX9_does_50 : decode cX9_does 50 = .ok (.aload_n 0, 1) := by decide +kernel
theorem dX9_does_51 : decode cX9_does 51 = .ok (.getfield 217, 3) := by decide +kernel
theorem dX9_does_54 : decode cX9_does 54 = .ok (.iconst 3, 1) := by decide +kernel
theorem dX9_does_55 : decode cX9_does 55 = .ok (.if_icmp .ne 7, 3) := by decide +kernel
theorem dX9_does_58 : decode cX9_does 58 = .ok (.iconst 1, 1) := by decide +kernel
theorem dX9_does_59 : decode cX9_does 59 = .ok (.goto 4, 3) := by decide +kernel
theorem dX9_does_62 : decode cX9_does 62 = .ok (.iconst 0, 1) := by decide +kernel
theorem dX9_does_63 : decode cX9_does 63 = .ok (.bastore, 1) := by decide +kernel
theorem dX9_does_64 : decode cX9_does 64 = .ok (.aload_n 0, 1) := by decide +kernel
theorem dX9_does_65 : decode cX9_does 65 = .ok (.getfield 63, 3) := by decide +kernel
theorem dX9_does_68 : decode cX9_does 68 = .ok (.iload_n 3, 1) := by decide +kernel
theorem dX9_does_69 : decode cX9_does 69 = .ok (.iconst (-1), 1) := by decide +kernel
theorem dX9_does_70 : decode cX9_does 70 = .ok (.iastore, 1) := by decide +kernel
theorem dX9_does_71 : decode cX9_does 71 = .ok (.aload_n 0, 1) := by decide +kernel
theorem dX9_does_72 : decode cX9_does 72 = .ok (.getfield 54, 3) := by decide +kernel
theorem dX9_does_75 : decode cX9_does 75 = .ok (.iload_n 3, 1) := by decide +kernel
theorem dX9_does_76 : decode cX9_does 76 = .ok (.aload_n 0, 1) := by decide +kernel
theorem dX9_does_77 : decode cX9_does 77 = .ok (.getfield 231, 3) := by decide +kernel
theorem dX9_does_80 : decode cX9_does 80 = .ok (.iastore, 1) := by decide +kernel
theorem dX9_does_81 : decode cX9_does 81 = .ok (.aload_n 0, 1) := by decide +kernel
theorem dX9_does_82 : decode cX9_does 82 = .ok (.getfield 57, 3) := by decide +kernel
theorem dX9_does_85 : decode cX9_does 85 = .ok (.iload_n 3, 1) := by decide +kernel
theorem dX9_does_86 : decode cX9_does 86 = .ok (.aload_n 0, 1) := by decide +kernel
theorem dX9_does_87 : decode cX9_does 87 = .ok (.getfield 234, 3) := by decide +kernel
theorem dX9_does_90 : decode cX9_does 90 = .ok (.lastore, 1) := by decide +kernel
theorem dX9_does_91 : decode cX9_does 91 = .ok (.iconst 0, 1) := by decide +kernel
theorem dX9_does_92 : decode cX9_does 92 = .ok (.istore 4, 2) := by decide +kernel
theorem dX9_does_94 : decode cX9_does 94 = .ok (.iload 4, 2) := by decide +kernel
theorem dX9_does_96 : decode cX9_does 96 = .ok (.aload_n 0, 1) := by decide +kernel
theorem dX9_does_97 : decode cX9_does 97 = .ok (.getfield 225, 3) := by decide +kernel
theorem dX9_does_100 : decode cX9_does 100 = .ok (.if_icmp .ge 74, 3) := by decide +kernel
theorem dX9_does_103 : decode cX9_does 103 = .ok (.aload_n 0, 1) := by decide +kernel
theorem dX9_does_104 : decode cX9_does 104 = .ok (.getfield 48, 3) := by decide +kernel
theorem dX9_does_107 : decode cX9_does 107 = .ok (.bipush 8, 2) := by decide +kernel
theorem dX9_does_109 : decode cX9_does 109 = .ok (.iload_n 3, 1) := by decide +kernel
theorem dX9_does_110 : decode cX9_does 110 = .ok (.imul, 1) := by decide +kernel
theorem dX9_does_111 : decode cX9_does 111 = .ok (.iload 4, 2) := by decide +kernel
theorem dX9_does_113 : decode cX9_does 113 = .ok (.iadd, 1) := by decide +kernel
theorem dX9_does_114 : decode cX9_does 114 = .ok (.aload_n 0, 1) := by decide +kernel
theorem dX9_does_115 : decode cX9_does 115 = .ok (.getfield 84, 3) := by decide +kernel
theorem dX9_does_118 : decode cX9_does 118 = .ok (.iload 4, 2) := by decide +kernel
theorem dX9_does_120 : decode cX9_does 120 = .ok (.iaload, 1) := by decide +kernel
theorem dX9_does_121 : decode cX9_does 121 = .ok (.iastore, 1) := by decide +kernel
theorem dX9_does_122 : decode cX9_does 122 = .ok (.aload_n 0, 1) := by decide +kernel
theorem dX9_does_123 : decode cX9_does 123 = .ok (.getfield 51, 3) := by decide +kernel
theorem dX9_does_126 : decode cX9_does 126 = .ok (.bipush 8, 2) := by decide +kernel
theorem dX9_does_128 : decode cX9_does 128 = .ok (.iload_n 3, 1) := by decide +kernel
theorem dX9_does_129 : decode cX9_does 129 = .ok (.imul, 1) := by decide +kernel
theorem dX9_does_130 : decode cX9_does 130 = .ok (.iload 4, 2) := by decide +kernel
theorem dX9_does_132 : decode cX9_does 132 = .ok (.iadd, 1) := by decide +kernel
theorem dX9_does_133 : decode cX9_does 133 = .ok (.aload_n 0, 1) := by decide +kernel
theorem dX9_does_134 : decode cX9_does 134 = .ok (.getfield 87, 3) := by decide +kernel
theorem dX9_does_137 : decode cX9_does 137 = .ok (.iload 4, 2) := by decide +kernel
theorem dX9_does_139 : decode cX9_does 139 = .ok (.laload, 1) := by decide +kernel
theorem dX9_does_140 : decode cX9_does 140 = .ok (.lastore, 1) := by decide +kernel
theorem dX9_does_141 : decode cX9_does 141 = .ok (.aload_n 0, 1) := by decide +kernel
theorem dX9_does_142 : decode cX9_does 142 = .ok (.getfield 30, 3) := by decide +kernel
theorem dX9_does_145 : decode cX9_does 145 = .ok (.bipush 40, 2) := by decide +kernel
theorem dX9_does_147 : decode cX9_does 147 = .ok (.iload_n 1, 1) := by decide +kernel
theorem dX9_does_148 : decode cX9_does 148 = .ok (.imul, 1) := by decide +kernel
theorem dX9_does_149 : decode cX9_does 149 = .ok (.aload_n 0, 1) := by decide +kernel
theorem dX9_does_150 : decode cX9_does 150 = .ok (.getfield 84, 3) := by decide +kernel
theorem dX9_does_153 : decode cX9_does 153 = .ok (.iload 4, 2) := by decide +kernel
theorem dX9_does_155 : decode cX9_does 155 = .ok (.iaload, 1) := by decide +kernel
theorem dX9_does_156 : decode cX9_does 156 = .ok (.iadd, 1) := by decide +kernel
theorem dX9_does_157 : decode cX9_does 157 = .ok (.dup2, 1) := by decide +kernel
theorem dX9_does_158 : decode cX9_does 158 = .ok (.laload, 1) := by decide +kernel
theorem dX9_does_159 : decode cX9_does 159 = .ok (.aload_n 0, 1) := by decide +kernel
theorem dX9_does_160 : decode cX9_does 160 = .ok (.getfield 87, 3) := by decide +kernel
theorem dX9_does_163 : decode cX9_does 163 = .ok (.iload 4, 2) := by decide +kernel
theorem dX9_does_165 : decode cX9_does 165 = .ok (.laload, 1) := by decide +kernel
theorem dX9_does_166 : decode cX9_does 166 = .ok (.ladd, 1) := by decide +kernel
theorem dX9_does_167 : decode cX9_does 167 = .ok (.lastore, 1) := by decide +kernel
theorem dX9_does_168 : decode cX9_does 168 = .ok (.iinc 4 1, 3) := by decide +kernel
theorem dX9_does_171 : decode cX9_does 171 = .ok (.goto (-77), 3) := by decide +kernel
theorem dX9_does_174 : decode cX9_does 174 = .ok (.aload_n 0, 1) := by decide +kernel
theorem dX9_does_175 : decode cX9_does 175 = .ok (.getfield 217, 3) := by decide +kernel
theorem dX9_does_178 : decode cX9_does 178 = .ok (.iconst 3, 1) := by decide +kernel
theorem dX9_does_179 : decode cX9_does 179 = .ok (.if_icmp .ne 17, 3) := by decide +kernel
theorem dX9_does_182 : decode cX9_does 182 = .ok (.aload_n 0, 1) := by decide +kernel
theorem dX9_does_183 : decode cX9_does 183 = .ok (.iload_n 1, 1) := by decide +kernel
theorem dX9_does_184 : decode cX9_does 184 = .ok (.aload_n 0, 1) := by decide +kernel
theorem dX9_does_185 : decode cX9_does 185 = .ok (.getfield 231, 3) := by decide +kernel
theorem dX9_does_188 : decode cX9_does 188 = .ok (.aload_n 0, 1) := by decide +kernel
theorem dX9_does_189 : decode cX9_does 189 = .ok (.getfield 234, 3) := by decide +kernel
theorem dX9_does_192 : decode cX9_does 192 = .ok (.iconst 1, 1) := by decide +kernel
theorem dX9_does_193 : decode cX9_does 193 = .ok (.invokevirtual 277, 3) := by decide +kernel
theorem dX9_does_196 : decode cX9_does 196 = .ok (.sipush 200, 3) := by decide +kernel
theorem dX9_does_199 : decode cX9_does 199 = .ok (.iload_n 1, 1) := by decide +kernel
theorem dX9_does_200 : decode cX9_does 200 = .ok (.imul, 1) := by decide +kernel
theorem dX9_does_201 : decode cX9_does 201 = .ok (.aload_n 0, 1) := by decide +kernel
theorem dX9_does_202 : decode cX9_does 202 = .ok (.getfield 228, 3) := by decide +kernel
theorem dX9_does_205 : decode cX9_does 205 = .ok (.iadd, 1) := by decide +kernel
theorem dX9_does_206 : decode cX9_does 206 = .ok (.istore 4, 2) := by decide +kernel
theorem dX9_does_208 : decode cX9_does 208 = .ok (.aload_n 0, 1) := by decide +kernel
theorem dX9_does_209 : decode cX9_does 209 = .ok (.getfield 217, 3) := by decide +kernel
theorem dX9_does_212 : decode cX9_does 212 = .ok (.iconst 4, 1) := by decide +kernel
theorem dX9_does_213 : decode cX9_does 213 = .ok (.if_icmp .eq 11, 3) := by decide +kernel
theorem dX9_does_216 : decode cX9_does 216 = .ok (.aload_n 0, 1) := by decide +kernel
theorem dX9_does_217 : decode cX9_does 217 = .ok (.getfield 217, 3) := by decide +kernel
theorem dX9_does_220 : decode cX9_does 220 = .ok (.iconst 5, 1) := by decide +kernel
theorem dX9_does_221 : decode cX9_does 221 = .ok (.if_icmp .ne 31, 3) := by decide +kernel
theorem dX9_does_224 : decode cX9_does 224 = .ok (.aload_n 0, 1) := by decide +kernel
theorem dX9_does_225 : decode cX9_does 225 = .ok (.iload_n 1, 1) := by decide +kernel
theorem dX9_does_226 : decode cX9_does 226 = .ok (.aload_n 0, 1) := by decide +kernel
theorem dX9_does_227 : decode cX9_does 227 = .ok (.getfield 54, 3) := by decide +kernel
theorem dX9_does_230 : decode cX9_does 230 = .ok (.iload 4, 2) := by decide +kernel
theorem dX9_does_232 : decode cX9_does 232 = .ok (.iaload, 1) := by decide +kernel
theorem dX9_does_233 : decode cX9_does 233 = .ok (.aload_n 0, 1) := by decide +kernel
theorem dX9_does_234 : decode cX9_does 234 = .ok (.getfield 57, 3) := by decide +kernel
theorem dX9_does_237 : decode cX9_does 237 = .ok (.iload 4, 2) := by decide +kernel
theorem dX9_does_239 : decode cX9_does 239 = .ok (.laload, 1) := by decide +kernel
theorem dX9_does_240 : decode cX9_does 240 = .ok (.iconst (-1), 1) := by decide +kernel
theorem dX9_does_241 : decode cX9_does 241 = .ok (.invokevirtual 277, 3) := by decide +kernel
theorem dX9_does_244 : decode cX9_does 244 = .ok (.aload_n 0, 1) := by decide +kernel
theorem dX9_does_245 : decode cX9_does 245 = .ok (.getfield 60, 3) := by decide +kernel
theorem dX9_does_248 : decode cX9_does 248 = .ok (.iload 4, 2) := by decide +kernel
theorem dX9_does_250 : decode cX9_does 250 = .ok (.iconst 0, 1) := by decide +kernel
theorem dX9_does_251 : decode cX9_does 251 = .ok (.bastore, 1) := by decide +kernel
theorem dX9_does_252 : decode cX9_does 252 = .ok (.aload_n 0, 1) := by decide +kernel
theorem dX9_does_253 : decode cX9_does 253 = .ok (.getfield 217, 3) := by decide +kernel
theorem dX9_does_256 : decode cX9_does 256 = .ok (.iconst 4, 1) := by decide +kernel
theorem dX9_does_257 : decode cX9_does 257 = .ok (.if_icmp .eq 20, 3) := by decide +kernel
theorem dX9_does_260 : decode cX9_does 260 = .ok (.aload_n 0, 1) := by decide +kernel
theorem dX9_does_261 : decode cX9_does 261 = .ok (.getfield 217, 3) := by decide +kernel
theorem dX9_does_264 : decode cX9_does 264 = .ok (.iconst 5, 1) := by decide +kernel
theorem dX9_does_265 : decode cX9_does 265 = .ok (.if_icmp .eq 12, 3) := by decide +kernel
theorem dX9_does_268 : decode cX9_does 268 = .ok (.aload_n 0, 1) := by decide +kernel
theorem dX9_does_269 : decode cX9_does 269 = .ok (.getfield 217, 3) := by decide +kernel
theorem dX9_does_272 : decode cX9_does 272 = .ok (.bipush 6, 2) := by decide +kernel
theorem dX9_does_274 : decode cX9_does 274 = .ok (.if_icmp .ne 11, 3) := by decide +kernel
theorem dX9_does_277 : decode cX9_does 277 = .ok (.aload_n 0, 1) := by decide +kernel
theorem dX9_does_278 : decode cX9_does 278 = .ok (.getfield 63, 3) := by decide +kernel
theorem dX9_does_281 : decode cX9_does 281 = .ok (.iload 4, 2) := by decide +kernel
theorem dX9_does_283 : decode cX9_does 283 = .ok (.iload_n 2, 1) := by decide +kernel
theorem dX9_does_284 : decode cX9_does 284 = .ok (.iastore, 1) := by decide +kernel
theorem dX9_does_285 : decode cX9_does 285 = .ok (.aload_n 0, 1) := by decide +kernel
theorem dX9_does_286 : decode cX9_does 286 = .ok (.getfield 217, 3) := by decide +kernel
theorem dX9_does_289 : decode cX9_does 289 = .ok (.iconst 1, 1) := by decide +kernel
theorem dX9_does_290 : decode cX9_does 290 = .ok (.if_icmp .ne 84, 3) := by decide +kernel
theorem dX9_does_293 : decode cX9_does 293 = .ok (.aload_n 0, 1) := by decide +kernel
theorem dX9_does_294 : decode cX9_does 294 = .ok (.getfield 26, 3) := by decide +kernel
theorem dX9_does_297 : decode cX9_does 297 = .ok (.bipush 40, 2) := by decide +kernel
theorem dX9_does_299 : decode cX9_does 299 = .ok (.iload_n 1, 1) := by decide +kernel
theorem dX9_does_300 : decode cX9_does 300 = .ok (.imul, 1) := by decide +kernel
theorem dX9_does_301 : decode cX9_does 301 = .ok (.aload_n 0, 1) := by decide +kernel
theorem dX9_does_302 : decode cX9_does 302 = .ok (.getfield 7, 3) := by decide +kernel
theorem dX9_does_305 : decode cX9_does 305 = .ok (.iload_n 1, 1) := by decide +kernel
theorem dX9_does_306 : decode cX9_does 306 = .ok (.iaload, 1) := by decide +kernel
theorem dX9_does_307 : decode cX9_does 307 = .ok (.iadd, 1) := by decide +kernel
theorem dX9_does_308 : decode cX9_does 308 = .ok (.aload_n 0, 1) := by decide +kernel
theorem dX9_does_309 : decode cX9_does 309 = .ok (.getfield 234, 3) := by decide +kernel
theorem dX9_does_312 : decode cX9_does 312 = .ok (.lastore, 1) := by decide +kernel
theorem dX9_does_313 : decode cX9_does 313 = .ok (.aload_n 0, 1) := by decide +kernel
theorem dX9_does_314 : decode cX9_does 314 = .ok (.getfield 30, 3) := by decide +kernel
theorem dX9_does_317 : decode cX9_does 317 = .ok (.bipush 40, 2) := by decide +kernel
theorem dX9_does_319 : decode cX9_does 319 = .ok (.iload_n 1, 1) := by decide +kernel
theorem dX9_does_320 : decode cX9_does 320 = .ok (.imul, 1) := by decide +kernel
theorem dX9_does_321 : decode cX9_does 321 = .ok (.aload_n 0, 1) := by decide +kernel
theorem dX9_does_322 : decode cX9_does 322 = .ok (.getfield 7, 3) := by decide +kernel
theorem dX9_does_325 : decode cX9_does 325 = .ok (.iload_n 1, 1) := by decide +kernel
theorem dX9_does_326 : decode cX9_does 326 = .ok (.iaload, 1) := by decide +kernel
theorem dX9_does_327 : decode cX9_does 327 = .ok (.iadd, 1) := by decide +kernel
theorem dX9_does_328 : decode cX9_does 328 = .ok (.lconst 0, 1) := by decide +kernel
theorem dX9_does_329 : decode cX9_does 329 = .ok (.lastore, 1) := by decide +kernel
theorem dX9_does_330 : decode cX9_does 330 = .ok (.aload_n 0, 1) := by decide +kernel
theorem dX9_does_331 : decode cX9_does 331 = .ok (.getfield 33, 3) := by decide +kernel
theorem dX9_does_334 : decode cX9_does 334 = .ok (.bipush 40, 2) := by decide +kernel
theorem dX9_does_336 : decode cX9_does 336 = .ok (.iload_n 1, 1) := by decide +kernel
theorem dX9_does_337 : decode cX9_does 337 = .ok (.imul, 1) := by decide +kernel
theorem dX9_does_338 : decode cX9_does 338 = .ok (.aload_n 0, 1) := by decide +kernel
theorem dX9_does_339 : decode cX9_does 339 = .ok (.getfield 7, 3) := by decide +kernel
theorem dX9_does_342 : decode cX9_does 342 = .ok (.iload_n 1, 1) := by decide +kernel
theorem dX9_does_343 : decode cX9_does 343 = .ok (.iaload, 1) := by decide +kernel
theorem dX9_does_344 : decode cX9_does 344 = .ok (.iadd, 1) := by decide +kernel
theorem dX9_does_345 : decode cX9_does 345 = .ok (.lconst 0, 1) := by decide +kernel
theorem dX9_does_346 : decode cX9_does 346 = .ok (.lastore, 1) := by decide +kernel
theorem dX9_does_347 : decode cX9_does 347 = .ok (.aload_n 0, 1) := by decide +kernel
theorem dX9_does_348 : decode cX9_does 348 = .ok (.getfield 36, 3) := by decide +kernel
theorem dX9_does_351 : decode cX9_does 351 = .ok (.bipush 40, 2) := by decide +kernel
theorem dX9_does_353 : decode cX9_does 353 = .ok (.iload_n 1, 1) := by decide +kernel
theorem dX9_does_354 : decode cX9_does 354 = .ok (.imul, 1) := by decide +kernel
theorem dX9_does_355 : decode cX9_does 355 = .ok (.aload_n 0, 1) := by decide +kernel
theorem dX9_does_356 : decode cX9_does 356 = .ok (.getfield 7, 3) := by decide +kernel
theorem dX9_does_359 : decode cX9_does 359 = .ok (.iload_n 1, 1) := by decide +kernel
theorem dX9_does_360 : decode cX9_does 360 = .ok (.iaload, 1) := by decide +kernel
theorem dX9_does_361 : decode cX9_does 361 = .ok (.iadd, 1) := by decide +kernel
theorem dX9_does_362 : decode cX9_does 362 = .ok (.lconst 0, 1) := by decide +kernel
theorem dX9_does_363 : decode cX9_does 363 = .ok (.lastore, 1) := by decide +kernel
theorem dX9_does_364 : decode cX9_does 364 = .ok (.aload_n 0, 1) := by decide +kernel
theorem dX9_does_365 : decode cX9_does 365 = .ok (.getfield 7, 3) := by decide +kernel
theorem dX9_does_368 : decode cX9_does 368 = .ok (.iload_n 1, 1) := by decide +kernel
theorem dX9_does_369 : decode cX9_does 369 = .ok (.dup2, 1) := by decide +kernel
theorem dX9_does_370 : decode cX9_does 370 = .ok (.iaload, 1) := by decide +kernel
theorem dX9_does_371 : decode cX9_does 371 = .ok (.iconst 1, 1) := by decide +kernel
theorem dX9_does_372 : decode cX9_does 372 = .ok (.iadd, 1) := by decide +kernel
theorem dX9_does_373 : decode cX9_does 373 = .ok (.iastore, 1) := by decide +kernel
theorem dX9_does_374 : decode cX9_does 374 = .ok (.aload_n 0, 1) := by decide +kernel
theorem dX9_does_375 : decode cX9_does 375 = .ok (.getfield 13, 3) := by decide +kernel
theorem dX9_does_378 : decode cX9_does 378 = .ok (.iload_n 1, 1) := by decide +kernel
theorem dX9_does_379 : decode cX9_does 379 = .ok (.dup2, 1) := by decide +kernel
theorem dX9_does_380 : decode cX9_does 380 = .ok (.iaload, 1) := by decide +kernel
theorem dX9_does_381 : decode cX9_does 381 = .ok (.iconst 1, 1) := by decide +kernel
theorem dX9_does_382 : decode cX9_does 382 = .ok (.iadd, 1) := by decide +kernel
theorem dX9_does_383 : decode cX9_does 383 = .ok (.iastore, 1) := by decide +kernel
theorem dX9_does_384 : decode cX9_does 384 = .ok (.aload_n 0, 1) := by decide +kernel
theorem dX9_does_385 : decode cX9_does 385 = .ok (.getfield 217, 3) := by decide +kernel
theorem dX9_does_388 : decode cX9_does 388 = .ok (.iconst 2, 1) := by decide +kernel
theorem dX9_does_389 : decode cX9_does 389 = .ok (.if_icmp .eq 20, 3) := by decide +kernel
theorem dX9_does_392 : decode cX9_does 392 = .ok (.aload_n 0, 1) := by decide +kernel
theorem dX9_does_393 : decode cX9_does 393 = .ok (.getfield 217, 3) := by decide +kernel
theorem dX9_does_396 : decode cX9_does 396 = .ok (.iconst 5, 1) := by decide +kernel
theorem dX9_does_397 : decode cX9_does 397 = .ok (.if_icmp .eq 12, 3) := by decide +kernel
theorem dX9_does_400 : decode cX9_does 400 = .ok (.aload_n 0, 1) := by decide +kernel
theorem dX9_does_401 : decode cX9_does 401 = .ok (.getfield 217, 3) := by decide +kernel
theorem dX9_does_404 : decode cX9_does 404 = .ok (.bipush 6, 2) := by decide +kernel
theorem dX9_does_406 : decode cX9_does 406 = .ok (.if_icmp .ne 13, 3) := by decide +kernel
theorem dX9_does_409 : decode cX9_does 409 = .ok (.aload_n 0, 1) := by decide +kernel
theorem dX9_does_410 : decode cX9_does 410 = .ok (.getfield 19, 3) := by decide +kernel
theorem dX9_does_413 : decode cX9_does 413 = .ok (.iload_n 1, 1) := by decide +kernel
theorem dX9_does_414 : decode cX9_does 414 = .ok (.dup2, 1) := by decide +kernel
theorem dX9_does_415 : decode cX9_does 415 = .ok (.iaload, 1) := by decide +kernel
theorem dX9_does_416 : decode cX9_does 416 = .ok (.iconst 1, 1) := by decide +kernel
theorem dX9_does_417 : decode cX9_does 417 = .ok (.iadd, 1) := by decide +kernel
theorem dX9_does_418 : decode cX9_does 418 = .ok (.iastore, 1) := by decide +kernel
theorem dX9_does_419 : decode cX9_does 419 = .ok (.aload_n 0, 1) := by decide +kernel
theorem dX9_does_420 : decode cX9_does 420 = .ok (.getfield 217, 3) := by decide +kernel
theorem dX9_does_423 : decode cX9_does 423 = .ok (.bipush 7, 2) := by decide +kernel
theorem dX9_does_425 : decode cX9_does 425 = .ok (.if_icmp .ne 10, 3) := by decide +kernel
theorem dX9_does_428 : decode cX9_does 428 = .ok (.aload_n 0, 1) := by decide +kernel
theorem dX9_does_429 : decode cX9_does 429 = .ok (.getfield 19, 3) := by decide +kernel
theorem dX9_does_432 : decode cX9_does 432 = .ok (.iload_n 1, 1) := by decide +kernel
theorem dX9_does_433 : decode cX9_does 433 = .ok (.iconst 0, 1) := by decide +kernel
theorem dX9_does_434 : decode cX9_does 434 = .ok (.iastore, 1) := by decide +kernel
theorem dX9_does_435 : decode cX9_does 435 = .ok (.aload_n 0, 1) := by decide +kernel
theorem dX9_does_436 : decode cX9_does 436 = .ok (.getfield 22, 3) := by decide +kernel
theorem dX9_does_439 : decode cX9_does 439 = .ok (.iload_n 1, 1) := by decide +kernel
theorem dX9_does_440 : decode cX9_does 440 = .ok (.aload_n 0, 1) := by decide +kernel
theorem dX9_does_441 : decode cX9_does 441 = .ok (.getfield 16, 3) := by decide +kernel
theorem dX9_does_444 : decode cX9_does 444 = .ok (.iload_n 1, 1) := by decide +kernel
theorem dX9_does_445 : decode cX9_does 445 = .ok (.iaload, 1) := by decide +kernel
theorem dX9_does_446 : decode cX9_does 446 = .ok (.ifCond .le 34, 3) := by decide +kernel
theorem dX9_does_449 : decode cX9_does 449 = .ok (.aload_n 0, 1) := by decide +kernel
theorem dX9_does_450 : decode cX9_does 450 = .ok (.getfield 19, 3) := by decide +kernel
theorem dX9_does_453 : decode cX9_does 453 = .ok (.iload_n 1, 1) := by decide +kernel
theorem dX9_does_454 : decode cX9_does 454 = .ok (.iaload, 1) := by decide +kernel
theorem dX9_does_455 : decode cX9_does 455 = .ok (.aload_n 0, 1) := by decide +kernel
theorem dX9_does_456 : decode cX9_does 456 = .ok (.getfield 16, 3) := by decide +kernel
theorem dX9_does_459 : decode cX9_does 459 = .ok (.iload_n 1, 1) := by decide +kernel
theorem dX9_does_460 : decode cX9_does 460 = .ok (.iaload, 1) := by decide +kernel
theorem dX9_does_461 : decode cX9_does 461 = .ok (.if_icmp .lt 19, 3) := by decide +kernel
theorem dX9_does_464 : decode cX9_does 464 = .ok (.aload_n 0, 1) := by decide +kernel
theorem dX9_does_465 : decode cX9_does 465 = .ok (.getfield 13, 3) := by decide +kernel
theorem dX9_does_468 : decode cX9_does 468 = .ok (.iload_n 1, 1) := by decide +kernel
theorem dX9_does_469 : decode cX9_does 469 = .ok (.iaload, 1) := by decide +kernel
theorem dX9_does_470 : decode cX9_does 470 = .ok (.sipush 200, 3) := by decide +kernel
theorem dX9_does_473 : decode cX9_does 473 = .ok (.if_icmp .ge 7, 3) := by decide +kernel
theorem dX9_does_476 : decode cX9_does 476 = .ok (.iconst 1, 1) := by decide +kernel
theorem dX9_does_477 : decode cX9_does 477 = .ok (.goto 4, 3) := by decide +kernel
theorem dX9_does_480 : decode cX9_does 480 = .ok (.iconst 0, 1) := by decide +kernel
theorem dX9_does_481 : decode cX9_does 481 = .ok (.bastore, 1) := by decide +kernel
theorem dX9_does_482 : decode cX9_does 482 = .ok (.iload_n 2, 1) := by decide +kernel
theorem dX9_does_483 : decode cX9_does 483 = .ok (.ireturn, 1) := by decide +kernel
theorem dX9_trial_0 : decode cX9_trial 0 = .ok (.aload_n 0, 1) := by decide +kernel
theorem dX9_trial_1 : decode cX9_trial 1 = .ok (.bipush 7, 2) := by decide +kernel
theorem dX9_trial_3 : decode cX9_trial 3 = .ok (.lconst 0, 1) := by decide +kernel
theorem dX9_trial_4 : decode cX9_trial 4 = .ok (.invokevirtual 281, 3) := by decide +kernel
theorem dX9_trial_7 : decode cX9_trial 7 = .ok (.aload_n 0, 1) := by decide +kernel
theorem dX9_trial_8 : decode cX9_trial 8 = .ok (.aload_n 0, 1) := by decide +kernel
theorem dX9_trial_9 : decode cX9_trial 9 = .ok (.getfield 7, 3) := by decide +kernel
theorem dX9_trial_12 : decode cX9_trial 12 = .ok (.iload_n 1, 1) := by decide +kernel
theorem dX9_trial_13 : decode cX9_trial 13 = .ok (.iaload, 1) := by decide +kernel
theorem dX9_trial_14 : decode cX9_trial 14 = .ok (.invokevirtual 240, 3) := by decide +kernel
theorem dX9_trial_17 : decode cX9_trial 17 = .ok (.lconst 0, 1) := by decide +kernel
theorem dX9_trial_18 : decode cX9_trial 18 = .ok (.lstore_n 2, 1) := by decide +kernel
theorem dX9_trial_19 : decode cX9_trial 19 = .ok (.lconst 0, 1) := by decide +kernel
theorem dX9_trial_20 : decode cX9_trial 20 = .ok (.lstore 4, 2) := by decide +kernel
theorem dX9_trial_22 : decode cX9_trial 22 = .ok (.iconst 0, 1) := by decide +kernel
theorem dX9_trial_23 : decode cX9_trial 23 = .ok (.istore 6, 2) := by decide +kernel
theorem dX9_trial_25 : decode cX9_trial 25 = .ok (.iload 6, 2) := by decide +kernel
theorem dX9_trial_27 : decode cX9_trial 27 = .ok (.aload_n 0, 1) := by decide +kernel
theorem dX9_trial_28 : decode cX9_trial 28 = .ok (.getfield 7, 3) := by decide +kernel
theorem dX9_trial_31 : decode cX9_trial 31 = .ok (.iload_n 1, 1) := by decide +kernel
theorem dX9_trial_32 : decode cX9_trial 32 = .ok (.iaload, 1) := by decide +kernel
theorem dX9_trial_33 : decode cX9_trial 33 = .ok (.if_icmp .ge 52, 3) := by decide +kernel
theorem dX9_trial_36 : decode cX9_trial 36 = .ok (.aload_n 0, 1) := by decide +kernel
theorem dX9_trial_37 : decode cX9_trial 37 = .ok (.getfield 30, 3) := by decide +kernel
theorem dX9_trial_40 : decode cX9_trial 40 = .ok (.bipush 40, 2) := by decide +kernel
theorem dX9_trial_42 : decode cX9_trial 42 = .ok (.iload_n 1, 1) := by decide +kernel
theorem dX9_trial_43 : decode cX9_trial 43 = .ok (.imul, 1) := by decide +kernel
theorem dX9_trial_44 : decode cX9_trial 44 = .ok (.iload 6, 2) := by decide +kernel
theorem dX9_trial_46 : decode cX9_trial 46 = .ok (.iadd, 1) := by decide +kernel
theorem dX9_trial_47 : decode cX9_trial 47 = .ok (.laload, 1) := by decide +kernel
theorem dX9_trial_48 : decode cX9_trial 48 = .ok (.lstore 7, 2) := by decide +kernel
theorem dX9_trial_50 : decode cX9_trial 50 = .ok (.lload 7, 2) := by decide +kernel
theorem dX9_trial_52 : decode cX9_trial 52 = .ok (.lconst 0, 1) := by decide +kernel
theorem dX9_trial_53 : decode cX9_trial 53 = .ok (.lcmp, 1) := by decide +kernel
theorem dX9_trial_54 : decode cX9_trial 54 = .ok (.ifCond .gt 6, 3) := by decide +kernel
theorem dX9_trial_57 : decode cX9_trial 57 = .ok (.goto 22, 3) := by decide +kernel
theorem dX9_trial_60 : decode cX9_trial 60 = .ok (.lload_n 2, 1) := by decide +kernel
theorem dX9_trial_61 : decode cX9_trial 61 = .ok (.lload 7, 2) := by decide +kernel
theorem dX9_trial_63 : decode cX9_trial 63 = .ok (.bipush 32, 2) := by decide +kernel
theorem dX9_trial_65 : decode cX9_trial 65 = .ok (.lshr, 1) := by decide +kernel
theorem dX9_trial_66 : decode cX9_trial 66 = .ok (.ladd, 1) := by decide +kernel
theorem dX9_trial_67 : decode cX9_trial 67 = .ok (.lstore_n 2, 1) := by decide +kernel
theorem dX9_trial_68 : decode cX9_trial 68 = .ok (.lload 4, 2) := by decide +kernel
theorem dX9_trial_70 : decode cX9_trial 70 = .ok (.lload 7, 2) := by decide +kernel
theorem dX9_trial_72 : decode cX9_trial 72 = .ok (.ldc2_w 261, 3) := by decide +kernel
theorem dX9_trial_75 : decode cX9_trial 75 = .ok (.land, 1) := by decide +kernel
theorem dX9_trial_76 : decode cX9_trial 76 = .ok (.ladd, 1) := by decide +kernel
theorem dX9_trial_77 : decode cX9_trial 77 = .ok (.lstore 4, 2) := by decide +kernel
theorem dX9_trial_79 : decode cX9_trial 79 = .ok (.iinc 6 1, 3) := by decide +kernel
theorem dX9_trial_82 : decode cX9_trial 82 = .ok (.goto (-57), 3) := by decide +kernel
theorem dX9_trial_85 : decode cX9_trial 85 = .ok (.lload_n 2, 1) := by decide +kernel
theorem dX9_trial_86 : decode cX9_trial 86 = .ok (.lload 4, 2) := by decide +kernel
theorem dX9_trial_88 : decode cX9_trial 88 = .ok (.bipush 32, 2) := by decide +kernel
theorem dX9_trial_90 : decode cX9_trial 90 = .ok (.lshr, 1) := by decide +kernel
theorem dX9_trial_91 : decode cX9_trial 91 = .ok (.ladd, 1) := by decide +kernel
theorem dX9_trial_92 : decode cX9_trial 92 = .ok (.lstore_n 2, 1) := by decide +kernel
theorem dX9_trial_93 : decode cX9_trial 93 = .ok (.lload 4, 2) := by decide +kernel
theorem dX9_trial_95 : decode cX9_trial 95 = .ok (.ldc2_w 261, 3) := by decide +kernel
theorem dX9_trial_98 : decode cX9_trial 98 = .ok (.land, 1) := by decide +kernel
theorem dX9_trial_99 : decode cX9_trial 99 = .ok (.lstore 4, 2) := by decide +kernel
theorem dX9_trial_101 : decode cX9_trial 101 = .ok (.iconst 0, 1) := by decide +kernel
theorem dX9_trial_102 : decode cX9_trial 102 = .ok (.istore 6, 2) := by decide +kernel
theorem dX9_trial_104 : decode cX9_trial 104 = .ok (.iload 6, 2) := by decide +kernel
theorem dX9_trial_106 : decode cX9_trial 106 = .ok (.iconst 4, 1) := by decide +kernel
theorem dX9_trial_107 : decode cX9_trial 107 = .ok (.if_icmp .ge 14, 3) := by decide +kernel
theorem dX9_trial_110 : decode cX9_trial 110 = .ok (.aload_n 0, 1) := by decide +kernel
theorem dX9_trial_111 : decode cX9_trial 111 = .ok (.iconst 0, 1) := by decide +kernel
theorem dX9_trial_112 : decode cX9_trial 112 = .ok (.invokevirtual 240, 3) := by decide +kernel
theorem dX9_trial_115 : decode cX9_trial 115 = .ok (.iinc 6 1, 3) := by decide +kernel
theorem dX9_trial_118 : decode cX9_trial 118 = .ok (.goto (-14), 3) := by decide +kernel
theorem dX9_trial_121 : decode cX9_trial 121 = .ok (.aload_n 0, 1) := by decide +kernel
theorem dX9_trial_122 : decode cX9_trial 122 = .ok (.lload_n 2, 1) := by decide +kernel
theorem dX9_trial_123 : decode cX9_trial 123 = .ok (.invokevirtual 244, 3) := by decide +kernel
theorem dX9_trial_126 : decode cX9_trial 126 = .ok (.bipush 24, 2) := by decide +kernel
theorem dX9_trial_128 : decode cX9_trial 128 = .ok (.istore 6, 2) := by decide +kernel
theorem dX9_trial_130 : decode cX9_trial 130 = .ok (.iload 6, 2) := by decide +kernel
theorem dX9_trial_132 : decode cX9_trial 132 = .ok (.ifCond .lt 23, 3) := by decide +kernel
theorem dX9_trial_135 : decode cX9_trial 135 = .ok (.aload_n 0, 1) := by decide +kernel
theorem dX9_trial_136 : decode cX9_trial 136 = .ok (.lload 4, 2) := by decide +kernel
theorem dX9_trial_138 : decode cX9_trial 138 = .ok (.iload 6, 2) := by decide +kernel
theorem dX9_trial_140 : decode cX9_trial 140 = .ok (.lshr, 1) := by decide +kernel
theorem dX9_trial_141 : decode cX9_trial 141 = .ok (.ldc2_w 248, 3) := by decide +kernel
theorem dX9_trial_144 : decode cX9_trial 144 = .ok (.land, 1) := by decide +kernel
theorem dX9_trial_145 : decode cX9_trial 145 = .ok (.l2i, 1) := by decide +kernel
theorem dX9_trial_146 : decode cX9_trial 146 = .ok (.invokevirtual 240, 3) := by decide +kernel
theorem dX9_trial_149 : decode cX9_trial 149 = .ok (.iinc 6 (-8), 3) := by decide +kernel
theorem dX9_trial_152 : decode cX9_trial 152 = .ok (.goto (-22), 3) := by decide +kernel
theorem dX9_trial_155 : decode cX9_trial 155 = .ok (.return_, 1) := by decide +kernel
theorem dX9_writes_0 : decode cX9_writes 0 = .ok (.aload_n 0, 1) := by decide +kernel
theorem dX9_writes_1 : decode cX9_writes 1 = .ok (.getfield 13, 3) := by decide +kernel
theorem dX9_writes_4 : decode cX9_writes 4 = .ok (.iconst 0, 1) := by decide +kernel
theorem dX9_writes_5 : decode cX9_writes 5 = .ok (.iaload, 1) := by decide +kernel
theorem dX9_writes_6 : decode cX9_writes 6 = .ok (.istore_n 1, 1) := by decide +kernel
theorem dX9_writes_7 : decode cX9_writes 7 = .ok (.aload_n 0, 1) := by decide +kernel
theorem dX9_writes_8 : decode cX9_writes 8 = .ok (.getfield 72, 3) := by decide +kernel
theorem dX9_writes_11 : decode cX9_writes 11 = .ok (.iload_n 1, 1) := by decide +kernel
theorem dX9_writes_12 : decode cX9_writes 12 = .ok (.aload_n 0, 1) := by decide +kernel
theorem dX9_writes_13 : decode cX9_writes 13 = .ok (.getfield 285, 3) := by decide +kernel
theorem dX9_writes_16 : decode cX9_writes 16 = .ok (.iastore, 1) := by decide +kernel
theorem dX9_writes_17 : decode cX9_writes 17 = .ok (.aload_n 0, 1) := by decide +kernel
theorem dX9_writes_18 : decode cX9_writes 18 = .ok (.getfield 75, 3) := by decide +kernel
theorem dX9_writes_21 : decode cX9_writes 21 = .ok (.iload_n 1, 1) := by decide +kernel
theorem dX9_writes_22 : decode cX9_writes 22 = .ok (.aload_n 0, 1) := by decide +kernel
theorem dX9_writes_23 : decode cX9_writes 23 = .ok (.getfield 237, 3) := by decide +kernel
theorem dX9_writes_26 : decode cX9_writes 26 = .ok (.iastore, 1) := by decide +kernel
theorem dX9_writes_27 : decode cX9_writes 27 = .ok (.iconst 0, 1) := by decide +kernel
theorem dX9_writes_28 : decode cX9_writes 28 = .ok (.istore_n 2, 1) := by decide +kernel
theorem dX9_writes_29 : decode cX9_writes 29 = .ok (.iload_n 2, 1) := by decide +kernel
theorem dX9_writes_30 : decode cX9_writes 30 = .ok (.aload_n 0, 1) := by decide +kernel
theorem dX9_writes_31 : decode cX9_writes 31 = .ok (.getfield 237, 3) := by decide +kernel
theorem dX9_writes_34 : decode cX9_writes 34 = .ok (.if_icmp .ge 49, 3) := by decide +kernel
theorem dX9_writes_37 : decode cX9_writes 37 = .ok (.aload_n 0, 1) := by decide +kernel
theorem dX9_writes_38 : decode cX9_writes 38 = .ok (.getfield 66, 3) := by decide +kernel
theorem dX9_writes_41 : decode cX9_writes 41 = .ok (.aload_n 0, 1) := by decide +kernel
theorem dX9_writes_42 : decode cX9_writes 42 = .ok (.getfield 285, 3) := by decide +kernel
theorem dX9_writes_45 : decode cX9_writes 45 = .ok (.aload_n 0, 1) := by decide +kernel
theorem dX9_writes_46 : decode cX9_writes 46 = .ok (.getfield 90, 3) := by decide +kernel
theorem dX9_writes_49 : decode cX9_writes 49 = .ok (.iload_n 2, 1) := by decide +kernel
theorem dX9_writes_50 : decode cX9_writes 50 = .ok (.iaload, 1) := by decide +kernel
theorem dX9_writes_51 : decode cX9_writes 51 = .ok (.iastore, 1) := by decide +kernel
theorem dX9_writes_52 : decode cX9_writes 52 = .ok (.aload_n 0, 1) := by decide +kernel
theorem dX9_writes_53 : decode cX9_writes 53 = .ok (.getfield 69, 3) := by decide +kernel
theorem dX9_writes_56 : decode cX9_writes 56 = .ok (.aload_n 0, 1) := by decide +kernel
theorem dX9_writes_57 : decode cX9_writes 57 = .ok (.getfield 285, 3) := by decide +kernel
theorem dX9_writes_60 : decode cX9_writes 60 = .ok (.aload_n 0, 1) := by decide +kernel
theorem dX9_writes_61 : decode cX9_writes 61 = .ok (.getfield 90, 3) := by decide +kernel
theorem dX9_writes_64 : decode cX9_writes 64 = .ok (.iload_n 2, 1) := by decide +kernel
theorem dX9_writes_65 : decode cX9_writes 65 = .ok (.iaload, 1) := by decide +kernel
theorem dX9_writes_66 : decode cX9_writes 66 = .ok (.iastore, 1) := by decide +kernel
theorem dX9_writes_67 : decode cX9_writes 67 = .ok (.aload_n 0, 1) := by decide +kernel
theorem dX9_writes_68 : decode cX9_writes 68 = .ok (.dup, 1) := by decide +kernel
theorem dX9_writes_69 : decode cX9_writes 69 = .ok (.getfield 285, 3) := by decide +kernel
theorem dX9_writes_72 : decode cX9_writes 72 = .ok (.iconst 1, 1) := by decide +kernel
theorem dX9_writes_73 : decode cX9_writes 73 = .ok (.iadd, 1) := by decide +kernel
theorem dX9_writes_74 : decode cX9_writes 74 = .ok (.putfield 285, 3) := by decide +kernel
theorem dX9_writes_77 : decode cX9_writes 77 = .ok (.iinc 2 1, 3) := by decide +kernel
theorem dX9_writes_80 : decode cX9_writes 80 = .ok (.goto (-51), 3) := by decide +kernel
theorem dX9_writes_83 : decode cX9_writes 83 = .ok (.return_, 1) := by decide +kernel
theorem dX9_calls_0 : decode cX9_calls 0 = .ok (.aload_n 0, 1) := by decide +kernel
theorem dX9_calls_1 : decode cX9_calls 1 = .ok (.iconst 0, 1) := by decide +kernel
theorem dX9_calls_2 : decode cX9_calls 2 = .ok (.aload_n 0, 1) := by decide +kernel
theorem dX9_calls_3 : decode cX9_calls 3 = .ok (.getfield 221, 3) := by decide +kernel
theorem dX9_calls_6 : decode cX9_calls 6 = .ok (.invokevirtual 288, 3) := by decide +kernel
theorem dX9_calls_9 : decode cX9_calls 9 = .ok (.istore_n 1, 1) := by decide +kernel
theorem dX9_calls_10 : decode cX9_calls 10 = .ok (.iload_n 1, 1) := by decide +kernel
theorem dX9_calls_11 : decode cX9_calls 11 = .ok (.iconst (-1), 1) := by decide +kernel
theorem dX9_calls_12 : decode cX9_calls 12 = .ok (.if_icmp .eq 18, 3) := by decide +kernel
theorem dX9_calls_15 : decode cX9_calls 15 = .ok (.aload_n 0, 1) := by decide +kernel
theorem dX9_calls_16 : decode cX9_calls 16 = .ok (.iload_n 1, 1) := by decide +kernel
theorem dX9_calls_17 : decode cX9_calls 17 = .ok (.invokevirtual 292, 3) := by decide +kernel
theorem dX9_calls_20 : decode cX9_calls 20 = .ok (.ifCond .eq 7, 3) := by decide +kernel
theorem dX9_calls_23 : decode cX9_calls 23 = .ok (.iload_n 1, 1) := by decide +kernel
theorem dX9_calls_24 : decode cX9_calls 24 = .ok (.goto 5, 3) := by decide +kernel
theorem dX9_calls_27 : decode cX9_calls 27 = .ok (.bipush (-4), 2) := by decide +kernel
theorem dX9_calls_29 : decode cX9_calls 29 = .ok (.ireturn, 1) := by decide +kernel
theorem dX9_calls_30 : decode cX9_calls 30 = .ok (.aload_n 0, 1) := by decide +kernel
theorem dX9_calls_31 : decode cX9_calls 31 = .ok (.iconst 0, 1) := by decide +kernel
theorem dX9_calls_32 : decode cX9_calls 32 = .ok (.invokevirtual 295, 3) := by decide +kernel
theorem dX9_calls_35 : decode cX9_calls 35 = .ok (.istore_n 2, 1) := by decide +kernel
theorem dX9_calls_36 : decode cX9_calls 36 = .ok (.iload_n 2, 1) := by decide +kernel
theorem dX9_calls_37 : decode cX9_calls 37 = .ok (.ifCond .eq 5, 3) := by decide +kernel
theorem dX9_calls_40 : decode cX9_calls 40 = .ok (.iload_n 2, 1) := by decide +kernel
theorem dX9_calls_41 : decode cX9_calls 41 = .ok (.ireturn, 1) := by decide +kernel
theorem dX9_calls_42 : decode cX9_calls 42 = .ok (.aload_n 0, 1) := by decide +kernel
theorem dX9_calls_43 : decode cX9_calls 43 = .ok (.invokevirtual 299, 3) := by decide +kernel
theorem dX9_calls_46 : decode cX9_calls 46 = .ok (.aload_n 0, 1) := by decide +kernel
theorem dX9_calls_47 : decode cX9_calls 47 = .ok (.iconst 0, 1) := by decide +kernel
theorem dX9_calls_48 : decode cX9_calls 48 = .ok (.invokevirtual 302, 3) := by decide +kernel
theorem dX9_calls_51 : decode cX9_calls 51 = .ok (.istore_n 3, 1) := by decide +kernel
theorem dX9_calls_52 : decode cX9_calls 52 = .ok (.aload_n 0, 1) := by decide +kernel
theorem dX9_calls_53 : decode cX9_calls 53 = .ok (.getfield 22, 3) := by decide +kernel
theorem dX9_calls_56 : decode cX9_calls 56 = .ok (.iconst 0, 1) := by decide +kernel
theorem dX9_calls_57 : decode cX9_calls 57 = .ok (.baload, 1) := by decide +kernel
theorem dX9_calls_58 : decode cX9_calls 58 = .ok (.ifCond .eq 18, 3) := by decide +kernel
theorem dX9_calls_61 : decode cX9_calls 61 = .ok (.aload_n 0, 1) := by decide +kernel
theorem dX9_calls_62 : decode cX9_calls 62 = .ok (.iconst 0, 1) := by decide +kernel
theorem dX9_calls_63 : decode cX9_calls 63 = .ok (.invokevirtual 305, 3) := by decide +kernel
theorem dX9_calls_66 : decode cX9_calls 66 = .ok (.aload_n 0, 1) := by decide +kernel
theorem dX9_calls_67 : decode cX9_calls 67 = .ok (.invokevirtual 299, 3) := by decide +kernel
theorem dX9_calls_70 : decode cX9_calls 70 = .ok (.aload_n 0, 1) := by decide +kernel
theorem dX9_calls_71 : decode cX9_calls 71 = .ok (.iconst 0, 1) := by decide +kernel
theorem dX9_calls_72 : decode cX9_calls 72 = .ok (.invokevirtual 302, 3) := by decide +kernel
theorem dX9_calls_75 : decode cX9_calls 75 = .ok (.pop, 1) := by decide +kernel
theorem dX9_calls_76 : decode cX9_calls 76 = .ok (.iload_n 3, 1) := by decide +kernel
theorem dX9_calls_77 : decode cX9_calls 77 = .ok (.ireturn, 1) := by decide +kernel
theorem dX9_in_0 : decode cX9_in 0 = .ok (.iload_n 0, 1) := by decide +kernel
theorem dX9_in_1 : decode cX9_in 1 = .ok (.iload_n 1, 1) := by decide +kernel
theorem dX9_in_2 : decode cX9_in 2 = .ok (.if_icmp .lt 12, 3) := by decide +kernel
theorem dX9_in_5 : decode cX9_in 5 = .ok (.iload_n 0, 1) := by decide +kernel
theorem dX9_in_6 : decode cX9_in 6 = .ok (.iload_n 2, 1) := by decide +kernel
theorem dX9_in_7 : decode cX9_in 7 = .ok (.if_icmp .gt 7, 3) := by decide +kernel
theorem dX9_in_10 : decode cX9_in 10 = .ok (.iconst 1, 1) := by decide +kernel
theorem dX9_in_11 : decode cX9_in 11 = .ok (.goto 4, 3) := by decide +kernel
theorem dX9_in_14 : decode cX9_in 14 = .ok (.iconst 0, 1) := by decide +kernel
theorem dX9_in_15 : decode cX9_in 15 = .ok (.ireturn, 1) := by decide +kernel
theorem dX9_open_0 : decode cX9_open 0 = .ok (.lload_n 1, 1) := by decide +kernel
theorem dX9_open_1 : decode cX9_open 1 = .ok (.lconst 0, 1) := by decide +kernel
theorem dX9_open_2 : decode cX9_open 2 = .ok (.lcmp, 1) := by decide +kernel
theorem dX9_open_3 : decode cX9_open 3 = .ok (.ifCond .le 6, 3) := by decide +kernel
theorem dX9_open_6 : decode cX9_open 6 = .ok (.bipush (-6), 2) := by decide +kernel
theorem dX9_open_8 : decode cX9_open 8 = .ok (.ireturn, 1) := by decide +kernel
theorem dX9_open_9 : decode cX9_open 9 = .ok (.aload_n 0, 1) := by decide +kernel
theorem dX9_open_10 : decode cX9_open 10 = .ok (.getfield 13, 3) := by decide +kernel
theorem dX9_open_13 : decode cX9_open 13 = .ok (.iconst 0, 1) := by decide +kernel
theorem dX9_open_14 : decode cX9_open 14 = .ok (.iaload, 1) := by decide +kernel
theorem dX9_open_15 : decode cX9_open 15 = .ok (.sipush 200, 3) := by decide +kernel
theorem dX9_open_18 : decode cX9_open 18 = .ok (.if_icmp .ne 6, 3) := by decide +kernel
theorem dX9_open_21 : decode cX9_open 21 = .ok (.bipush (-8), 2) := by decide +kernel
theorem dX9_open_23 : decode cX9_open 23 = .ok (.ireturn, 1) := by decide +kernel
theorem dX9_open_24 : decode cX9_open 24 = .ok (.aload_n 0, 1) := by decide +kernel
theorem dX9_open_25 : decode cX9_open 25 = .ok (.getfield 7, 3) := by decide +kernel
theorem dX9_open_28 : decode cX9_open 28 = .ok (.iconst 0, 1) := by decide +kernel
theorem dX9_open_29 : decode cX9_open 29 = .ok (.iaload, 1) := by decide +kernel
theorem dX9_open_30 : decode cX9_open 30 = .ok (.bipush 40, 2) := by decide +kernel
theorem dX9_open_32 : decode cX9_open 32 = .ok (.if_icmp .ne 5, 3) := by decide +kernel
theorem dX9_open_35 : decode cX9_open 35 = .ok (.iconst (-1), 1) := by decide +kernel
theorem dX9_open_36 : decode cX9_open 36 = .ok (.ireturn, 1) := by decide +kernel
theorem dX9_open_37 : decode cX9_open 37 = .ok (.aload_n 0, 1) := by decide +kernel
theorem dX9_open_38 : decode cX9_open 38 = .ok (.iconst 1, 1) := by decide +kernel
theorem dX9_open_39 : decode cX9_open 39 = .ok (.lconst 0, 1) := by decide +kernel
theorem dX9_open_40 : decode cX9_open 40 = .ok (.invokevirtual 281, 3) := by decide +kernel
theorem dX9_open_43 : decode cX9_open 43 = .ok (.aload_n 0, 1) := by decide +kernel
theorem dX9_open_44 : decode cX9_open 44 = .ok (.lload_n 1, 1) := by decide +kernel
theorem dX9_open_45 : decode cX9_open 45 = .ok (.invokevirtual 244, 3) := by decide +kernel
theorem dX9_open_48 : decode cX9_open 48 = .ok (.aload_n 0, 1) := by decide +kernel
theorem dX9_open_49 : decode cX9_open 49 = .ok (.lload_n 1, 1) := by decide +kernel
theorem dX9_open_50 : decode cX9_open 50 = .ok (.putfield 234, 3) := by decide +kernel
theorem dX9_open_53 : decode cX9_open 53 = .ok (.aload_n 0, 1) := by decide +kernel
theorem dX9_open_54 : decode cX9_open 54 = .ok (.invokevirtual 299, 3) := by decide +kernel
theorem dX9_open_57 : decode cX9_open 57 = .ok (.aload_n 0, 1) := by decide +kernel
theorem dX9_open_58 : decode cX9_open 58 = .ok (.iconst 0, 1) := by decide +kernel
theorem dX9_open_59 : decode cX9_open 59 = .ok (.invokevirtual 302, 3) := by decide +kernel
theorem dX9_open_62 : decode cX9_open 62 = .ok (.pop, 1) := by decide +kernel
theorem dX9_open_63 : decode cX9_open 63 = .ok (.aload_n 0, 1) := by decide +kernel
theorem dX9_open_64 : decode cX9_open 64 = .ok (.getfield 7, 3) := by decide +kernel
theorem dX9_open_67 : decode cX9_open 67 = .ok (.iconst 0, 1) := by decide +kernel
theorem dX9_open_68 : decode cX9_open 68 = .ok (.iaload, 1) := by decide +kernel
theorem dX9_open_69 : decode cX9_open 69 = .ok (.iconst 1, 1) := by decide +kernel
theorem dX9_open_70 : decode cX9_open 70 = .ok (.isub, 1) := by decide +kernel
theorem dX9_open_71 : decode cX9_open 71 = .ok (.ireturn, 1) := by decide +kernel
theorem dX9_leg__0 : decode cX9_leg_ 0 = .ok (.aload_n 0, 1) := by decide +kernel
theorem dX9_leg__1 : decode cX9_leg_ 1 = .ok (.getfield 308, 3) := by decide +kernel
theorem dX9_leg__4 : decode cX9_leg_ 4 = .ok (.bipush 8, 2) := by decide +kernel
theorem dX9_leg__6 : decode cX9_leg_ 6 = .ok (.if_icmp .eq 28, 3) := by decide +kernel
theorem dX9_leg__9 : decode cX9_leg_ 9 = .ok (.iload_n 1, 1) := by decide +kernel
theorem dX9_leg__10 : decode cX9_leg_ 10 = .ok (.iconst 0, 1) := by decide +kernel
theorem dX9_leg__11 : decode cX9_leg_ 11 = .ok (.sipush 255, 3) := by decide +kernel
theorem dX9_leg__14 : decode cX9_leg_ 14 = .ok (.invokestatic 311, 3) := by decide +kernel
theorem dX9_leg__17 : decode cX9_leg_ 17 = .ok (.ifCond .eq 17, 3) := by decide +kernel
theorem dX9_leg__20 : decode cX9_leg_ 20 = .ok (.lload_n 2, 1) := by decide +kernel
theorem dX9_leg__21 : decode cX9_leg_ 21 = .ok (.lconst 0, 1) := by decide +kernel
theorem dX9_leg__22 : decode cX9_leg_ 22 = .ok (.lcmp, 1) := by decide +kernel
theorem dX9_leg__23 : decode cX9_leg_ 23 = .ok (.ifCond .eq 11, 3) := by decide +kernel
theorem dX9_leg__26 : decode cX9_leg_ 26 = .ok (.lload_n 2, 1) := by decide +kernel
theorem dX9_leg__27 : decode cX9_leg_ 27 = .ok (.ldc2_w 315, 3) := by decide +kernel
theorem dX9_leg__30 : decode cX9_leg_ 30 = .ok (.lcmp, 1) := by decide +kernel
theorem dX9_leg__31 : decode cX9_leg_ 31 = .ok (.ifCond .ne 5, 3) := by decide +kernel
theorem dX9_leg__34 : decode cX9_leg_ 34 = .ok (.iconst (-1), 1) := by decide +kernel
theorem dX9_leg__35 : decode cX9_leg_ 35 = .ok (.ireturn, 1) := by decide +kernel
theorem dX9_leg__36 : decode cX9_leg_ 36 = .ok (.aload_n 0, 1) := by decide +kernel
theorem dX9_leg__37 : decode cX9_leg_ 37 = .ok (.getfield 96, 3) := by decide +kernel
theorem dX9_leg__40 : decode cX9_leg_ 40 = .ok (.aload_n 0, 1) := by decide +kernel
theorem dX9_leg__41 : decode cX9_leg_ 41 = .ok (.getfield 308, 3) := by decide +kernel
theorem dX9_leg__44 : decode cX9_leg_ 44 = .ok (.iload_n 1, 1) := by decide +kernel
theorem dX9_leg__45 : decode cX9_leg_ 45 = .ok (.iastore, 1) := by decide +kernel
theorem dX9_leg__46 : decode cX9_leg_ 46 = .ok (.aload_n 0, 1) := by decide +kernel
theorem dX9_leg__47 : decode cX9_leg_ 47 = .ok (.getfield 99, 3) := by decide +kernel
theorem dX9_leg__50 : decode cX9_leg_ 50 = .ok (.aload_n 0, 1) := by decide +kernel
theorem dX9_leg__51 : decode cX9_leg_ 51 = .ok (.getfield 308, 3) := by decide +kernel
theorem dX9_leg__54 : decode cX9_leg_ 54 = .ok (.lload_n 2, 1) := by decide +kernel
theorem dX9_leg__55 : decode cX9_leg_ 55 = .ok (.lastore, 1) := by decide +kernel
theorem dX9_leg__56 : decode cX9_leg_ 56 = .ok (.aload_n 0, 1) := by decide +kernel
theorem dX9_leg__57 : decode cX9_leg_ 57 = .ok (.dup, 1) := by decide +kernel
theorem dX9_leg__58 : decode cX9_leg_ 58 = .ok (.getfield 308, 3) := by decide +kernel
theorem dX9_leg__61 : decode cX9_leg_ 61 = .ok (.iconst 1, 1) := by decide +kernel
theorem dX9_leg__62 : decode cX9_leg_ 62 = .ok (.iadd, 1) := by decide +kernel
theorem dX9_leg__63 : decode cX9_leg_ 63 = .ok (.putfield 308, 3) := by decide +kernel
theorem dX9_leg__66 : decode cX9_leg_ 66 = .ok (.aload_n 0, 1) := by decide +kernel
theorem dX9_leg__67 : decode cX9_leg_ 67 = .ok (.getfield 308, 3) := by decide +kernel
theorem dX9_leg__70 : decode cX9_leg_ 70 = .ok (.ireturn, 1) := by decide +kernel
theorem dX9_clear_0 : decode cX9_clear 0 = .ok (.aload_n 0, 1) := by decide +kernel
theorem dX9_clear_1 : decode cX9_clear 1 = .ok (.getfield 308, 3) := by decide +kernel
theorem dX9_clear_4 : decode cX9_clear 4 = .ok (.istore_n 1, 1) := by decide +kernel
theorem dX9_clear_5 : decode cX9_clear 5 = .ok (.aload_n 0, 1) := by decide +kernel
theorem dX9_clear_6 : decode cX9_clear 6 = .ok (.iconst 0, 1) := by decide +kernel
theorem dX9_clear_7 : decode cX9_clear 7 = .ok (.putfield 308, 3) := by decide +kernel
theorem dX9_clear_10 : decode cX9_clear 10 = .ok (.iload_n 1, 1) := by decide +kernel
theorem dX9_clear_11 : decode cX9_clear 11 = .ok (.ireturn, 1) := by decide +kernel
theorem dX9_post_0 : decode cX9_post 0 = .ok (.aload_n 0, 1) := by decide +kernel
theorem dX9_post_1 : decode cX9_post 1 = .ok (.getfield 308, 3) := by decide +kernel
theorem dX9_post_4 : decode cX9_post 4 = .ok (.ifCond .eq 9, 3) := by decide +kernel
theorem dX9_post_7 : decode cX9_post 7 = .ok (.lload_n 1, 1) := by decide +kernel
theorem dX9_post_8 : decode cX9_post 8 = .ok (.lconst 0, 1) := by decide +kernel
theorem dX9_post_9 : decode cX9_post 9 = .ok (.lcmp, 1) := by decide +kernel
theorem dX9_post_10 : decode cX9_post 10 = .ok (.ifCond .ne 5, 3) := by decide +kernel
theorem dX9_post_13 : decode cX9_post 13 = .ok (.iconst (-1), 1) := by decide +kernel
theorem dX9_post_14 : decode cX9_post 14 = .ok (.ireturn, 1) := by decide +kernel
theorem dX9_post_15 : decode cX9_post 15 = .ok (.aload_n 0, 1) := by decide +kernel
theorem dX9_post_16 : decode cX9_post 16 = .ok (.iconst 2, 1) := by decide +kernel
theorem dX9_post_17 : decode cX9_post 17 = .ok (.lload_n 1, 1) := by decide +kernel
theorem dX9_post_18 : decode cX9_post 18 = .ok (.invokevirtual 281, 3) := by decide +kernel
theorem dX9_post_21 : decode cX9_post 21 = .ok (.aload_n 0, 1) := by decide +kernel
theorem dX9_post_22 : decode cX9_post 22 = .ok (.aload_n 0, 1) := by decide +kernel
theorem dX9_post_23 : decode cX9_post 23 = .ok (.getfield 308, 3) := by decide +kernel
theorem dX9_post_26 : decode cX9_post 26 = .ok (.invokevirtual 240, 3) := by decide +kernel
theorem dX9_post_29 : decode cX9_post 29 = .ok (.iconst 0, 1) := by decide +kernel
theorem dX9_post_30 : decode cX9_post 30 = .ok (.istore_n 3, 1) := by decide +kernel
theorem dX9_post_31 : decode cX9_post 31 = .ok (.iload_n 3, 1) := by decide +kernel
theorem dX9_post_32 : decode cX9_post 32 = .ok (.aload_n 0, 1) := by decide +kernel
theorem dX9_post_33 : decode cX9_post 33 = .ok (.getfield 308, 3) := by decide +kernel
theorem dX9_post_36 : decode cX9_post 36 = .ok (.if_icmp .ge 46, 3) := by decide +kernel
theorem dX9_post_39 : decode cX9_post 39 = .ok (.aload_n 0, 1) := by decide +kernel
theorem dX9_post_40 : decode cX9_post 40 = .ok (.aload_n 0, 1) := by decide +kernel
theorem dX9_post_41 : decode cX9_post 41 = .ok (.getfield 96, 3) := by decide +kernel
theorem dX9_post_44 : decode cX9_post 44 = .ok (.iload_n 3, 1) := by decide +kernel
theorem dX9_post_45 : decode cX9_post 45 = .ok (.iaload, 1) := by decide +kernel
theorem dX9_post_46 : decode cX9_post 46 = .ok (.aload_n 0, 1) := by decide +kernel
theorem dX9_post_47 : decode cX9_post 47 = .ok (.getfield 99, 3) := by decide +kernel
theorem dX9_post_50 : decode cX9_post 50 = .ok (.iload_n 3, 1) := by decide +kernel
theorem dX9_post_51 : decode cX9_post 51 = .ok (.laload, 1) := by decide +kernel
theorem dX9_post_52 : decode cX9_post 52 = .ok (.iload_n 3, 1) := by decide +kernel
theorem dX9_post_53 : decode cX9_post 53 = .ok (.invokevirtual 257, 3) := by decide +kernel
theorem dX9_post_56 : decode cX9_post 56 = .ok (.aload_n 0, 1) := by decide +kernel
theorem dX9_post_57 : decode cX9_post 57 = .ok (.aload_n 0, 1) := by decide +kernel
theorem dX9_post_58 : decode cX9_post 58 = .ok (.getfield 96, 3) := by decide +kernel
theorem dX9_post_61 : decode cX9_post 61 = .ok (.iload_n 3, 1) := by decide +kernel
theorem dX9_post_62 : decode cX9_post 62 = .ok (.iaload, 1) := by decide +kernel
theorem dX9_post_63 : decode cX9_post 63 = .ok (.invokevirtual 240, 3) := by decide +kernel
theorem dX9_post_66 : decode cX9_post 66 = .ok (.aload_n 0, 1) := by decide +kernel
theorem dX9_post_67 : decode cX9_post 67 = .ok (.aload_n 0, 1) := by decide +kernel
theorem dX9_post_68 : decode cX9_post 68 = .ok (.getfield 99, 3) := by decide +kernel
theorem dX9_post_71 : decode cX9_post 71 = .ok (.iload_n 3, 1) := by decide +kernel
theorem dX9_post_72 : decode cX9_post 72 = .ok (.laload, 1) := by decide +kernel
theorem dX9_post_73 : decode cX9_post 73 = .ok (.invokevirtual 244, 3) := by decide +kernel
theorem dX9_post_76 : decode cX9_post 76 = .ok (.iinc 3 1, 3) := by decide +kernel
theorem dX9_post_79 : decode cX9_post 79 = .ok (.goto (-48), 3) := by decide +kernel
theorem dX9_post_82 : decode cX9_post 82 = .ok (.aload_n 0, 1) := by decide +kernel
theorem dX9_post_83 : decode cX9_post 83 = .ok (.invokevirtual 317, 3) := by decide +kernel
theorem dX9_post_86 : decode cX9_post 86 = .ok (.istore_n 3, 1) := by decide +kernel
theorem dX9_post_87 : decode cX9_post 87 = .ok (.iload_n 3, 1) := by decide +kernel
theorem dX9_post_88 : decode cX9_post 88 = .ok (.ifCond .lt 8, 3) := by decide +kernel
theorem dX9_post_91 : decode cX9_post 91 = .ok (.aload_n 0, 1) := by decide +kernel
theorem dX9_post_92 : decode cX9_post 92 = .ok (.iconst 0, 1) := by decide +kernel
theorem dX9_post_93 : decode cX9_post 93 = .ok (.putfield 308, 3) := by decide +kernel
theorem dX9_post_96 : decode cX9_post 96 = .ok (.iload_n 3, 1) := by decide +kernel
theorem dX9_post_97 : decode cX9_post 97 = .ok (.ireturn, 1) := by decide +kernel
theorem dX9_hold__0 : decode cX9_hold_ 0 = .ok (.lload_n 1, 1) := by decide +kernel
theorem dX9_hold__1 : decode cX9_hold_ 1 = .ok (.lconst 0, 1) := by decide +kernel
theorem dX9_hold__2 : decode cX9_hold_ 2 = .ok (.lcmp, 1) := by decide +kernel
theorem dX9_hold__3 : decode cX9_hold_ 3 = .ok (.ifCond .eq 21, 3) := by decide +kernel
theorem dX9_hold__6 : decode cX9_hold_ 6 = .ok (.iload_n 3, 1) := by decide +kernel
theorem dX9_hold__7 : decode cX9_hold_ 7 = .ok (.iconst 0, 1) := by decide +kernel
theorem dX9_hold__8 : decode cX9_hold_ 8 = .ok (.sipush 255, 3) := by decide +kernel
theorem dX9_hold__11 : decode cX9_hold_ 11 = .ok (.invokestatic 311, 3) := by decide +kernel
theorem dX9_hold__14 : decode cX9_hold_ 14 = .ok (.ifCond .eq 10, 3) := by decide +kernel
theorem dX9_hold__17 : decode cX9_hold_ 17 = .ok (.lload 4, 2) := by decide +kernel
theorem dX9_hold__19 : decode cX9_hold_ 19 = .ok (.lconst 0, 1) := by decide +kernel
theorem dX9_hold__20 : decode cX9_hold_ 20 = .ok (.lcmp, 1) := by decide +kernel
theorem dX9_hold__21 : decode cX9_hold_ 21 = .ok (.ifCond .gt 5, 3) := by decide +kernel
theorem dX9_hold__24 : decode cX9_hold_ 24 = .ok (.iconst (-1), 1) := by decide +kernel
theorem dX9_hold__25 : decode cX9_hold_ 25 = .ok (.ireturn, 1) := by decide +kernel
theorem dX9_hold__26 : decode cX9_hold_ 26 = .ok (.aload_n 0, 1) := by decide +kernel
theorem dX9_hold__27 : decode cX9_hold_ 27 = .ok (.iconst 3, 1) := by decide +kernel
theorem dX9_hold__28 : decode cX9_hold_ 28 = .ok (.lload_n 1, 1) := by decide +kernel
theorem dX9_hold__29 : decode cX9_hold_ 29 = .ok (.invokevirtual 281, 3) := by decide +kernel
theorem dX9_hold__32 : decode cX9_hold_ 32 = .ok (.aload_n 0, 1) := by decide +kernel
theorem dX9_hold__33 : decode cX9_hold_ 33 = .ok (.iload_n 3, 1) := by decide +kernel
theorem dX9_hold__34 : decode cX9_hold_ 34 = .ok (.invokevirtual 240, 3) := by decide +kernel
theorem dX9_hold__37 : decode cX9_hold_ 37 = .ok (.aload_n 0, 1) := by decide +kernel
theorem dX9_hold__38 : decode cX9_hold_ 38 = .ok (.lload 4, 2) := by decide +kernel
theorem dX9_hold__40 : decode cX9_hold_ 40 = .ok (.invokevirtual 244, 3) := by decide +kernel
theorem dX9_hold__43 : decode cX9_hold_ 43 = .ok (.aload_n 0, 1) := by decide +kernel
theorem dX9_hold__44 : decode cX9_hold_ 44 = .ok (.iload_n 3, 1) := by decide +kernel
theorem dX9_hold__45 : decode cX9_hold_ 45 = .ok (.putfield 231, 3) := by decide +kernel
theorem dX9_hold__48 : decode cX9_hold_ 48 = .ok (.aload_n 0, 1) := by decide +kernel
theorem dX9_hold__49 : decode cX9_hold_ 49 = .ok (.lload 4, 2) := by decide +kernel
theorem dX9_hold__51 : decode cX9_hold_ 51 = .ok (.putfield 234, 3) := by decide +kernel
theorem dX9_hold__54 : decode cX9_hold_ 54 = .ok (.aload_n 0, 1) := by decide +kernel
theorem dX9_hold__55 : decode cX9_hold_ 55 = .ok (.invokevirtual 317, 3) := by decide +kernel
theorem dX9_hold__58 : decode cX9_hold_ 58 = .ok (.ireturn, 1) := by decide +kernel
theorem dX9_release_0 : decode cX9_release 0 = .ok (.iload_n 1, 1) := by decide +kernel
theorem dX9_release_1 : decode cX9_release 1 = .ok (.iconst 0, 1) := by decide +kernel
theorem dX9_release_2 : decode cX9_release 2 = .ok (.sipush 199, 3) := by decide +kernel
theorem dX9_release_5 : decode cX9_release 5 = .ok (.invokestatic 311, 3) := by decide +kernel
theorem dX9_release_8 : decode cX9_release 8 = .ok (.ifCond .ne 5, 3) := by decide +kernel
theorem dX9_release_11 : decode cX9_release 11 = .ok (.iconst (-1), 1) := by decide +kernel
theorem dX9_release_12 : decode cX9_release 12 = .ok (.ireturn, 1) := by decide +kernel
theorem dX9_release_13 : decode cX9_release 13 = .ok (.aload_n 0, 1) := by decide +kernel
theorem dX9_release_14 : decode cX9_release 14 = .ok (.iconst 4, 1) := by decide +kernel
theorem dX9_release_15 : decode cX9_release 15 = .ok (.lconst 0, 1) := by decide +kernel
theorem dX9_release_16 : decode cX9_release 16 = .ok (.invokevirtual 281, 3) := by decide +kernel
theorem dX9_release_19 : decode cX9_release 19 = .ok (.aload_n 0, 1) := by decide +kernel
theorem dX9_release_20 : decode cX9_release 20 = .ok (.iload_n 1, 1) := by decide +kernel
theorem dX9_release_21 : decode cX9_release 21 = .ok (.invokevirtual 321, 3) := by decide +kernel
theorem dX9_release_24 : decode cX9_release 24 = .ok (.aload_n 0, 1) := by decide +kernel
theorem dX9_release_25 : decode cX9_release 25 = .ok (.iload_n 1, 1) := by decide +kernel
theorem dX9_release_26 : decode cX9_release 26 = .ok (.putfield 228, 3) := by decide +kernel
theorem dX9_release_29 : decode cX9_release 29 = .ok (.aload_n 0, 1) := by decide +kernel
theorem dX9_release_30 : decode cX9_release 30 = .ok (.invokevirtual 317, 3) := by decide +kernel
theorem dX9_release_33 : decode cX9_release 33 = .ok (.ireturn, 1) := by decide +kernel
theorem dX9_capture_0 : decode cX9_capture 0 = .ok (.lload_n 1, 1) := by decide +kernel
theorem dX9_capture_1 : decode cX9_capture 1 = .ok (.lconst 0, 1) := by decide +kernel
theorem dX9_capture_2 : decode cX9_capture 2 = .ok (.lcmp, 1) := by decide +kernel
theorem dX9_capture_3 : decode cX9_capture 3 = .ok (.ifCond .eq 33, 3) := by decide +kernel
theorem dX9_capture_6 : decode cX9_capture 6 = .ok (.iload_n 3, 1) := by decide +kernel
theorem dX9_capture_7 : decode cX9_capture 7 = .ok (.iconst 0, 1) := by decide +kernel
theorem dX9_capture_8 : decode cX9_capture 8 = .ok (.sipush 199, 3) := by decide +kernel
theorem dX9_capture_11 : decode cX9_capture 11 = .ok (.invokestatic 311, 3) := by decide +kernel
theorem dX9_capture_14 : decode cX9_capture 14 = .ok (.ifCond .eq 22, 3) := by decide +kernel
theorem dX9_capture_17 : decode cX9_capture 17 = .ok (.iload 4, 2) := by decide +kernel
theorem dX9_capture_19 : decode cX9_capture 19 = .ok (.iconst 0, 1) := by decide +kernel
theorem dX9_capture_20 : decode cX9_capture 20 = .ok (.sipush 255, 3) := by decide +kernel
theorem dX9_capture_23 : decode cX9_capture 23 = .ok (.invokestatic 311, 3) := by decide +kernel
theorem dX9_capture_26 : decode cX9_capture 26 = .ok (.ifCond .eq 10, 3) := by decide +kernel
theorem dX9_capture_29 : decode cX9_capture 29 = .ok (.lload 5, 2) := by decide +kernel
theorem dX9_capture_31 : decode cX9_capture 31 = .ok (.lconst 0, 1) := by decide +kernel
theorem dX9_capture_32 : decode cX9_capture 32 = .ok (.lcmp, 1) := by decide +kernel
theorem dX9_capture_33 : decode cX9_capture 33 = .ok (.ifCond .gt 5, 3) := by decide +kernel
theorem dX9_capture_36 : decode cX9_capture 36 = .ok (.iconst (-1), 1) := by decide +kernel
theorem dX9_capture_37 : decode cX9_capture 37 = .ok (.ireturn, 1) := by decide +kernel
theorem dX9_capture_38 : decode cX9_capture 38 = .ok (.aload_n 0, 1) := by decide +kernel
theorem dX9_capture_39 : decode cX9_capture 39 = .ok (.iconst 5, 1) := by decide +kernel
theorem dX9_capture_40 : decode cX9_capture 40 = .ok (.lload_n 1, 1) := by decide +kernel
theorem dX9_capture_41 : decode cX9_capture 41 = .ok (.invokevirtual 281, 3) := by decide +kernel
theorem dX9_capture_44 : decode cX9_capture 44 = .ok (.aload_n 0, 1) := by decide +kernel
theorem dX9_capture_45 : decode cX9_capture 45 = .ok (.iload_n 3, 1) := by decide +kernel
theorem dX9_capture_46 : decode cX9_capture 46 = .ok (.invokevirtual 321, 3) := by decide +kernel
theorem dX9_capture_49 : decode cX9_capture 49 = .ok (.aload_n 0, 1) := by decide +kernel
theorem dX9_capture_50 : decode cX9_capture 50 = .ok (.iload 4, 2) := by decide +kernel
theorem dX9_capture_52 : decode cX9_capture 52 = .ok (.invokevirtual 240, 3) := by decide +kernel
theorem dX9_capture_55 : decode cX9_capture 55 = .ok (.aload_n 0, 1) := by decide +kernel
theorem dX9_capture_56 : decode cX9_capture 56 = .ok (.lload 5, 2) := by decide +kernel
theorem dX9_capture_58 : decode cX9_capture 58 = .ok (.invokevirtual 244, 3) := by decide +kernel
theorem dX9_capture_61 : decode cX9_capture 61 = .ok (.aload_n 0, 1) := by decide +kernel
theorem dX9_capture_62 : decode cX9_capture 62 = .ok (.iload_n 3, 1) := by decide +kernel
theorem dX9_capture_63 : decode cX9_capture 63 = .ok (.putfield 228, 3) := by decide +kernel
theorem dX9_capture_66 : decode cX9_capture 66 = .ok (.aload_n 0, 1) := by decide +kernel
theorem dX9_capture_67 : decode cX9_capture 67 = .ok (.iload 4, 2) := by decide +kernel
theorem dX9_capture_69 : decode cX9_capture 69 = .ok (.putfield 231, 3) := by decide +kernel
theorem dX9_capture_72 : decode cX9_capture 72 = .ok (.aload_n 0, 1) := by decide +kernel
theorem dX9_capture_73 : decode cX9_capture 73 = .ok (.lload 5, 2) := by decide +kernel
theorem dX9_capture_75 : decode cX9_capture 75 = .ok (.putfield 234, 3) := by decide +kernel
theorem dX9_capture_78 : decode cX9_capture 78 = .ok (.aload_n 0, 1) := by decide +kernel
theorem dX9_capture_79 : decode cX9_capture 79 = .ok (.invokevirtual 317, 3) := by decide +kernel
theorem dX9_capture_82 : decode cX9_capture 82 = .ok (.ireturn, 1) := by decide +kernel
theorem dX9_reverse_0 : decode cX9_reverse 0 = .ok (.lload_n 1, 1) := by decide +kernel
theorem dX9_reverse_1 : decode cX9_reverse 1 = .ok (.lconst 0, 1) := by decide +kernel
theorem dX9_reverse_2 : decode cX9_reverse 2 = .ok (.lcmp, 1) := by decide +kernel
theorem dX9_reverse_3 : decode cX9_reverse 3 = .ok (.ifCond .eq 14, 3) := by decide +kernel
theorem dX9_reverse_6 : decode cX9_reverse 6 = .ok (.iload_n 3, 1) := by decide +kernel
theorem dX9_reverse_7 : decode cX9_reverse 7 = .ok (.iconst 0, 1) := by decide +kernel
theorem dX9_reverse_8 : decode cX9_reverse 8 = .ok (.sipush 199, 3) := by decide +kernel
theorem dX9_reverse_11 : decode cX9_reverse 11 = .ok (.invokestatic 311, 3) := by decide +kernel
theorem dX9_reverse_14 : decode cX9_reverse 14 = .ok (.ifCond .ne 5, 3) := by decide +kernel
theorem dX9_reverse_17 : decode cX9_reverse 17 = .ok (.iconst (-1), 1) := by decide +kernel
theorem dX9_reverse_18 : decode cX9_reverse 18 = .ok (.ireturn, 1) := by decide +kernel
theorem dX9_reverse_19 : decode cX9_reverse 19 = .ok (.aload_n 0, 1) := by decide +kernel
theorem dX9_reverse_20 : decode cX9_reverse 20 = .ok (.bipush 6, 2) := by decide +kernel
theorem dX9_reverse_22 : decode cX9_reverse 22 = .ok (.lload_n 1, 1) := by decide +kernel
theorem dX9_reverse_23 : decode cX9_reverse 23 = .ok (.invokevirtual 281, 3) := by decide +kernel
theorem dX9_reverse_26 : decode cX9_reverse 26 = .ok (.aload_n 0, 1) := by decide +kernel
theorem dX9_reverse_27 : decode cX9_reverse 27 = .ok (.iload_n 3, 1) := by decide +kernel
theorem dX9_reverse_28 : decode cX9_reverse 28 = .ok (.invokevirtual 321, 3) := by decide +kernel
theorem dX9_reverse_31 : decode cX9_reverse 31 = .ok (.aload_n 0, 1) := by decide +kernel
theorem dX9_reverse_32 : decode cX9_reverse 32 = .ok (.iload_n 3, 1) := by decide +kernel
theorem dX9_reverse_33 : decode cX9_reverse 33 = .ok (.putfield 228, 3) := by decide +kernel
theorem dX9_reverse_36 : decode cX9_reverse 36 = .ok (.aload_n 0, 1) := by decide +kernel
theorem dX9_reverse_37 : decode cX9_reverse 37 = .ok (.invokevirtual 317, 3) := by decide +kernel
theorem dX9_reverse_40 : decode cX9_reverse 40 = .ok (.ireturn, 1) := by decide +kernel
theorem dX9_every_0 : decode cX9_every 0 = .ok (.iload_n 1, 1) := by decide +kernel
theorem dX9_every_1 : decode cX9_every 1 = .ok (.iconst 0, 1) := by decide +kernel
theorem dX9_every_2 : decode cX9_every 2 = .ok (.bipush 50, 2) := by decide +kernel
theorem dX9_every_4 : decode cX9_every 4 = .ok (.invokestatic 311, 3) := by decide +kernel
theorem dX9_every_7 : decode cX9_every 7 = .ok (.ifCond .ne 5, 3) := by decide +kernel
theorem dX9_every_10 : decode cX9_every 10 = .ok (.iconst (-1), 1) := by decide +kernel
theorem dX9_every_11 : decode cX9_every 11 = .ok (.ireturn, 1) := by decide +kernel
theorem dX9_every_12 : decode cX9_every 12 = .ok (.aload_n 0, 1) := by decide +kernel
theorem dX9_every_13 : decode cX9_every 13 = .ok (.getfield 16, 3) := by decide +kernel
theorem dX9_every_16 : decode cX9_every 16 = .ok (.iconst 0, 1) := by decide +kernel
theorem dX9_every_17 : decode cX9_every 17 = .ok (.iaload, 1) := by decide +kernel
theorem dX9_every_18 : decode cX9_every 18 = .ok (.istore_n 2, 1) := by decide +kernel
theorem dX9_every_19 : decode cX9_every 19 = .ok (.aload_n 0, 1) := by decide +kernel
theorem dX9_every_20 : decode cX9_every 20 = .ok (.getfield 16, 3) := by decide +kernel
theorem dX9_every_23 : decode cX9_every 23 = .ok (.iconst 0, 1) := by decide +kernel
theorem dX9_every_24 : decode cX9_every 24 = .ok (.iload_n 1, 1) := by decide +kernel
theorem dX9_every_25 : decode cX9_every 25 = .ok (.iastore, 1) := by decide +kernel
theorem dX9_every_26 : decode cX9_every 26 = .ok (.aload_n 0, 1) := by decide +kernel
theorem dX9_every_27 : decode cX9_every 27 = .ok (.getfield 19, 3) := by decide +kernel
theorem dX9_every_30 : decode cX9_every 30 = .ok (.iconst 0, 1) := by decide +kernel
theorem dX9_every_31 : decode cX9_every 31 = .ok (.iconst 0, 1) := by decide +kernel
theorem dX9_every_32 : decode cX9_every 32 = .ok (.iastore, 1) := by decide +kernel
theorem dX9_every_33 : decode cX9_every 33 = .ok (.aload_n 0, 1) := by decide +kernel
theorem dX9_every_34 : decode cX9_every 34 = .ok (.getfield 324, 3) := by decide +kernel
theorem dX9_every_37 : decode cX9_every 37 = .ok (.ifCond .eq 23, 3) := by decide +kernel
theorem dX9_every_40 : decode cX9_every 40 = .ok (.aload_n 0, 1) := by decide +kernel
theorem dX9_every_41 : decode cX9_every 41 = .ok (.getfield 78, 3) := by decide +kernel
theorem dX9_every_44 : decode cX9_every 44 = .ok (.aload_n 0, 1) := by decide +kernel
theorem dX9_every_45 : decode cX9_every 45 = .ok (.getfield 324, 3) := by decide +kernel
theorem dX9_every_48 : decode cX9_every 48 = .ok (.iconst 1, 1) := by decide +kernel
theorem dX9_every_49 : decode cX9_every 49 = .ok (.isub, 1) := by decide +kernel
theorem dX9_every_50 : decode cX9_every 50 = .ok (.iaload, 1) := by decide +kernel
theorem dX9_every_51 : decode cX9_every 51 = .ok (.aload_n 0, 1) := by decide +kernel
theorem dX9_every_52 : decode cX9_every 52 = .ok (.getfield 13, 3) := by decide +kernel
theorem dX9_every_55 : decode cX9_every 55 = .ok (.iconst 0, 1) := by decide +kernel
theorem dX9_every_56 : decode cX9_every 56 = .ok (.iaload, 1) := by decide +kernel
theorem dX9_every_57 : decode cX9_every 57 = .ok (.if_icmp .eq 13, 3) := by decide +kernel
theorem dX9_every_60 : decode cX9_every 60 = .ok (.aload_n 0, 1) := by decide +kernel
theorem dX9_every_61 : decode cX9_every 61 = .ok (.dup, 1) := by decide +kernel
theorem dX9_every_62 : decode cX9_every 62 = .ok (.getfield 324, 3) := by decide +kernel
theorem dX9_every_65 : decode cX9_every 65 = .ok (.iconst 1, 1) := by decide +kernel
theorem dX9_every_66 : decode cX9_every 66 = .ok (.iadd, 1) := by decide +kernel
theorem dX9_every_67 : decode cX9_every 67 = .ok (.putfield 324, 3) := by decide +kernel
theorem dX9_every_70 : decode cX9_every 70 = .ok (.aload_n 0, 1) := by decide +kernel
theorem dX9_every_71 : decode cX9_every 71 = .ok (.getfield 78, 3) := by decide +kernel
theorem dX9_every_74 : decode cX9_every 74 = .ok (.aload_n 0, 1) := by decide +kernel
theorem dX9_every_75 : decode cX9_every 75 = .ok (.getfield 324, 3) := by decide +kernel
theorem dX9_every_78 : decode cX9_every 78 = .ok (.iconst 1, 1) := by decide +kernel
theorem dX9_every_79 : decode cX9_every 79 = .ok (.isub, 1) := by decide +kernel
theorem dX9_every_80 : decode cX9_every 80 = .ok (.aload_n 0, 1) := by decide +kernel
theorem dX9_every_81 : decode cX9_every 81 = .ok (.getfield 13, 3) := by decide +kernel
theorem dX9_every_84 : decode cX9_every 84 = .ok (.iconst 0, 1) := by decide +kernel
theorem dX9_every_85 : decode cX9_every 85 = .ok (.iaload, 1) := by decide +kernel
theorem dX9_every_86 : decode cX9_every 86 = .ok (.iastore, 1) := by decide +kernel
theorem dX9_every_87 : decode cX9_every 87 = .ok (.aload_n 0, 1) := by decide +kernel
theorem dX9_every_88 : decode cX9_every 88 = .ok (.getfield 81, 3) := by decide +kernel
theorem dX9_every_91 : decode cX9_every 91 = .ok (.aload_n 0, 1) := by decide +kernel
theorem dX9_every_92 : decode cX9_every 92 = .ok (.getfield 324, 3) := by decide +kernel
theorem dX9_every_95 : decode cX9_every 95 = .ok (.iconst 1, 1) := by decide +kernel
theorem dX9_every_96 : decode cX9_every 96 = .ok (.isub, 1) := by decide +kernel
theorem dX9_every_97 : decode cX9_every 97 = .ok (.iload_n 1, 1) := by decide +kernel
theorem dX9_every_98 : decode cX9_every 98 = .ok (.iastore, 1) := by decide +kernel
theorem dX9_every_99 : decode cX9_every 99 = .ok (.iload_n 2, 1) := by decide +kernel
theorem dX9_every_100 : decode cX9_every 100 = .ok (.ireturn, 1) := by decide +kernel
theorem dX9_account_0 : decode cX9_account 0 = .ok (.iload_n 1, 1) := by decide +kernel
theorem dX9_account_1 : decode cX9_account 1 = .ok (.iconst 0, 1) := by decide +kernel
theorem dX9_account_2 : decode cX9_account 2 = .ok (.aload_n 0, 1) := by decide +kernel
theorem dX9_account_3 : decode cX9_account 3 = .ok (.getfield 7, 3) := by decide +kernel
theorem dX9_account_6 : decode cX9_account 6 = .ok (.iconst 0, 1) := by decide +kernel
theorem dX9_account_7 : decode cX9_account 7 = .ok (.iaload, 1) := by decide +kernel
theorem dX9_account_8 : decode cX9_account 8 = .ok (.iconst 1, 1) := by decide +kernel
theorem dX9_account_9 : decode cX9_account 9 = .ok (.isub, 1) := by decide +kernel
theorem dX9_account_10 : decode cX9_account 10 = .ok (.invokestatic 311, 3) := by decide +kernel
theorem dX9_account_13 : decode cX9_account 13 = .ok (.ifCond .ne 7, 3) := by decide +kernel
theorem dX9_account_16 : decode cX9_account 16 = .ok (.ldc2_w 315, 3) := by decide +kernel
theorem dX9_account_19 : decode cX9_account 19 = .ok (.lreturn, 1) := by decide +kernel
theorem dX9_account_20 : decode cX9_account 20 = .ok (.iload_n 2, 1) := by decide +kernel
theorem dX9_account_21 : decode cX9_account 21 = .ok (.ifCond .ne 12, 3) := by decide +kernel
theorem dX9_account_24 : decode cX9_account 24 = .ok (.aload_n 0, 1) := by decide +kernel
theorem dX9_account_25 : decode cX9_account 25 = .ok (.getfield 30, 3) := by decide +kernel
theorem dX9_account_28 : decode cX9_account 28 = .ok (.iload_n 1, 1) := by decide +kernel
theorem dX9_account_29 : decode cX9_account 29 = .ok (.laload, 1) := by decide +kernel
theorem dX9_account_30 : decode cX9_account 30 = .ok (.goto 44, 3) := by decide +kernel
theorem dX9_account_33 : decode cX9_account 33 = .ok (.iload_n 2, 1) := by decide +kernel
theorem dX9_account_34 : decode cX9_account 34 = .ok (.iconst 1, 1) := by decide +kernel
theorem dX9_account_35 : decode cX9_account 35 = .ok (.if_icmp .ne 22, 3) := by decide +kernel
theorem dX9_account_38 : decode cX9_account 38 = .ok (.aload_n 0, 1) := by decide +kernel
theorem dX9_account_39 : decode cX9_account 39 = .ok (.getfield 33, 3) := by decide +kernel
theorem dX9_account_42 : decode cX9_account 42 = .ok (.iload_n 1, 1) := by decide +kernel
theorem dX9_account_43 : decode cX9_account 43 = .ok (.laload, 1) := by decide +kernel
theorem dX9_account_44 : decode cX9_account 44 = .ok (.bipush 32, 2) := by decide +kernel
theorem dX9_account_46 : decode cX9_account 46 = .ok (.lshl, 1) := by decide +kernel
theorem dX9_account_47 : decode cX9_account 47 = .ok (.aload_n 0, 1) := by decide +kernel
theorem dX9_account_48 : decode cX9_account 48 = .ok (.getfield 36, 3) := by decide +kernel
theorem dX9_account_51 : decode cX9_account 51 = .ok (.iload_n 1, 1) := by decide +kernel
theorem dX9_account_52 : decode cX9_account 52 = .ok (.laload, 1) := by decide +kernel
theorem dX9_account_53 : decode cX9_account 53 = .ok (.lor, 1) := by decide +kernel
theorem dX9_account_54 : decode cX9_account 54 = .ok (.goto 20, 3) := by decide +kernel
theorem dX9_account_57 : decode cX9_account 57 = .ok (.iload_n 2, 1) := by decide +kernel
theorem dX9_account_58 : decode cX9_account 58 = .ok (.iconst 2, 1) := by decide +kernel
theorem dX9_account_59 : decode cX9_account 59 = .ok (.if_icmp .ne 12, 3) := by decide +kernel
theorem dX9_account_62 : decode cX9_account 62 = .ok (.aload_n 0, 1) := by decide +kernel
theorem dX9_account_63 : decode cX9_account 63 = .ok (.getfield 26, 3) := by decide +kernel
theorem dX9_account_66 : decode cX9_account 66 = .ok (.iload_n 1, 1) := by decide +kernel
theorem dX9_account_67 : decode cX9_account 67 = .ok (.laload, 1) := by decide +kernel
theorem dX9_account_68 : decode cX9_account 68 = .ok (.goto 6, 3) := by decide +kernel
theorem dX9_account_71 : decode cX9_account 71 = .ok (.ldc2_w 315, 3) := by decide +kernel
theorem dX9_account_74 : decode cX9_account 74 = .ok (.lreturn, 1) := by decide +kernel
theorem dX9_entry_0 : decode cX9_entry 0 = .ok (.iload_n 1, 1) := by decide +kernel
theorem dX9_entry_1 : decode cX9_entry 1 = .ok (.iconst 0, 1) := by decide +kernel
theorem dX9_entry_2 : decode cX9_entry 2 = .ok (.aload_n 0, 1) := by decide +kernel
theorem dX9_entry_3 : decode cX9_entry 3 = .ok (.getfield 13, 3) := by decide +kernel
theorem dX9_entry_6 : decode cX9_entry 6 = .ok (.iconst 0, 1) := by decide +kernel
theorem dX9_entry_7 : decode cX9_entry 7 = .ok (.iaload, 1) := by decide +kernel
theorem dX9_entry_8 : decode cX9_entry 8 = .ok (.iconst 1, 1) := by decide +kernel
theorem dX9_entry_9 : decode cX9_entry 9 = .ok (.isub, 1) := by decide +kernel
theorem dX9_entry_10 : decode cX9_entry 10 = .ok (.invokestatic 311, 3) := by decide +kernel
theorem dX9_entry_13 : decode cX9_entry 13 = .ok (.ifCond .ne 7, 3) := by decide +kernel
theorem dX9_entry_16 : decode cX9_entry 16 = .ok (.ldc2_w 315, 3) := by decide +kernel
theorem dX9_entry_19 : decode cX9_entry 19 = .ok (.lreturn, 1) := by decide +kernel
theorem dX9_entry_20 : decode cX9_entry 20 = .ok (.iload_n 2, 1) := by decide +kernel
theorem dX9_entry_21 : decode cX9_entry 21 = .ok (.tableswitch 86 0 5 #[39, 47, 55, 63, 70, 78], 39) := by decide +kernel
theorem dX9_entry_60 : decode cX9_entry 60 = .ok (.aload_n 0, 1) := by decide +kernel
theorem dX9_entry_61 : decode cX9_entry 61 = .ok (.getfield 39, 3) := by decide +kernel
theorem dX9_entry_64 : decode cX9_entry 64 = .ok (.iload_n 1, 1) := by decide +kernel
theorem dX9_entry_65 : decode cX9_entry 65 = .ok (.iaload, 1) := by decide +kernel
theorem dX9_entry_66 : decode cX9_entry 66 = .ok (.i2l, 1) := by decide +kernel
theorem dX9_entry_67 : decode cX9_entry 67 = .ok (.lreturn, 1) := by decide +kernel
theorem dX9_entry_68 : decode cX9_entry 68 = .ok (.aload_n 0, 1) := by decide +kernel
theorem dX9_entry_69 : decode cX9_entry 69 = .ok (.getfield 75, 3) := by decide +kernel
theorem dX9_entry_72 : decode cX9_entry 72 = .ok (.iload_n 1, 1) := by decide +kernel
theorem dX9_entry_73 : decode cX9_entry 73 = .ok (.iaload, 1) := by decide +kernel
theorem dX9_entry_74 : decode cX9_entry 74 = .ok (.i2l, 1) := by decide +kernel
theorem dX9_entry_75 : decode cX9_entry 75 = .ok (.lreturn, 1) := by decide +kernel
theorem dX9_entry_76 : decode cX9_entry 76 = .ok (.aload_n 0, 1) := by decide +kernel
theorem dX9_entry_77 : decode cX9_entry 77 = .ok (.getfield 72, 3) := by decide +kernel
theorem dX9_entry_80 : decode cX9_entry 80 = .ok (.iload_n 1, 1) := by decide +kernel
theorem dX9_entry_81 : decode cX9_entry 81 = .ok (.iaload, 1) := by decide +kernel
theorem dX9_entry_82 : decode cX9_entry 82 = .ok (.i2l, 1) := by decide +kernel
theorem dX9_entry_83 : decode cX9_entry 83 = .ok (.lreturn, 1) := by decide +kernel
theorem dX9_entry_84 : decode cX9_entry 84 = .ok (.aload_n 0, 1) := by decide +kernel
theorem dX9_entry_85 : decode cX9_entry 85 = .ok (.getfield 42, 3) := by decide +kernel
theorem dX9_entry_88 : decode cX9_entry 88 = .ok (.iload_n 1, 1) := by decide +kernel
theorem dX9_entry_89 : decode cX9_entry 89 = .ok (.laload, 1) := by decide +kernel
theorem dX9_entry_90 : decode cX9_entry 90 = .ok (.lreturn, 1) := by decide +kernel
theorem dX9_entry_91 : decode cX9_entry 91 = .ok (.aload_n 0, 1) := by decide +kernel
theorem dX9_entry_92 : decode cX9_entry 92 = .ok (.getfield 45, 3) := by decide +kernel
theorem dX9_entry_95 : decode cX9_entry 95 = .ok (.iload_n 1, 1) := by decide +kernel
theorem dX9_entry_96 : decode cX9_entry 96 = .ok (.iaload, 1) := by decide +kernel
theorem dX9_entry_97 : decode cX9_entry 97 = .ok (.i2l, 1) := by decide +kernel
theorem dX9_entry_98 : decode cX9_entry 98 = .ok (.lreturn, 1) := by decide +kernel
theorem dX9_entry_99 : decode cX9_entry 99 = .ok (.aload_n 0, 1) := by decide +kernel
theorem dX9_entry_100 : decode cX9_entry 100 = .ok (.getfield 63, 3) := by decide +kernel
theorem dX9_entry_103 : decode cX9_entry 103 = .ok (.iload_n 1, 1) := by decide +kernel
theorem dX9_entry_104 : decode cX9_entry 104 = .ok (.iaload, 1) := by decide +kernel
theorem dX9_entry_105 : decode cX9_entry 105 = .ok (.i2l, 1) := by decide +kernel
theorem dX9_entry_106 : decode cX9_entry 106 = .ok (.lreturn, 1) := by decide +kernel
theorem dX9_entry_107 : decode cX9_entry 107 = .ok (.iload_n 2, 1) := by decide +kernel
theorem dX9_entry_108 : decode cX9_entry 108 = .ok (.bipush 10, 2) := by decide +kernel
theorem dX9_entry_110 : decode cX9_entry 110 = .ok (.bipush 9, 2) := by decide +kernel
theorem dX9_entry_112 : decode cX9_entry 112 = .ok (.aload_n 0, 1) := by decide +kernel
theorem dX9_entry_113 : decode cX9_entry 113 = .ok (.getfield 45, 3) := by decide +kernel
theorem dX9_entry_116 : decode cX9_entry 116 = .ok (.iload_n 1, 1) := by decide +kernel
theorem dX9_entry_117 : decode cX9_entry 117 = .ok (.iaload, 1) := by decide +kernel
theorem dX9_entry_118 : decode cX9_entry 118 = .ok (.iadd, 1) := by decide +kernel
theorem dX9_entry_119 : decode cX9_entry 119 = .ok (.invokestatic 311, 3) := by decide +kernel
theorem dX9_entry_122 : decode cX9_entry 122 = .ok (.ifCond .eq 19, 3) := by decide +kernel
theorem dX9_entry_125 : decode cX9_entry 125 = .ok (.aload_n 0, 1) := by decide +kernel
theorem dX9_entry_126 : decode cX9_entry 126 = .ok (.getfield 48, 3) := by decide +kernel
theorem dX9_entry_129 : decode cX9_entry 129 = .ok (.bipush 8, 2) := by decide +kernel
theorem dX9_entry_131 : decode cX9_entry 131 = .ok (.iload_n 1, 1) := by decide +kernel
theorem dX9_entry_132 : decode cX9_entry 132 = .ok (.imul, 1) := by decide +kernel
theorem dX9_entry_133 : decode cX9_entry 133 = .ok (.iload_n 2, 1) := by decide +kernel
theorem dX9_entry_134 : decode cX9_entry 134 = .ok (.iadd, 1) := by decide +kernel
theorem dX9_entry_135 : decode cX9_entry 135 = .ok (.bipush 10, 2) := by decide +kernel
theorem dX9_entry_137 : decode cX9_entry 137 = .ok (.isub, 1) := by decide +kernel
theorem dX9_entry_138 : decode cX9_entry 138 = .ok (.iaload, 1) := by decide +kernel
theorem dX9_entry_139 : decode cX9_entry 139 = .ok (.i2l, 1) := by decide +kernel
theorem dX9_entry_140 : decode cX9_entry 140 = .ok (.lreturn, 1) := by decide +kernel
theorem dX9_entry_141 : decode cX9_entry 141 = .ok (.iload_n 2, 1) := by decide +kernel
theorem dX9_entry_142 : decode cX9_entry 142 = .ok (.bipush 30, 2) := by decide +kernel
theorem dX9_entry_144 : decode cX9_entry 144 = .ok (.bipush 29, 2) := by decide +kernel
theorem dX9_entry_146 : decode cX9_entry 146 = .ok (.aload_n 0, 1) := by decide +kernel
theorem dX9_entry_147 : decode cX9_entry 147 = .ok (.getfield 45, 3) := by decide +kernel
theorem dX9_entry_150 : decode cX9_entry 150 = .ok (.iload_n 1, 1) := by decide +kernel
theorem dX9_entry_151 : decode cX9_entry 151 = .ok (.iaload, 1) := by decide +kernel
theorem dX9_entry_152 : decode cX9_entry 152 = .ok (.iadd, 1) := by decide +kernel
theorem dX9_entry_153 : decode cX9_entry 153 = .ok (.invokestatic 311, 3) := by decide +kernel
theorem dX9_entry_156 : decode cX9_entry 156 = .ok (.ifCond .eq 20, 3) := by decide +kernel
theorem dX9_entry_159 : decode cX9_entry 159 = .ok (.aload_n 0, 1) := by decide +kernel
theorem dX9_entry_160 : decode cX9_entry 160 = .ok (.getfield 51, 3) := by decide +kernel
theorem dX9_entry_163 : decode cX9_entry 163 = .ok (.bipush 8, 2) := by decide +kernel
theorem dX9_entry_165 : decode cX9_entry 165 = .ok (.iload_n 1, 1) := by decide +kernel
theorem dX9_entry_166 : decode cX9_entry 166 = .ok (.imul, 1) := by decide +kernel
theorem dX9_entry_167 : decode cX9_entry 167 = .ok (.iload_n 2, 1) := by decide +kernel
theorem dX9_entry_168 : decode cX9_entry 168 = .ok (.iadd, 1) := by decide +kernel
theorem dX9_entry_169 : decode cX9_entry 169 = .ok (.bipush 30, 2) := by decide +kernel
theorem dX9_entry_171 : decode cX9_entry 171 = .ok (.isub, 1) := by decide +kernel
theorem dX9_entry_172 : decode cX9_entry 172 = .ok (.laload, 1) := by decide +kernel
theorem dX9_entry_173 : decode cX9_entry 173 = .ok (.goto 6, 3) := by decide +kernel
theorem dX9_entry_176 : decode cX9_entry 176 = .ok (.ldc2_w 315, 3) := by decide +kernel
theorem dX9_entry_179 : decode cX9_entry 179 = .ok (.lreturn, 1) := by decide +kernel
theorem dX9_data_0 : decode cX9_data 0 = .ok (.iload_n 1, 1) := by decide +kernel
theorem dX9_data_1 : decode cX9_data 1 = .ok (.iconst 0, 1) := by decide +kernel
theorem dX9_data_2 : decode cX9_data 2 = .ok (.aload_n 0, 1) := by decide +kernel
theorem dX9_data_3 : decode cX9_data 3 = .ok (.getfield 285, 3) := by decide +kernel
theorem dX9_data_6 : decode cX9_data 6 = .ok (.iconst 1, 1) := by decide +kernel
theorem dX9_data_7 : decode cX9_data 7 = .ok (.isub, 1) := by decide +kernel
theorem dX9_data_8 : decode cX9_data 8 = .ok (.invokestatic 311, 3) := by decide +kernel
theorem dX9_data_11 : decode cX9_data 11 = .ok (.ifCond .eq 12, 3) := by decide +kernel
theorem dX9_data_14 : decode cX9_data 14 = .ok (.aload_n 0, 1) := by decide +kernel
theorem dX9_data_15 : decode cX9_data 15 = .ok (.getfield 66, 3) := by decide +kernel
theorem dX9_data_18 : decode cX9_data 18 = .ok (.iload_n 1, 1) := by decide +kernel
theorem dX9_data_19 : decode cX9_data 19 = .ok (.iaload, 1) := by decide +kernel
theorem dX9_data_20 : decode cX9_data 20 = .ok (.goto 4, 3) := by decide +kernel
theorem dX9_data_23 : decode cX9_data 23 = .ok (.iconst (-1), 1) := by decide +kernel
theorem dX9_data_24 : decode cX9_data 24 = .ok (.ireturn, 1) := by decide +kernel
theorem dX9_alter_0 : decode cX9_alter 0 = .ok (.iload_n 1, 1) := by decide +kernel
theorem dX9_alter_1 : decode cX9_alter 1 = .ok (.iconst 0, 1) := by decide +kernel
theorem dX9_alter_2 : decode cX9_alter 2 = .ok (.aload_n 0, 1) := by decide +kernel
theorem dX9_alter_3 : decode cX9_alter 3 = .ok (.getfield 285, 3) := by decide +kernel
theorem dX9_alter_6 : decode cX9_alter 6 = .ok (.iconst 1, 1) := by decide +kernel
theorem dX9_alter_7 : decode cX9_alter 7 = .ok (.isub, 1) := by decide +kernel
theorem dX9_alter_8 : decode cX9_alter 8 = .ok (.invokestatic 311, 3) := by decide +kernel
theorem dX9_alter_11 : decode cX9_alter 11 = .ok (.ifCond .eq 14, 3) := by decide +kernel
theorem dX9_alter_14 : decode cX9_alter 14 = .ok (.iload_n 2, 1) := by decide +kernel
theorem dX9_alter_15 : decode cX9_alter 15 = .ok (.iconst 1, 1) := by decide +kernel
theorem dX9_alter_16 : decode cX9_alter 16 = .ok (.sipush 255, 3) := by decide +kernel
theorem dX9_alter_19 : decode cX9_alter 19 = .ok (.invokestatic 311, 3) := by decide +kernel
theorem dX9_alter_22 : decode cX9_alter 22 = .ok (.ifCond .ne 5, 3) := by decide +kernel
theorem dX9_alter_25 : decode cX9_alter 25 = .ok (.iconst (-1), 1) := by decide +kernel
theorem dX9_alter_26 : decode cX9_alter 26 = .ok (.ireturn, 1) := by decide +kernel
theorem dX9_alter_27 : decode cX9_alter 27 = .ok (.aload_n 0, 1) := by decide +kernel
theorem dX9_alter_28 : decode cX9_alter 28 = .ok (.getfield 66, 3) := by decide +kernel
theorem dX9_alter_31 : decode cX9_alter 31 = .ok (.iload_n 1, 1) := by decide +kernel
theorem dX9_alter_32 : decode cX9_alter 32 = .ok (.dup2, 1) := by decide +kernel
theorem dX9_alter_33 : decode cX9_alter 33 = .ok (.iaload, 1) := by decide +kernel
theorem dX9_alter_34 : decode cX9_alter 34 = .ok (.iload_n 2, 1) := by decide +kernel
theorem dX9_alter_35 : decode cX9_alter 35 = .ok (.ixor, 1) := by decide +kernel
theorem dX9_alter_36 : decode cX9_alter 36 = .ok (.iastore, 1) := by decide +kernel
theorem dX9_alter_37 : decode cX9_alter 37 = .ok (.aload_n 0, 1) := by decide +kernel
theorem dX9_alter_38 : decode cX9_alter 38 = .ok (.getfield 66, 3) := by decide +kernel
theorem dX9_alter_41 : decode cX9_alter 41 = .ok (.iload_n 1, 1) := by decide +kernel
theorem dX9_alter_42 : decode cX9_alter 42 = .ok (.iaload, 1) := by decide +kernel
theorem dX9_alter_43 : decode cX9_alter 43 = .ok (.ireturn, 1) := by decide +kernel
theorem dX9_turn_0 : decode cX9_turn 0 = .ok (.iload_n 0, 1) := by decide +kernel
theorem dX9_turn_1 : decode cX9_turn 1 = .ok (.iload_n 1, 1) := by decide +kernel
theorem dX9_turn_2 : decode cX9_turn 2 = .ok (.iushr, 1) := by decide +kernel
theorem dX9_turn_3 : decode cX9_turn 3 = .ok (.iload_n 0, 1) := by decide +kernel
theorem dX9_turn_4 : decode cX9_turn 4 = .ok (.bipush 32, 2) := by decide +kernel
theorem dX9_turn_6 : decode cX9_turn 6 = .ok (.iload_n 1, 1) := by decide +kernel
theorem dX9_turn_7 : decode cX9_turn 7 = .ok (.isub, 1) := by decide +kernel
theorem dX9_turn_8 : decode cX9_turn 8 = .ok (.ishl, 1) := by decide +kernel
theorem dX9_turn_9 : decode cX9_turn 9 = .ok (.ior, 1) := by decide +kernel
theorem dX9_turn_10 : decode cX9_turn 10 = .ok (.ireturn, 1) := by decide +kernel
theorem dX9_says_0 : decode cX9_says 0 = .ok (.aload_n 0, 1) := by decide +kernel
theorem dX9_says_1 : decode cX9_says 1 = .ok (.getfield 169, 3) := by decide +kernel
theorem dX9_says_4 : decode cX9_says 4 = .ok (.aload_n 0, 1) := by decide +kernel
theorem dX9_says_5 : decode cX9_says 5 = .ok (.getfield 327, 3) := by decide +kernel
theorem dX9_says_8 : decode cX9_says 8 = .ok (.iload_n 1, 1) := by decide +kernel
theorem dX9_says_9 : decode cX9_says 9 = .ok (.iastore, 1) := by decide +kernel
theorem dX9_says_10 : decode cX9_says 10 = .ok (.aload_n 0, 1) := by decide +kernel
theorem dX9_says_11 : decode cX9_says 11 = .ok (.dup, 1) := by decide +kernel
theorem dX9_says_12 : decode cX9_says 12 = .ok (.getfield 327, 3) := by decide +kernel
theorem dX9_says_15 : decode cX9_says 15 = .ok (.iconst 1, 1) := by decide +kernel
theorem dX9_says_16 : decode cX9_says 16 = .ok (.iadd, 1) := by decide +kernel
theorem dX9_says_17 : decode cX9_says 17 = .ok (.putfield 327, 3) := by decide +kernel
theorem dX9_says_20 : decode cX9_says 20 = .ok (.return_, 1) := by decide +kernel
theorem dX9_sum_0 : decode cX9_sum 0 = .ok (.aload_n 0, 1) := by decide +kernel
theorem dX9_sum_1 : decode cX9_sum 1 = .ok (.getfield 327, 3) := by decide +kernel
theorem dX9_sum_4 : decode cX9_sum 4 = .ok (.istore_n 1, 1) := by decide +kernel
theorem dX9_sum_5 : decode cX9_sum 5 = .ok (.aload_n 0, 1) := by decide +kernel
theorem dX9_sum_6 : decode cX9_sum 6 = .ok (.sipush 128, 3) := by decide +kernel
theorem dX9_sum_9 : decode cX9_sum 9 = .ok (.invokevirtual 330, 3) := by decide +kernel
theorem dX9_sum_12 : decode cX9_sum 12 = .ok (.aload_n 0, 1) := by decide +kernel
theorem dX9_sum_13 : decode cX9_sum 13 = .ok (.getfield 327, 3) := by decide +kernel
theorem dX9_sum_16 : decode cX9_sum 16 = .ok (.bipush 64, 2) := by decide +kernel
theorem dX9_sum_18 : decode cX9_sum 18 = .ok (.irem, 1) := by decide +kernel
theorem dX9_sum_19 : decode cX9_sum 19 = .ok (.bipush 56, 2) := by decide +kernel
theorem dX9_sum_21 : decode cX9_sum 21 = .ok (.if_icmp .eq 11, 3) := by decide +kernel
theorem dX9_sum_24 : decode cX9_sum 24 = .ok (.aload_n 0, 1) := by decide +kernel
theorem dX9_sum_25 : decode cX9_sum 25 = .ok (.iconst 0, 1) := by decide +kernel
theorem dX9_sum_26 : decode cX9_sum 26 = .ok (.invokevirtual 330, 3) := by decide +kernel
theorem dX9_sum_29 : decode cX9_sum 29 = .ok (.goto (-17), 3) := by decide +kernel
theorem dX9_sum_32 : decode cX9_sum 32 = .ok (.iconst 0, 1) := by decide +kernel
theorem dX9_sum_33 : decode cX9_sum 33 = .ok (.istore_n 2, 1) := by decide +kernel
theorem dX9_sum_34 : decode cX9_sum 34 = .ok (.iload_n 2, 1) := by decide +kernel
theorem dX9_sum_35 : decode cX9_sum 35 = .ok (.iconst 4, 1) := by decide +kernel
theorem dX9_sum_36 : decode cX9_sum 36 = .ok (.if_icmp .ge 14, 3) := by decide +kernel
theorem dX9_sum_39 : decode cX9_sum 39 = .ok (.aload_n 0, 1) := by decide +kernel
theorem dX9_sum_40 : decode cX9_sum 40 = .ok (.iconst 0, 1) := by decide +kernel
theorem dX9_sum_41 : decode cX9_sum 41 = .ok (.invokevirtual 330, 3) := by decide +kernel
theorem dX9_sum_44 : decode cX9_sum 44 = .ok (.iinc 2 1, 3) := by decide +kernel
theorem dX9_sum_47 : decode cX9_sum 47 = .ok (.goto (-13), 3) := by decide +kernel
theorem dX9_sum_50 : decode cX9_sum 50 = .ok (.bipush 24, 2) := by decide +kernel
theorem dX9_sum_52 : decode cX9_sum 52 = .ok (.istore_n 2, 1) := by decide +kernel
theorem dX9_sum_53 : decode cX9_sum 53 = .ok (.iload_n 2, 1) := by decide +kernel
theorem dX9_sum_54 : decode cX9_sum 54 = .ok (.ifCond .lt 23, 3) := by decide +kernel
theorem dX9_sum_57 : decode cX9_sum 57 = .ok (.aload_n 0, 1) := by decide +kernel
theorem dX9_sum_58 : decode cX9_sum 58 = .ok (.bipush 8, 2) := by decide +kernel
theorem dX9_sum_60 : decode cX9_sum 60 = .ok (.iload_n 1, 1) := by decide +kernel
theorem dX9_sum_61 : decode cX9_sum 61 = .ok (.imul, 1) := by decide +kernel
theorem dX9_sum_62 : decode cX9_sum 62 = .ok (.iload_n 2, 1) := by decide +kernel
theorem dX9_sum_63 : decode cX9_sum 63 = .ok (.ishr, 1) := by decide +kernel
theorem dX9_sum_64 : decode cX9_sum 64 = .ok (.sipush 255, 3) := by decide +kernel
theorem dX9_sum_67 : decode cX9_sum 67 = .ok (.iand, 1) := by decide +kernel
theorem dX9_sum_68 : decode cX9_sum 68 = .ok (.invokevirtual 330, 3) := by decide +kernel
theorem dX9_sum_71 : decode cX9_sum 71 = .ok (.iinc 2 (-8), 3) := by decide +kernel
theorem dX9_sum_74 : decode cX9_sum 74 = .ok (.goto (-21), 3) := by decide +kernel
theorem dX9_sum_77 : decode cX9_sum 77 = .ok (.aload_n 0, 1) := by decide +kernel
theorem dX9_sum_78 : decode cX9_sum 78 = .ok (.getfield 175, 3) := by decide +kernel
theorem dX9_sum_81 : decode cX9_sum 81 = .ok (.iconst 0, 1) := by decide +kernel
theorem dX9_sum_82 : decode cX9_sum 82 = .ok (.ldc_w 333, 3) := by decide +kernel
theorem dX9_sum_85 : decode cX9_sum 85 = .ok (.iastore, 1) := by decide +kernel
theorem dX9_sum_86 : decode cX9_sum 86 = .ok (.aload_n 0, 1) := by decide +kernel
theorem dX9_sum_87 : decode cX9_sum 87 = .ok (.getfield 175, 3) := by decide +kernel
theorem dX9_sum_90 : decode cX9_sum 90 = .ok (.iconst 1, 1) := by decide +kernel
theorem dX9_sum_91 : decode cX9_sum 91 = .ok (.ldc_w 334, 3) := by decide +kernel
theorem dX9_sum_94 : decode cX9_sum 94 = .ok (.iastore, 1) := by decide +kernel
theorem dX9_sum_95 : decode cX9_sum 95 = .ok (.aload_n 0, 1) := by decide +kernel
theorem dX9_sum_96 : decode cX9_sum 96 = .ok (.getfield 175, 3) := by decide +kernel
theorem dX9_sum_99 : decode cX9_sum 99 = .ok (.iconst 2, 1) := by decide +kernel
theorem dX9_sum_100 : decode cX9_sum 100 = .ok (.ldc_w 335, 3) := by decide +kernel
theorem dX9_sum_103 : decode cX9_sum 103 = .ok (.iastore, 1) := by decide +kernel
theorem dX9_sum_104 : decode cX9_sum 104 = .ok (.aload_n 0, 1) := by decide +kernel
theorem dX9_sum_105 : decode cX9_sum 105 = .ok (.getfield 175, 3) := by decide +kernel
theorem dX9_sum_108 : decode cX9_sum 108 = .ok (.iconst 3, 1) := by decide +kernel
theorem dX9_sum_109 : decode cX9_sum 109 = .ok (.ldc_w 336, 3) := by decide +kernel
theorem dX9_sum_112 : decode cX9_sum 112 = .ok (.iastore, 1) := by decide +kernel
theorem dX9_sum_113 : decode cX9_sum 113 = .ok (.aload_n 0, 1) := by decide +kernel
theorem dX9_sum_114 : decode cX9_sum 114 = .ok (.getfield 175, 3) := by decide +kernel
theorem dX9_sum_117 : decode cX9_sum 117 = .ok (.iconst 4, 1) := by decide +kernel
theorem dX9_sum_118 : decode cX9_sum 118 = .ok (.ldc_w 337, 3) := by decide +kernel
theorem dX9_sum_121 : decode cX9_sum 121 = .ok (.iastore, 1) := by decide +kernel
theorem dX9_sum_122 : decode cX9_sum 122 = .ok (.aload_n 0, 1) := by decide +kernel
theorem dX9_sum_123 : decode cX9_sum 123 = .ok (.getfield 175, 3) := by decide +kernel
theorem dX9_sum_126 : decode cX9_sum 126 = .ok (.iconst 5, 1) := by decide +kernel
theorem dX9_sum_127 : decode cX9_sum 127 = .ok (.ldc_w 338, 3) := by decide +kernel
theorem dX9_sum_130 : decode cX9_sum 130 = .ok (.iastore, 1) := by decide +kernel
theorem dX9_sum_131 : decode cX9_sum 131 = .ok (.aload_n 0, 1) := by decide +kernel
theorem dX9_sum_132 : decode cX9_sum 132 = .ok (.getfield 175, 3) := by decide +kernel
theorem dX9_sum_135 : decode cX9_sum 135 = .ok (.bipush 6, 2) := by decide +kernel
theorem dX9_sum_137 : decode cX9_sum 137 = .ok (.ldc_w 339, 3) := by decide +kernel
theorem dX9_sum_140 : decode cX9_sum 140 = .ok (.iastore, 1) := by decide +kernel
theorem dX9_sum_141 : decode cX9_sum 141 = .ok (.aload_n 0, 1) := by decide +kernel
theorem dX9_sum_142 : decode cX9_sum 142 = .ok (.getfield 175, 3) := by decide +kernel
theorem dX9_sum_145 : decode cX9_sum 145 = .ok (.bipush 7, 2) := by decide +kernel
theorem dX9_sum_147 : decode cX9_sum 147 = .ok (.ldc_w 340, 3) := by decide +kernel
theorem dX9_sum_150 : decode cX9_sum 150 = .ok (.iastore, 1) := by decide +kernel
theorem dX9_sum_151 : decode cX9_sum 151 = .ok (.iconst 0, 1) := by decide +kernel
theorem dX9_sum_152 : decode cX9_sum 152 = .ok (.istore_n 2, 1) := by decide +kernel
theorem dX9_sum_153 : decode cX9_sum 153 = .ok (.iload_n 2, 1) := by decide +kernel
theorem dX9_sum_154 : decode cX9_sum 154 = .ok (.aload_n 0, 1) := by decide +kernel
theorem dX9_sum_155 : decode cX9_sum 155 = .ok (.getfield 327, 3) := by decide +kernel
theorem dX9_sum_158 : decode cX9_sum 158 = .ok (.if_icmp .ge 14, 3) := by decide +kernel
theorem dX9_sum_161 : decode cX9_sum 161 = .ok (.aload_n 0, 1) := by decide +kernel
theorem dX9_sum_162 : decode cX9_sum 162 = .ok (.iload_n 2, 1) := by decide +kernel
theorem dX9_sum_163 : decode cX9_sum 163 = .ok (.invokevirtual 341, 3) := by decide +kernel
theorem dX9_sum_166 : decode cX9_sum 166 = .ok (.iinc 2 64, 3) := by decide +kernel
theorem dX9_sum_169 : decode cX9_sum 169 = .ok (.goto (-16), 3) := by decide +kernel
theorem dX9_sum_172 : decode cX9_sum 172 = .ok (.iconst 0, 1) := by decide +kernel
theorem dX9_sum_173 : decode cX9_sum 173 = .ok (.istore_n 2, 1) := by decide +kernel
theorem dX9_sum_174 : decode cX9_sum 174 = .ok (.iload_n 2, 1) := by decide +kernel
theorem dX9_sum_175 : decode cX9_sum 175 = .ok (.bipush 32, 2) := by decide +kernel
theorem dX9_sum_177 : decode cX9_sum 177 = .ok (.if_icmp .ge 37, 3) := by decide +kernel
theorem dX9_sum_180 : decode cX9_sum 180 = .ok (.aload_n 0, 1) := by decide +kernel
theorem dX9_sum_181 : decode cX9_sum 181 = .ok (.getfield 178, 3) := by decide +kernel
theorem dX9_sum_184 : decode cX9_sum 184 = .ok (.iload_n 2, 1) := by decide +kernel
theorem dX9_sum_185 : decode cX9_sum 185 = .ok (.aload_n 0, 1) := by decide +kernel
theorem dX9_sum_186 : decode cX9_sum 186 = .ok (.getfield 175, 3) := by decide +kernel
theorem dX9_sum_189 : decode cX9_sum 189 = .ok (.iload_n 2, 1) := by decide +kernel
theorem dX9_sum_190 : decode cX9_sum 190 = .ok (.iconst 4, 1) := by decide +kernel
theorem dX9_sum_191 : decode cX9_sum 191 = .ok (.idiv, 1) := by decide +kernel
theorem dX9_sum_192 : decode cX9_sum 192 = .ok (.iaload, 1) := by decide +kernel
theorem dX9_sum_193 : decode cX9_sum 193 = .ok (.bipush 24, 2) := by decide +kernel
theorem dX9_sum_195 : decode cX9_sum 195 = .ok (.bipush 8, 2) := by decide +kernel
theorem dX9_sum_197 : decode cX9_sum 197 = .ok (.iload_n 2, 1) := by decide +kernel
theorem dX9_sum_198 : decode cX9_sum 198 = .ok (.iconst 4, 1) := by decide +kernel
theorem dX9_sum_199 : decode cX9_sum 199 = .ok (.irem, 1) := by decide +kernel
theorem dX9_sum_200 : decode cX9_sum 200 = .ok (.imul, 1) := by decide +kernel
theorem dX9_sum_201 : decode cX9_sum 201 = .ok (.isub, 1) := by decide +kernel
theorem dX9_sum_202 : decode cX9_sum 202 = .ok (.ishr, 1) := by decide +kernel
theorem dX9_sum_203 : decode cX9_sum 203 = .ok (.sipush 255, 3) := by decide +kernel
theorem dX9_sum_206 : decode cX9_sum 206 = .ok (.iand, 1) := by decide +kernel
theorem dX9_sum_207 : decode cX9_sum 207 = .ok (.iastore, 1) := by decide +kernel
theorem dX9_sum_208 : decode cX9_sum 208 = .ok (.iinc 2 1, 3) := by decide +kernel
theorem dX9_sum_211 : decode cX9_sum 211 = .ok (.goto (-37), 3) := by decide +kernel
theorem dX9_sum_214 : decode cX9_sum 214 = .ok (.aload_n 0, 1) := by decide +kernel
theorem dX9_sum_215 : decode cX9_sum 215 = .ok (.iconst 0, 1) := by decide +kernel
theorem dX9_sum_216 : decode cX9_sum 216 = .ok (.putfield 327, 3) := by decide +kernel
theorem dX9_sum_219 : decode cX9_sum 219 = .ok (.return_, 1) := by decide +kernel
theorem dX9_block_0 : decode cX9_block 0 = .ok (.iconst 0, 1) := by decide +kernel
theorem dX9_block_1 : decode cX9_block 1 = .ok (.istore_n 2, 1) := by decide +kernel
theorem dX9_block_2 : decode cX9_block 2 = .ok (.iload_n 2, 1) := by decide +kernel
theorem dX9_block_3 : decode cX9_block 3 = .ok (.bipush 16, 2) := by decide +kernel
theorem dX9_block_5 : decode cX9_block 5 = .ok (.if_icmp .ge 52, 3) := by decide +kernel
theorem dX9_block_8 : decode cX9_block 8 = .ok (.iconst 0, 1) := by decide +kernel
theorem dX9_block_9 : decode cX9_block 9 = .ok (.istore_n 3, 1) := by decide +kernel
theorem dX9_block_10 : decode cX9_block 10 = .ok (.iconst 0, 1) := by decide +kernel
theorem dX9_block_11 : decode cX9_block 11 = .ok (.istore 4, 2) := by decide +kernel
theorem dX9_block_13 : decode cX9_block 13 = .ok (.iload 4, 2) := by decide +kernel
theorem dX9_block_15 : decode cX9_block 15 = .ok (.iconst 4, 1) := by decide +kernel
theorem dX9_block_16 : decode cX9_block 16 = .ok (.if_icmp .ge 28, 3) := by decide +kernel
theorem dX9_block_19 : decode cX9_block 19 = .ok (.iload_n 3, 1) := by decide +kernel
theorem dX9_block_20 : decode cX9_block 20 = .ok (.bipush 8, 2) := by decide +kernel
theorem dX9_block_22 : decode cX9_block 22 = .ok (.ishl, 1) := by decide +kernel
theorem dX9_block_23 : decode cX9_block 23 = .ok (.aload_n 0, 1) := by decide +kernel
theorem dX9_block_24 : decode cX9_block 24 = .ok (.getfield 169, 3) := by decide +kernel
theorem dX9_block_27 : decode cX9_block 27 = .ok (.iload_n 1, 1) := by decide +kernel
theorem dX9_block_28 : decode cX9_block 28 = .ok (.iconst 4, 1) := by decide +kernel
theorem dX9_block_29 : decode cX9_block 29 = .ok (.iload_n 2, 1) := by decide +kernel
theorem dX9_block_30 : decode cX9_block 30 = .ok (.imul, 1) := by decide +kernel
theorem dX9_block_31 : decode cX9_block 31 = .ok (.iadd, 1) := by decide +kernel
theorem dX9_block_32 : decode cX9_block 32 = .ok (.iload 4, 2) := by decide +kernel
theorem dX9_block_34 : decode cX9_block 34 = .ok (.iadd, 1) := by decide +kernel
theorem dX9_block_35 : decode cX9_block 35 = .ok (.iaload, 1) := by decide +kernel
theorem dX9_block_36 : decode cX9_block 36 = .ok (.ior, 1) := by decide +kernel
theorem dX9_block_37 : decode cX9_block 37 = .ok (.istore_n 3, 1) := by decide +kernel
theorem dX9_block_38 : decode cX9_block 38 = .ok (.iinc 4 1, 3) := by decide +kernel
theorem dX9_block_41 : decode cX9_block 41 = .ok (.goto (-28), 3) := by decide +kernel
theorem dX9_block_44 : decode cX9_block 44 = .ok (.aload_n 0, 1) := by decide +kernel
theorem dX9_block_45 : decode cX9_block 45 = .ok (.getfield 172, 3) := by decide +kernel
theorem dX9_block_48 : decode cX9_block 48 = .ok (.iload_n 2, 1) := by decide +kernel
theorem dX9_block_49 : decode cX9_block 49 = .ok (.iload_n 3, 1) := by decide +kernel
theorem dX9_block_50 : decode cX9_block 50 = .ok (.iastore, 1) := by decide +kernel
theorem dX9_block_51 : decode cX9_block 51 = .ok (.iinc 2 1, 3) := by decide +kernel
theorem dX9_block_54 : decode cX9_block 54 = .ok (.goto (-52), 3) := by decide +kernel
theorem dX9_block_57 : decode cX9_block 57 = .ok (.bipush 16, 2) := by decide +kernel
theorem dX9_block_59 : decode cX9_block 59 = .ok (.istore_n 2, 1) := by decide +kernel
theorem dX9_block_60 : decode cX9_block 60 = .ok (.iload_n 2, 1) := by decide +kernel
theorem dX9_block_61 : decode cX9_block 61 = .ok (.bipush 64, 2) := by decide +kernel
theorem dX9_block_63 : decode cX9_block 63 = .ok (.if_icmp .ge 102, 3) := by decide +kernel
theorem dX9_block_66 : decode cX9_block 66 = .ok (.aload_n 0, 1) := by decide +kernel
theorem dX9_block_67 : decode cX9_block 67 = .ok (.getfield 172, 3) := by decide +kernel
theorem dX9_block_70 : decode cX9_block 70 = .ok (.iload_n 2, 1) := by decide +kernel
theorem dX9_block_71 : decode cX9_block 71 = .ok (.bipush 15, 2) := by decide +kernel
theorem dX9_block_73 : decode cX9_block 73 = .ok (.isub, 1) := by decide +kernel
theorem dX9_block_74 : decode cX9_block 74 = .ok (.iaload, 1) := by decide +kernel
theorem dX9_block_75 : decode cX9_block 75 = .ok (.istore_n 3, 1) := by decide +kernel
theorem dX9_block_76 : decode cX9_block 76 = .ok (.aload_n 0, 1) := by decide +kernel
theorem dX9_block_77 : decode cX9_block 77 = .ok (.getfield 172, 3) := by decide +kernel
theorem dX9_block_80 : decode cX9_block 80 = .ok (.iload_n 2, 1) := by decide +kernel
theorem dX9_block_81 : decode cX9_block 81 = .ok (.iconst 2, 1) := by decide +kernel
theorem dX9_block_82 : decode cX9_block 82 = .ok (.isub, 1) := by decide +kernel
theorem dX9_block_83 : decode cX9_block 83 = .ok (.iaload, 1) := by decide +kernel
theorem dX9_block_84 : decode cX9_block 84 = .ok (.istore 4, 2) := by decide +kernel
theorem dX9_block_86 : decode cX9_block 86 = .ok (.iload_n 3, 1) := by decide +kernel
theorem dX9_block_87 : decode cX9_block 87 = .ok (.bipush 7, 2) := by decide +kernel
theorem dX9_block_89 : decode cX9_block 89 = .ok (.invokestatic 344, 3) := by decide +kernel
theorem dX9_block_92 : decode cX9_block 92 = .ok (.iload_n 3, 1) := by decide +kernel
theorem dX9_block_93 : decode cX9_block 93 = .ok (.bipush 18, 2) := by decide +kernel
theorem dX9_block_95 : decode cX9_block 95 = .ok (.invokestatic 344, 3) := by decide +kernel
theorem dX9_block_98 : decode cX9_block 98 = .ok (.ixor, 1) := by decide +kernel
theorem dX9_block_99 : decode cX9_block 99 = .ok (.iload_n 3, 1) := by decide +kernel
theorem dX9_block_100 : decode cX9_block 100 = .ok (.iconst 3, 1) := by decide +kernel
theorem dX9_block_101 : decode cX9_block 101 = .ok (.iushr, 1) := by decide +kernel
theorem dX9_block_102 : decode cX9_block 102 = .ok (.ixor, 1) := by decide +kernel
theorem dX9_block_103 : decode cX9_block 103 = .ok (.istore 5, 2) := by decide +kernel
theorem dX9_block_105 : decode cX9_block 105 = .ok (.iload 4, 2) := by decide +kernel
theorem dX9_block_107 : decode cX9_block 107 = .ok (.bipush 17, 2) := by decide +kernel
theorem dX9_block_109 : decode cX9_block 109 = .ok (.invokestatic 344, 3) := by decide +kernel
theorem dX9_block_112 : decode cX9_block 112 = .ok (.iload 4, 2) := by decide +kernel
theorem dX9_block_114 : decode cX9_block 114 = .ok (.bipush 19, 2) := by decide +kernel
theorem dX9_block_116 : decode cX9_block 116 = .ok (.invokestatic 344, 3) := by decide +kernel
theorem dX9_block_119 : decode cX9_block 119 = .ok (.ixor, 1) := by decide +kernel
theorem dX9_block_120 : decode cX9_block 120 = .ok (.iload 4, 2) := by decide +kernel
theorem dX9_block_122 : decode cX9_block 122 = .ok (.bipush 10, 2) := by decide +kernel
theorem dX9_block_124 : decode cX9_block 124 = .ok (.iushr, 1) := by decide +kernel
theorem dX9_block_125 : decode cX9_block 125 = .ok (.ixor, 1) := by decide +kernel
theorem dX9_block_126 : decode cX9_block 126 = .ok (.istore 6, 2) := by decide +kernel
theorem dX9_block_128 : decode cX9_block 128 = .ok (.aload_n 0, 1) := by decide +kernel
theorem dX9_block_129 : decode cX9_block 129 = .ok (.getfield 172, 3) := by decide +kernel
theorem dX9_block_132 : decode cX9_block 132 = .ok (.iload_n 2, 1) := by decide +kernel
theorem dX9_block_133 : decode cX9_block 133 = .ok (.aload_n 0, 1) := by decide +kernel
theorem dX9_block_134 : decode cX9_block 134 = .ok (.getfield 172, 3) := by decide +kernel
theorem dX9_block_137 : decode cX9_block 137 = .ok (.iload_n 2, 1) := by decide +kernel
theorem dX9_block_138 : decode cX9_block 138 = .ok (.bipush 16, 2) := by decide +kernel
theorem dX9_block_140 : decode cX9_block 140 = .ok (.isub, 1) := by decide +kernel
theorem dX9_block_141 : decode cX9_block 141 = .ok (.iaload, 1) := by decide +kernel
theorem dX9_block_142 : decode cX9_block 142 = .ok (.iload 5, 2) := by decide +kernel
theorem dX9_block_144 : decode cX9_block 144 = .ok (.iadd, 1) := by decide +kernel
theorem dX9_block_145 : decode cX9_block 145 = .ok (.aload_n 0, 1) := by decide +kernel
theorem dX9_block_146 : decode cX9_block 146 = .ok (.getfield 172, 3) := by decide +kernel
theorem dX9_block_149 : decode cX9_block 149 = .ok (.iload_n 2, 1) := by decide +kernel
theorem dX9_block_150 : decode cX9_block 150 = .ok (.bipush 7, 2) := by decide +kernel
theorem dX9_block_152 : decode cX9_block 152 = .ok (.isub, 1) := by decide +kernel
theorem dX9_block_153 : decode cX9_block 153 = .ok (.iaload, 1) := by decide +kernel
theorem dX9_block_154 : decode cX9_block 154 = .ok (.iadd, 1) := by decide +kernel
theorem dX9_block_155 : decode cX9_block 155 = .ok (.iload 6, 2) := by decide +kernel
theorem dX9_block_157 : decode cX9_block 157 = .ok (.iadd, 1) := by decide +kernel
theorem dX9_block_158 : decode cX9_block 158 = .ok (.iastore, 1) := by decide +kernel
theorem dX9_block_159 : decode cX9_block 159 = .ok (.iinc 2 1, 3) := by decide +kernel
theorem dX9_block_162 : decode cX9_block 162 = .ok (.goto (-102), 3) := by decide +kernel
theorem dX9_block_165 : decode cX9_block 165 = .ok (.aload_n 0, 1) := by decide +kernel
theorem dX9_block_166 : decode cX9_block 166 = .ok (.getfield 175, 3) := by decide +kernel
theorem dX9_block_169 : decode cX9_block 169 = .ok (.iconst 0, 1) := by decide +kernel
theorem dX9_block_170 : decode cX9_block 170 = .ok (.iaload, 1) := by decide +kernel
theorem dX9_block_171 : decode cX9_block 171 = .ok (.istore_n 2, 1) := by decide +kernel
theorem dX9_block_172 : decode cX9_block 172 = .ok (.aload_n 0, 1) := by decide +kernel
theorem dX9_block_173 : decode cX9_block 173 = .ok (.getfield 175, 3) := by decide +kernel
theorem dX9_block_176 : decode cX9_block 176 = .ok (.iconst 1, 1) := by decide +kernel
theorem dX9_block_177 : decode cX9_block 177 = .ok (.iaload, 1) := by decide +kernel
theorem dX9_block_178 : decode cX9_block 178 = .ok (.istore_n 3, 1) := by decide +kernel
theorem dX9_block_179 : decode cX9_block 179 = .ok (.aload_n 0, 1) := by decide +kernel
theorem dX9_block_180 : decode cX9_block 180 = .ok (.getfield 175, 3) := by decide +kernel
theorem dX9_block_183 : decode cX9_block 183 = .ok (.iconst 2, 1) := by decide +kernel
theorem dX9_block_184 : decode cX9_block 184 = .ok (.iaload, 1) := by decide +kernel
theorem dX9_block_185 : decode cX9_block 185 = .ok (.istore 4, 2) := by decide +kernel
