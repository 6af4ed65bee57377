theorem dX7_isThere_2 : decode cX7_isThere 2 = .ok (.getfield 59, 3) := by decide +kernel
theorem dX7_isThere_5 : decode cX7_isThere 5 = .ok (.iconst 2, 1) := by decide +kernel
theorem dX7_isThere_6 : decode cX7_isThere 6 = .ok (.iload_n 1, 1) := by decide +kernel
theorem dX7_isThere_7 : decode cX7_isThere 7 = .ok (.imul, 1) := by decide +kernel
theorem dX7_isThere_8 : decode cX7_isThere 8 = .ok (.iaload, 1) := by decide +kernel
theorem dX7_isThere_9 : decode cX7_isThere 9 = .ok (.if_icmp .lt 21, 3) := by decide +kernel
theorem dX7_isThere_12 : decode cX7_isThere 12 = .ok (.iload_n 2, 1) := by decide +kernel
theorem dX7_isThere_13 : decode cX7_isThere 13 = .ok (.aload_n 0, 1) := by decide +kernel
theorem dX7_isThere_14 : decode cX7_isThere 14 = .ok (.getfield 59, 3) := by decide +kernel
theorem dX7_isThere_17 : decode cX7_isThere 17 = .ok (.iconst 2, 1) := by decide +kernel
theorem dX7_isThere_18 : decode cX7_isThere 18 = .ok (.iload_n 1, 1) := by decide +kernel
theorem dX7_isThere_19 : decode cX7_isThere 19 = .ok (.imul, 1) := by decide +kernel
theorem dX7_isThere_20 : decode cX7_isThere 20 = .ok (.iconst 1, 1) := by decide +kernel
theorem dX7_isThere_21 : decode cX7_isThere 21 = .ok (.iadd, 1) := by decide +kernel
theorem dX7_isThere_22 : decode cX7_isThere 22 = .ok (.iaload, 1) := by decide +kernel
theorem dX7_isThere_23 : decode cX7_isThere 23 = .ok (.if_icmp .gt 7, 3) := by decide +kernel
theorem dX7_isThere_26 : decode cX7_isThere 26 = .ok (.iconst 1, 1) := by decide +kernel
theorem dX7_isThere_27 : decode cX7_isThere 27 = .ok (.goto 4, 3) := by decide +kernel
theorem dX7_isThere_30 : decode cX7_isThere 30 = .ok (.iconst 0, 1) := by decide +kernel
theorem dX7_isThere_31 : decode cX7_isThere 31 = .ok (.ireturn, 1) := by decide +kernel
theorem dX7_fitsAt_0 : decode cX7_fitsAt 0 = .ok (.aload_n 0, 1) := by decide +kernel
theorem dX7_fitsAt_1 : decode cX7_fitsAt 1 = .ok (.getfield 32, 3) := by decide +kernel
theorem dX7_fitsAt_4 : decode cX7_fitsAt 4 = .ok (.iconst 5, 1) := by decide +kernel
theorem dX7_fitsAt_5 : decode cX7_fitsAt 5 = .ok (.iload_n 2, 1) := by decide +kernel
theorem dX7_fitsAt_6 : decode cX7_fitsAt 6 = .ok (.imul, 1) := by decide +kernel
theorem dX7_fitsAt_7 : decode cX7_fitsAt 7 = .ok (.iconst 1, 1) := by decide +kernel
theorem dX7_fitsAt_8 : decode cX7_fitsAt 8 = .ok (.iadd, 1) := by decide +kernel
theorem dX7_fitsAt_9 : decode cX7_fitsAt 9 = .ok (.iaload, 1) := by decide +kernel
theorem dX7_fitsAt_10 : decode cX7_fitsAt 10 = .ok (.istore 7, 2) := by decide +kernel
theorem dX7_fitsAt_12 : decode cX7_fitsAt 12 = .ok (.aload_n 0, 1) := by decide +kernel
theorem dX7_fitsAt_13 : decode cX7_fitsAt 13 = .ok (.iload_n 1, 1) := by decide +kernel
theorem dX7_fitsAt_14 : decode cX7_fitsAt 14 = .ok (.iload 7, 2) := by decide +kernel
theorem dX7_fitsAt_16 : decode cX7_fitsAt 16 = .ok (.invokevirtual 165, 3) := by decide +kernel
theorem dX7_fitsAt_19 : decode cX7_fitsAt 19 = .ok (.ifCond .ne 5, 3) := by decide +kernel
theorem dX7_fitsAt_22 : decode cX7_fitsAt 22 = .ok (.iconst 0, 1) := by decide +kernel
theorem dX7_fitsAt_23 : decode cX7_fitsAt 23 = .ok (.ireturn, 1) := by decide +kernel
theorem dX7_fitsAt_24 : decode cX7_fitsAt 24 = .ok (.sipush 601, 3) := by decide +kernel
theorem dX7_fitsAt_27 : decode cX7_fitsAt 27 = .ok (.iload_n 1, 1) := by decide +kernel
theorem dX7_fitsAt_28 : decode cX7_fitsAt 28 = .ok (.imul, 1) := by decide +kernel
theorem dX7_fitsAt_29 : decode cX7_fitsAt 29 = .ok (.iload 7, 2) := by decide +kernel
theorem dX7_fitsAt_31 : decode cX7_fitsAt 31 = .ok (.iadd, 1) := by decide +kernel
theorem dX7_fitsAt_32 : decode cX7_fitsAt 32 = .ok (.sipush 300, 3) := by decide +kernel
theorem dX7_fitsAt_35 : decode cX7_fitsAt 35 = .ok (.iadd, 1) := by decide +kernel
theorem dX7_fitsAt_36 : decode cX7_fitsAt 36 = .ok (.istore 8, 2) := by decide +kernel
theorem dX7_fitsAt_38 : decode cX7_fitsAt 38 = .ok (.aload_n 0, 1) := by decide +kernel
theorem dX7_fitsAt_39 : decode cX7_fitsAt 39 = .ok (.getfield 32, 3) := by decide +kernel
theorem dX7_fitsAt_42 : decode cX7_fitsAt 42 = .ok (.iconst 5, 1) := by decide +kernel
theorem dX7_fitsAt_43 : decode cX7_fitsAt 43 = .ok (.iload_n 2, 1) := by decide +kernel
theorem dX7_fitsAt_44 : decode cX7_fitsAt 44 = .ok (.imul, 1) := by decide +kernel
theorem dX7_fitsAt_45 : decode cX7_fitsAt 45 = .ok (.iaload, 1) := by decide +kernel
theorem dX7_fitsAt_46 : decode cX7_fitsAt 46 = .ok (.iconst 1, 1) := by decide +kernel
theorem dX7_fitsAt_47 : decode cX7_fitsAt 47 = .ok (.if_icmp .ne 7, 3) := by decide +kernel
theorem dX7_fitsAt_50 : decode cX7_fitsAt 50 = .ok (.iconst 1, 1) := by decide +kernel
theorem dX7_fitsAt_51 : decode cX7_fitsAt 51 = .ok (.goto 4, 3) := by decide +kernel
theorem dX7_fitsAt_54 : decode cX7_fitsAt 54 = .ok (.iconst 0, 1) := by decide +kernel
theorem dX7_fitsAt_55 : decode cX7_fitsAt 55 = .ok (.istore 9, 2) := by decide +kernel
theorem dX7_fitsAt_57 : decode cX7_fitsAt 57 = .ok (.aload_n 0, 1) := by decide +kernel
theorem dX7_fitsAt_58 : decode cX7_fitsAt 58 = .ok (.getfield 63, 3) := by decide +kernel
theorem dX7_fitsAt_61 : decode cX7_fitsAt 61 = .ok (.iload 8, 2) := by decide +kernel
theorem dX7_fitsAt_63 : decode cX7_fitsAt 63 = .ok (.laload, 1) := by decide +kernel
theorem dX7_fitsAt_64 : decode cX7_fitsAt 64 = .ok (.iload 9, 2) := by decide +kernel
theorem dX7_fitsAt_66 : decode cX7_fitsAt 66 = .ok (.ifCond .eq 7, 3) := by decide +kernel
theorem dX7_fitsAt_69 : decode cX7_fitsAt 69 = .ok (.lconst 0, 1) := by decide +kernel
theorem dX7_fitsAt_70 : decode cX7_fitsAt 70 = .ok (.goto 4, 3) := by decide +kernel
theorem dX7_fitsAt_73 : decode cX7_fitsAt 73 = .ok (.lload_n 3, 1) := by decide +kernel
theorem dX7_fitsAt_74 : decode cX7_fitsAt 74 = .ok (.lsub, 1) := by decide +kernel
theorem dX7_fitsAt_75 : decode cX7_fitsAt 75 = .ok (.lstore 10, 2) := by decide +kernel
theorem dX7_fitsAt_77 : decode cX7_fitsAt 77 = .ok (.aload_n 0, 1) := by decide +kernel
theorem dX7_fitsAt_78 : decode cX7_fitsAt 78 = .ok (.getfield 67, 3) := by decide +kernel
theorem dX7_fitsAt_81 : decode cX7_fitsAt 81 = .ok (.iload 8, 2) := by decide +kernel
theorem dX7_fitsAt_83 : decode cX7_fitsAt 83 = .ok (.laload, 1) := by decide +kernel
theorem dX7_fitsAt_84 : decode cX7_fitsAt 84 = .ok (.iload 9, 2) := by decide +kernel
theorem dX7_fitsAt_86 : decode cX7_fitsAt 86 = .ok (.ifCond .eq 7, 3) := by decide +kernel
theorem dX7_fitsAt_89 : decode cX7_fitsAt 89 = .ok (.lconst 0, 1) := by decide +kernel
theorem dX7_fitsAt_90 : decode cX7_fitsAt 90 = .ok (.goto 5, 3) := by decide +kernel
theorem dX7_fitsAt_93 : decode cX7_fitsAt 93 = .ok (.lload 5, 2) := by decide +kernel
theorem dX7_fitsAt_95 : decode cX7_fitsAt 95 = .ok (.lsub, 1) := by decide +kernel
theorem dX7_fitsAt_96 : decode cX7_fitsAt 96 = .ok (.lstore 12, 2) := by decide +kernel
theorem dX7_fitsAt_98 : decode cX7_fitsAt 98 = .ok (.aload_n 0, 1) := by decide +kernel
theorem dX7_fitsAt_99 : decode cX7_fitsAt 99 = .ok (.getfield 32, 3) := by decide +kernel
theorem dX7_fitsAt_102 : decode cX7_fitsAt 102 = .ok (.iconst 5, 1) := by decide +kernel
theorem dX7_fitsAt_103 : decode cX7_fitsAt 103 = .ok (.iload_n 2, 1) := by decide +kernel
theorem dX7_fitsAt_104 : decode cX7_fitsAt 104 = .ok (.imul, 1) := by decide +kernel
theorem dX7_fitsAt_105 : decode cX7_fitsAt 105 = .ok (.iconst 2, 1) := by decide +kernel
theorem dX7_fitsAt_106 : decode cX7_fitsAt 106 = .ok (.iadd, 1) := by decide +kernel
theorem dX7_fitsAt_107 : decode cX7_fitsAt 107 = .ok (.iaload, 1) := by decide +kernel
theorem dX7_fitsAt_108 : decode cX7_fitsAt 108 = .ok (.i2l, 1) := by decide +kernel
theorem dX7_fitsAt_109 : decode cX7_fitsAt 109 = .ok (.lstore 14, 2) := by decide +kernel
theorem dX7_fitsAt_111 : decode cX7_fitsAt 111 = .ok (.aload_n 0, 1) := by decide +kernel
theorem dX7_fitsAt_112 : decode cX7_fitsAt 112 = .ok (.getfield 32, 3) := by decide +kernel
theorem dX7_fitsAt_115 : decode cX7_fitsAt 115 = .ok (.iconst 5, 1) := by decide +kernel
theorem dX7_fitsAt_116 : decode cX7_fitsAt 116 = .ok (.iload_n 2, 1) := by decide +kernel
theorem dX7_fitsAt_117 : decode cX7_fitsAt 117 = .ok (.imul, 1) := by decide +kernel
theorem dX7_fitsAt_118 : decode cX7_fitsAt 118 = .ok (.iconst 3, 1) := by decide +kernel
theorem dX7_fitsAt_119 : decode cX7_fitsAt 119 = .ok (.iadd, 1) := by decide +kernel
theorem dX7_fitsAt_120 : decode cX7_fitsAt 120 = .ok (.iaload, 1) := by decide +kernel
theorem dX7_fitsAt_121 : decode cX7_fitsAt 121 = .ok (.i2l, 1) := by decide +kernel
theorem dX7_fitsAt_122 : decode cX7_fitsAt 122 = .ok (.lstore 16, 2) := by decide +kernel
theorem dX7_fitsAt_124 : decode cX7_fitsAt 124 = .ok (.lload 14, 2) := by decide +kernel
theorem dX7_fitsAt_126 : decode cX7_fitsAt 126 = .ok (.lload 10, 2) := by decide +kernel
theorem dX7_fitsAt_128 : decode cX7_fitsAt 128 = .ok (.lmul, 1) := by decide +kernel
theorem dX7_fitsAt_129 : decode cX7_fitsAt 129 = .ok (.lload 16, 2) := by decide +kernel
theorem dX7_fitsAt_131 : decode cX7_fitsAt 131 = .ok (.lload 12, 2) := by decide +kernel
theorem dX7_fitsAt_133 : decode cX7_fitsAt 133 = .ok (.lmul, 1) := by decide +kernel
theorem dX7_fitsAt_134 : decode cX7_fitsAt 134 = .ok (.ladd, 1) := by decide +kernel
theorem dX7_fitsAt_135 : decode cX7_fitsAt 135 = .ok (.lstore 18, 2) := by decide +kernel
theorem dX7_fitsAt_137 : decode cX7_fitsAt 137 = .ok (.lload 14, 2) := by decide +kernel
theorem dX7_fitsAt_139 : decode cX7_fitsAt 139 = .ok (.lload 12, 2) := by decide +kernel
theorem dX7_fitsAt_141 : decode cX7_fitsAt 141 = .ok (.lmul, 1) := by decide +kernel
theorem dX7_fitsAt_142 : decode cX7_fitsAt 142 = .ok (.lload 16, 2) := by decide +kernel
theorem dX7_fitsAt_144 : decode cX7_fitsAt 144 = .ok (.lload 10, 2) := by decide +kernel
theorem dX7_fitsAt_146 : decode cX7_fitsAt 146 = .ok (.lmul, 1) := by decide +kernel
theorem dX7_fitsAt_147 : decode cX7_fitsAt 147 = .ok (.lsub, 1) := by decide +kernel
theorem dX7_fitsAt_148 : decode cX7_fitsAt 148 = .ok (.lstore 20, 2) := by decide +kernel
theorem dX7_fitsAt_150 : decode cX7_fitsAt 150 = .ok (.lload 20, 2) := by decide +kernel
theorem dX7_fitsAt_152 : decode cX7_fitsAt 152 = .ok (.lconst 0, 1) := by decide +kernel
theorem dX7_fitsAt_153 : decode cX7_fitsAt 153 = .ok (.lcmp, 1) := by decide +kernel
theorem dX7_fitsAt_154 : decode cX7_fitsAt 154 = .ok (.ifCond .ge 9, 3) := by decide +kernel
theorem dX7_fitsAt_157 : decode cX7_fitsAt 157 = .ok (.lload 20, 2) := by decide +kernel
theorem dX7_fitsAt_159 : decode cX7_fitsAt 159 = .ok (.lneg, 1) := by decide +kernel
theorem dX7_fitsAt_160 : decode cX7_fitsAt 160 = .ok (.goto 5, 3) := by decide +kernel
theorem dX7_fitsAt_163 : decode cX7_fitsAt 163 = .ok (.lload 20, 2) := by decide +kernel
theorem dX7_fitsAt_165 : decode cX7_fitsAt 165 = .ok (.lstore 20, 2) := by decide +kernel
theorem dX7_fitsAt_167 : decode cX7_fitsAt 167 = .ok (.lload 18, 2) := by decide +kernel
theorem dX7_fitsAt_169 : decode cX7_fitsAt 169 = .ok (.lconst 0, 1) := by decide +kernel
theorem dX7_fitsAt_170 : decode cX7_fitsAt 170 = .ok (.lcmp, 1) := by decide +kernel
theorem dX7_fitsAt_171 : decode cX7_fitsAt 171 = .ok (.ifCond .le 31, 3) := by decide +kernel
theorem dX7_fitsAt_174 : decode cX7_fitsAt 174 = .ok (.ldc2_w 169, 3) := by decide +kernel
theorem dX7_fitsAt_177 : decode cX7_fitsAt 177 = .ok (.lload 20, 2) := by decide +kernel
theorem dX7_fitsAt_179 : decode cX7_fitsAt 179 = .ok (.lmul, 1) := by decide +kernel
theorem dX7_fitsAt_180 : decode cX7_fitsAt 180 = .ok (.aload_n 0, 1) := by decide +kernel
theorem dX7_fitsAt_181 : decode cX7_fitsAt 181 = .ok (.getfield 32, 3) := by decide +kernel
theorem dX7_fitsAt_184 : decode cX7_fitsAt 184 = .ok (.iconst 5, 1) := by decide +kernel
theorem dX7_fitsAt_185 : decode cX7_fitsAt 185 = .ok (.iload_n 2, 1) := by decide +kernel
theorem dX7_fitsAt_186 : decode cX7_fitsAt 186 = .ok (.imul, 1) := by decide +kernel
theorem dX7_fitsAt_187 : decode cX7_fitsAt 187 = .ok (.iconst 4, 1) := by decide +kernel
theorem dX7_fitsAt_188 : decode cX7_fitsAt 188 = .ok (.iadd, 1) := by decide +kernel
theorem dX7_fitsAt_189 : decode cX7_fitsAt 189 = .ok (.iaload, 1) := by decide +kernel
theorem dX7_fitsAt_190 : decode cX7_fitsAt 190 = .ok (.i2l, 1) := by decide +kernel
theorem dX7_fitsAt_191 : decode cX7_fitsAt 191 = .ok (.lload 18, 2) := by decide +kernel
theorem dX7_fitsAt_193 : decode cX7_fitsAt 193 = .ok (.lmul, 1) := by decide +kernel
theorem dX7_fitsAt_194 : decode cX7_fitsAt 194 = .ok (.lcmp, 1) := by decide +kernel
theorem dX7_fitsAt_195 : decode cX7_fitsAt 195 = .ok (.ifCond .gt 7, 3) := by decide +kernel
theorem dX7_fitsAt_198 : decode cX7_fitsAt 198 = .ok (.iconst 1, 1) := by decide +kernel
theorem dX7_fitsAt_199 : decode cX7_fitsAt 199 = .ok (.goto 4, 3) := by decide +kernel
theorem dX7_fitsAt_202 : decode cX7_fitsAt 202 = .ok (.iconst 0, 1) := by decide +kernel
theorem dX7_fitsAt_203 : decode cX7_fitsAt 203 = .ok (.ireturn, 1) := by decide +kernel
theorem dX7_fitsAll_0 : decode cX7_fitsAll 0 = .ok (.iconst 1, 1) := by decide +kernel
theorem dX7_fitsAll_1 : decode cX7_fitsAll 1 = .ok (.istore_n 3, 1) := by decide +kernel
theorem dX7_fitsAll_2 : decode cX7_fitsAll 2 = .ok (.iconst 0, 1) := by decide +kernel
theorem dX7_fitsAll_3 : decode cX7_fitsAll 3 = .ok (.istore 4, 2) := by decide +kernel
theorem dX7_fitsAll_5 : decode cX7_fitsAll 5 = .ok (.iload 4, 2) := by decide +kernel
theorem dX7_fitsAll_7 : decode cX7_fitsAll 7 = .ok (.aload_n 0, 1) := by decide +kernel
theorem dX7_fitsAll_8 : decode cX7_fitsAll 8 = .ok (.getfield 28, 3) := by decide +kernel
theorem dX7_fitsAll_11 : decode cX7_fitsAll 11 = .ok (.if_icmp .ge 74, 3) := by decide +kernel
theorem dX7_fitsAll_14 : decode cX7_fitsAll 14 = .ok (.iload_n 3, 1) := by decide +kernel
theorem dX7_fitsAll_15 : decode cX7_fitsAll 15 = .ok (.ifCond .eq 70, 3) := by decide +kernel
theorem dX7_fitsAll_18 : decode cX7_fitsAll 18 = .ok (.iload 4, 2) := by decide +kernel
theorem dX7_fitsAll_20 : decode cX7_fitsAll 20 = .ok (.iload_n 2, 1) := by decide +kernel
theorem dX7_fitsAll_21 : decode cX7_fitsAll 21 = .ok (.if_icmp .eq 58, 3) := by decide +kernel
theorem dX7_fitsAll_24 : decode cX7_fitsAll 24 = .ok (.aload_n 0, 1) := by decide +kernel
theorem dX7_fitsAll_25 : decode cX7_fitsAll 25 = .ok (.getfield 32, 3) := by decide +kernel
theorem dX7_fitsAll_28 : decode cX7_fitsAll 28 = .ok (.iconst 5, 1) := by decide +kernel
theorem dX7_fitsAll_29 : decode cX7_fitsAll 29 = .ok (.iload 4, 2) := by decide +kernel
theorem dX7_fitsAll_31 : decode cX7_fitsAll 31 = .ok (.imul, 1) := by decide +kernel
theorem dX7_fitsAll_32 : decode cX7_fitsAll 32 = .ok (.iaload, 1) := by decide +kernel
theorem dX7_fitsAll_33 : decode cX7_fitsAll 33 = .ok (.iconst 2, 1) := by decide +kernel
theorem dX7_fitsAll_34 : decode cX7_fitsAll 34 = .ok (.if_icmp .ne 6, 3) := by decide +kernel
theorem dX7_fitsAll_37 : decode cX7_fitsAll 37 = .ok (.goto 42, 3) := by decide +kernel
theorem dX7_fitsAll_40 : decode cX7_fitsAll 40 = .ok (.aload_n 0, 1) := by decide +kernel
theorem dX7_fitsAll_41 : decode cX7_fitsAll 41 = .ok (.getfield 32, 3) := by decide +kernel
theorem dX7_fitsAll_44 : decode cX7_fitsAll 44 = .ok (.iconst 5, 1) := by decide +kernel
theorem dX7_fitsAll_45 : decode cX7_fitsAll 45 = .ok (.iload 4, 2) := by decide +kernel
theorem dX7_fitsAll_47 : decode cX7_fitsAll 47 = .ok (.imul, 1) := by decide +kernel
theorem dX7_fitsAll_48 : decode cX7_fitsAll 48 = .ok (.iconst 1, 1) := by decide +kernel
theorem dX7_fitsAll_49 : decode cX7_fitsAll 49 = .ok (.iadd, 1) := by decide +kernel
theorem dX7_fitsAll_50 : decode cX7_fitsAll 50 = .ok (.iaload, 1) := by decide +kernel
theorem dX7_fitsAll_51 : decode cX7_fitsAll 51 = .ok (.istore 5, 2) := by decide +kernel
theorem dX7_fitsAll_53 : decode cX7_fitsAll 53 = .ok (.aload_n 0, 1) := by decide +kernel
theorem dX7_fitsAll_54 : decode cX7_fitsAll 54 = .ok (.iload_n 1, 1) := by decide +kernel
theorem dX7_fitsAll_55 : decode cX7_fitsAll 55 = .ok (.iload 4, 2) := by decide +kernel
theorem dX7_fitsAll_57 : decode cX7_fitsAll 57 = .ok (.aload_n 0, 1) := by decide +kernel
theorem dX7_fitsAll_58 : decode cX7_fitsAll 58 = .ok (.iconst 0, 1) := by decide +kernel
theorem dX7_fitsAll_59 : decode cX7_fitsAll 59 = .ok (.iload 5, 2) := by decide +kernel
theorem dX7_fitsAll_61 : decode cX7_fitsAll 61 = .ok (.iconst 0, 1) := by decide +kernel
theorem dX7_fitsAll_62 : decode cX7_fitsAll 62 = .ok (.invokevirtual 133, 3) := by decide +kernel
theorem dX7_fitsAll_65 : decode cX7_fitsAll 65 = .ok (.i2l, 1) := by decide +kernel
theorem dX7_fitsAll_66 : decode cX7_fitsAll 66 = .ok (.aload_n 0, 1) := by decide +kernel
theorem dX7_fitsAll_67 : decode cX7_fitsAll 67 = .ok (.iconst 0, 1) := by decide +kernel
theorem dX7_fitsAll_68 : decode cX7_fitsAll 68 = .ok (.iload 5, 2) := by decide +kernel
theorem dX7_fitsAll_70 : decode cX7_fitsAll 70 = .ok (.iconst 1, 1) := by decide +kernel
theorem dX7_fitsAll_71 : decode cX7_fitsAll 71 = .ok (.invokevirtual 133, 3) := by decide +kernel
theorem dX7_fitsAll_74 : decode cX7_fitsAll 74 = .ok (.i2l, 1) := by decide +kernel
theorem dX7_fitsAll_75 : decode cX7_fitsAll 75 = .ok (.invokevirtual 171, 3) := by decide +kernel
theorem dX7_fitsAll_78 : decode cX7_fitsAll 78 = .ok (.istore_n 3, 1) := by decide +kernel
theorem dX7_fitsAll_79 : decode cX7_fitsAll 79 = .ok (.iinc 4 1, 3) := by decide +kernel
theorem dX7_fitsAll_82 : decode cX7_fitsAll 82 = .ok (.goto (-77), 3) := by decide +kernel
theorem dX7_fitsAll_85 : decode cX7_fitsAll 85 = .ok (.iload_n 3, 1) := by decide +kernel
theorem dX7_fitsAll_86 : decode cX7_fitsAll 86 = .ok (.ireturn, 1) := by decide +kernel
theorem dX7_keep_0 : decode cX7_keep 0 = .ok (.aload_n 0, 1) := by decide +kernel
theorem dX7_keep_1 : decode cX7_keep 1 = .ok (.getfield 44, 3) := by decide +kernel
theorem dX7_keep_4 : decode cX7_keep 4 = .ok (.iconst (-1), 1) := by decide +kernel
theorem dX7_keep_5 : decode cX7_keep 5 = .ok (.if_icmp .ne 5, 3) := by decide +kernel
theorem dX7_keep_8 : decode cX7_keep 8 = .ok (.iconst (-1), 1) := by decide +kernel
theorem dX7_keep_9 : decode cX7_keep 9 = .ok (.ireturn, 1) := by decide +kernel
theorem dX7_keep_10 : decode cX7_keep 10 = .ok (.aload_n 0, 1) := by decide +kernel
theorem dX7_keep_11 : decode cX7_keep 11 = .ok (.iconst 0, 1) := by decide +kernel
theorem dX7_keep_12 : decode cX7_keep 12 = .ok (.putfield 50, 3) := by decide +kernel
theorem dX7_keep_15 : decode cX7_keep 15 = .ok (.aload_n 0, 1) := by decide +kernel
theorem dX7_keep_16 : decode cX7_keep 16 = .ok (.aload_n 0, 1) := by decide +kernel
theorem dX7_keep_17 : decode cX7_keep 17 = .ok (.getfield 32, 3) := by decide +kernel
theorem dX7_keep_20 : decode cX7_keep 20 = .ok (.iconst 5, 1) := by decide +kernel
theorem dX7_keep_21 : decode cX7_keep 21 = .ok (.aload_n 0, 1) := by decide +kernel
theorem dX7_keep_22 : decode cX7_keep 22 = .ok (.getfield 44, 3) := by decide +kernel
theorem dX7_keep_25 : decode cX7_keep 25 = .ok (.imul, 1) := by decide +kernel
theorem dX7_keep_26 : decode cX7_keep 26 = .ok (.iconst 1, 1) := by decide +kernel
theorem dX7_keep_27 : decode cX7_keep 27 = .ok (.iadd, 1) := by decide +kernel
theorem dX7_keep_28 : decode cX7_keep 28 = .ok (.iaload, 1) := by decide +kernel
theorem dX7_keep_29 : decode cX7_keep 29 = .ok (.putfield 53, 3) := by decide +kernel
theorem dX7_keep_32 : decode cX7_keep 32 = .ok (.iconst 0, 1) := by decide +kernel
theorem dX7_keep_33 : decode cX7_keep 33 = .ok (.istore_n 1, 1) := by decide +kernel
theorem dX7_keep_34 : decode cX7_keep 34 = .ok (.iload_n 1, 1) := by decide +kernel
theorem dX7_keep_35 : decode cX7_keep 35 = .ok (.aload_n 0, 1) := by decide +kernel
theorem dX7_keep_36 : decode cX7_keep 36 = .ok (.getfield 41, 3) := by decide +kernel
theorem dX7_keep_39 : decode cX7_keep 39 = .ok (.if_icmp .ge 94, 3) := by decide +kernel
theorem dX7_keep_42 : decode cX7_keep 42 = .ok (.iconst 0, 1) := by decide +kernel
theorem dX7_keep_43 : decode cX7_keep 43 = .ok (.istore_n 2, 1) := by decide +kernel
theorem dX7_keep_44 : decode cX7_keep 44 = .ok (.iload_n 2, 1) := by decide +kernel
theorem dX7_keep_45 : decode cX7_keep 45 = .ok (.aload_n 0, 1) := by decide +kernel
theorem dX7_keep_46 : decode cX7_keep 46 = .ok (.getfield 41, 3) := by decide +kernel
theorem dX7_keep_49 : decode cX7_keep 49 = .ok (.if_icmp .ge 78, 3) := by decide +kernel
theorem dX7_keep_52 : decode cX7_keep 52 = .ok (.aload_n 0, 1) := by decide +kernel
theorem dX7_keep_53 : decode cX7_keep 53 = .ok (.iload_n 1, 1) := by decide +kernel
theorem dX7_keep_54 : decode cX7_keep 54 = .ok (.iload_n 2, 1) := by decide +kernel
theorem dX7_keep_55 : decode cX7_keep 55 = .ok (.invokevirtual 175, 3) := by decide +kernel
theorem dX7_keep_58 : decode cX7_keep 58 = .ok (.aload_n 0, 1) := by decide +kernel
theorem dX7_keep_59 : decode cX7_keep 59 = .ok (.aload_n 0, 1) := by decide +kernel
theorem dX7_keep_60 : decode cX7_keep 60 = .ok (.getfield 50, 3) := by decide +kernel
theorem dX7_keep_63 : decode cX7_keep 63 = .ok (.aload_n 0, 1) := by decide +kernel
theorem dX7_keep_64 : decode cX7_keep 64 = .ok (.getfield 53, 3) := by decide +kernel
theorem dX7_keep_67 : decode cX7_keep 67 = .ok (.invokevirtual 178, 3) := by decide +kernel
theorem dX7_keep_70 : decode cX7_keep 70 = .ok (.aload_n 0, 1) := by decide +kernel
theorem dX7_keep_71 : decode cX7_keep 71 = .ok (.aload_n 0, 1) := by decide +kernel
theorem dX7_keep_72 : decode cX7_keep 72 = .ok (.getfield 50, 3) := by decide +kernel
theorem dX7_keep_75 : decode cX7_keep 75 = .ok (.iconst (-1), 1) := by decide +kernel
theorem dX7_keep_76 : decode cX7_keep 76 = .ok (.invokevirtual 181, 3) := by decide +kernel
theorem dX7_keep_79 : decode cX7_keep 79 = .ok (.ifCond .ne 6, 3) := by decide +kernel
theorem dX7_keep_82 : decode cX7_keep 82 = .ok (.goto 39, 3) := by decide +kernel
theorem dX7_keep_85 : decode cX7_keep 85 = .ok (.aload_n 0, 1) := by decide +kernel
theorem dX7_keep_86 : decode cX7_keep 86 = .ok (.getfield 56, 3) := by decide +kernel
theorem dX7_keep_89 : decode cX7_keep 89 = .ok (.iconst 2, 1) := by decide +kernel
theorem dX7_keep_90 : decode cX7_keep 90 = .ok (.aload_n 0, 1) := by decide +kernel
theorem dX7_keep_91 : decode cX7_keep 91 = .ok (.getfield 50, 3) := by decide +kernel
theorem dX7_keep_94 : decode cX7_keep 94 = .ok (.imul, 1) := by decide +kernel
theorem dX7_keep_95 : decode cX7_keep 95 = .ok (.iload_n 1, 1) := by decide +kernel
theorem dX7_keep_96 : decode cX7_keep 96 = .ok (.iastore, 1) := by decide +kernel
theorem dX7_keep_97 : decode cX7_keep 97 = .ok (.aload_n 0, 1) := by decide +kernel
theorem dX7_keep_98 : decode cX7_keep 98 = .ok (.getfield 56, 3) := by decide +kernel
theorem dX7_keep_101 : decode cX7_keep 101 = .ok (.iconst 2, 1) := by decide +kernel
theorem dX7_keep_102 : decode cX7_keep 102 = .ok (.aload_n 0, 1) := by decide +kernel
theorem dX7_keep_103 : decode cX7_keep 103 = .ok (.getfield 50, 3) := by decide +kernel
theorem dX7_keep_106 : decode cX7_keep 106 = .ok (.imul, 1) := by decide +kernel
theorem dX7_keep_107 : decode cX7_keep 107 = .ok (.iconst 1, 1) := by decide +kernel
theorem dX7_keep_108 : decode cX7_keep 108 = .ok (.iadd, 1) := by decide +kernel
theorem dX7_keep_109 : decode cX7_keep 109 = .ok (.iload_n 2, 1) := by decide +kernel
theorem dX7_keep_110 : decode cX7_keep 110 = .ok (.iastore, 1) := by decide +kernel
theorem dX7_keep_111 : decode cX7_keep 111 = .ok (.aload_n 0, 1) := by decide +kernel
theorem dX7_keep_112 : decode cX7_keep 112 = .ok (.dup, 1) := by decide +kernel
theorem dX7_keep_113 : decode cX7_keep 113 = .ok (.getfield 50, 3) := by decide +kernel
theorem dX7_keep_116 : decode cX7_keep 116 = .ok (.iconst 1, 1) := by decide +kernel
theorem dX7_keep_117 : decode cX7_keep 117 = .ok (.iadd, 1) := by decide +kernel
theorem dX7_keep_118 : decode cX7_keep 118 = .ok (.putfield 50, 3) := by decide +kernel
theorem dX7_keep_121 : decode cX7_keep 121 = .ok (.iinc 2 1, 3) := by decide +kernel
theorem dX7_keep_124 : decode cX7_keep 124 = .ok (.goto (-80), 3) := by decide +kernel
theorem dX7_keep_127 : decode cX7_keep 127 = .ok (.iinc 1 1, 3) := by decide +kernel
theorem dX7_keep_130 : decode cX7_keep 130 = .ok (.goto (-96), 3) := by decide +kernel
theorem dX7_keep_133 : decode cX7_keep 133 = .ok (.iconst 0, 1) := by decide +kernel
theorem dX7_keep_134 : decode cX7_keep 134 = .ok (.istore_n 1, 1) := by decide +kernel
theorem dX7_keep_135 : decode cX7_keep 135 = .ok (.iload_n 1, 1) := by decide +kernel
theorem dX7_keep_136 : decode cX7_keep 136 = .ok (.iconst 2, 1) := by decide +kernel
theorem dX7_keep_137 : decode cX7_keep 137 = .ok (.if_icmp .ge 33, 3) := by decide +kernel
theorem dX7_keep_140 : decode cX7_keep 140 = .ok (.aload_n 0, 1) := by decide +kernel
theorem dX7_keep_141 : decode cX7_keep 141 = .ok (.getfield 16, 3) := by decide +kernel
theorem dX7_keep_144 : decode cX7_keep 144 = .ok (.iload_n 1, 1) := by decide +kernel
theorem dX7_keep_145 : decode cX7_keep 145 = .ok (.aload_n 0, 1) := by decide +kernel
theorem dX7_keep_146 : decode cX7_keep 146 = .ok (.getfield 7, 3) := by decide +kernel
theorem dX7_keep_149 : decode cX7_keep 149 = .ok (.iload_n 1, 1) := by decide +kernel
theorem dX7_keep_150 : decode cX7_keep 150 = .ok (.iaload, 1) := by decide +kernel
theorem dX7_keep_151 : decode cX7_keep 151 = .ok (.iastore, 1) := by decide +kernel
theorem dX7_keep_152 : decode cX7_keep 152 = .ok (.aload_n 0, 1) := by decide +kernel
theorem dX7_keep_153 : decode cX7_keep 153 = .ok (.getfield 25, 3) := by decide +kernel
theorem dX7_keep_156 : decode cX7_keep 156 = .ok (.iload_n 1, 1) := by decide +kernel
theorem dX7_keep_157 : decode cX7_keep 157 = .ok (.aload_n 0, 1) := by decide +kernel
theorem dX7_keep_158 : decode cX7_keep 158 = .ok (.getfield 22, 3) := by decide +kernel
theorem dX7_keep_161 : decode cX7_keep 161 = .ok (.iload_n 1, 1) := by decide +kernel
theorem dX7_keep_162 : decode cX7_keep 162 = .ok (.iaload, 1) := by decide +kernel
theorem dX7_keep_163 : decode cX7_keep 163 = .ok (.iastore, 1) := by decide +kernel
theorem dX7_keep_164 : decode cX7_keep 164 = .ok (.iinc 1 1, 3) := by decide +kernel
theorem dX7_keep_167 : decode cX7_keep 167 = .ok (.goto (-32), 3) := by decide +kernel
theorem dX7_keep_170 : decode cX7_keep 170 = .ok (.iconst 0, 1) := by decide +kernel
theorem dX7_keep_171 : decode cX7_keep 171 = .ok (.istore_n 1, 1) := by decide +kernel
theorem dX7_keep_172 : decode cX7_keep 172 = .ok (.iload_n 1, 1) := by decide +kernel
theorem dX7_keep_173 : decode cX7_keep 173 = .ok (.sipush 160, 3) := by decide +kernel
theorem dX7_keep_176 : decode cX7_keep 176 = .ok (.if_icmp .ge 21, 3) := by decide +kernel
theorem dX7_keep_179 : decode cX7_keep 179 = .ok (.aload_n 0, 1) := by decide +kernel
theorem dX7_keep_180 : decode cX7_keep 180 = .ok (.getfield 19, 3) := by decide +kernel
theorem dX7_keep_183 : decode cX7_keep 183 = .ok (.iload_n 1, 1) := by decide +kernel
theorem dX7_keep_184 : decode cX7_keep 184 = .ok (.aload_n 0, 1) := by decide +kernel
theorem dX7_keep_185 : decode cX7_keep 185 = .ok (.getfield 13, 3) := by decide +kernel
theorem dX7_keep_188 : decode cX7_keep 188 = .ok (.iload_n 1, 1) := by decide +kernel
theorem dX7_keep_189 : decode cX7_keep 189 = .ok (.iaload, 1) := by decide +kernel
theorem dX7_keep_190 : decode cX7_keep 190 = .ok (.iastore, 1) := by decide +kernel
theorem dX7_keep_191 : decode cX7_keep 191 = .ok (.iinc 1 1, 3) := by decide +kernel
theorem dX7_keep_194 : decode cX7_keep 194 = .ok (.goto (-22), 3) := by decide +kernel
theorem dX7_keep_197 : decode cX7_keep 197 = .ok (.aload_n 0, 1) := by decide +kernel
theorem dX7_keep_198 : decode cX7_keep 198 = .ok (.getfield 50, 3) := by decide +kernel
theorem dX7_keep_201 : decode cX7_keep 201 = .ok (.ireturn, 1) := by decide +kernel
theorem dX7_isWay_0 : decode cX7_isWay 0 = .ok (.iload_n 1, 1) := by decide +kernel
theorem dX7_isWay_1 : decode cX7_isWay 1 = .ok (.ifCond .lt 15, 3) := by decide +kernel
theorem dX7_isWay_4 : decode cX7_isWay 4 = .ok (.iload_n 1, 1) := by decide +kernel
theorem dX7_isWay_5 : decode cX7_isWay 5 = .ok (.aload_n 0, 1) := by decide +kernel
theorem dX7_isWay_6 : decode cX7_isWay 6 = .ok (.getfield 50, 3) := by decide +kernel
theorem dX7_isWay_9 : decode cX7_isWay 9 = .ok (.if_icmp .ge 7, 3) := by decide +kernel
theorem dX7_isWay_12 : decode cX7_isWay 12 = .ok (.iconst 1, 1) := by decide +kernel
theorem dX7_isWay_13 : decode cX7_isWay 13 = .ok (.goto 4, 3) := by decide +kernel
theorem dX7_isWay_16 : decode cX7_isWay 16 = .ok (.iconst 0, 1) := by decide +kernel
theorem dX7_isWay_17 : decode cX7_isWay 17 = .ok (.ireturn, 1) := by decide +kernel
theorem dX7_way_0 : decode cX7_way 0 = .ok (.aload_n 0, 1) := by decide +kernel
theorem dX7_way_1 : decode cX7_way 1 = .ok (.iload_n 1, 1) := by decide +kernel
theorem dX7_way_2 : decode cX7_way 2 = .ok (.invokevirtual 184, 3) := by decide +kernel
theorem dX7_way_5 : decode cX7_way 5 = .ok (.ifCond .ne 6, 3) := by decide +kernel
theorem dX7_way_8 : decode cX7_way 8 = .ok (.ldc 187, 2) := by decide +kernel
theorem dX7_way_10 : decode cX7_way 10 = .ok (.ireturn, 1) := by decide +kernel
theorem dX7_way_11 : decode cX7_way 11 = .ok (.sipush 601, 3) := by decide +kernel
theorem dX7_way_14 : decode cX7_way 14 = .ok (.iload_n 1, 1) := by decide +kernel
theorem dX7_way_15 : decode cX7_way 15 = .ok (.imul, 1) := by decide +kernel
theorem dX7_way_16 : decode cX7_way 16 = .ok (.aload_n 0, 1) := by decide +kernel
theorem dX7_way_17 : decode cX7_way 17 = .ok (.getfield 53, 3) := by decide +kernel
theorem dX7_way_20 : decode cX7_way 20 = .ok (.iadd, 1) := by decide +kernel
theorem dX7_way_21 : decode cX7_way 21 = .ok (.sipush 300, 3) := by decide +kernel
theorem dX7_way_24 : decode cX7_way 24 = .ok (.iadd, 1) := by decide +kernel
theorem dX7_way_25 : decode cX7_way 25 = .ok (.istore_n 3, 1) := by decide +kernel
theorem dX7_way_26 : decode cX7_way 26 = .ok (.iload_n 2, 1) := by decide +kernel
theorem dX7_way_27 : decode cX7_way 27 = .ok (.tableswitch 98 0 6 #[41, 50, 61, 69, 77, 85, 93], 41) := by decide +kernel
theorem dX7_way_68 : decode cX7_way 68 = .ok (.aload_n 0, 1) := by decide +kernel
theorem dX7_way_69 : decode cX7_way 69 = .ok (.getfield 56, 3) := by decide +kernel
theorem dX7_way_72 : decode cX7_way 72 = .ok (.iconst 2, 1) := by decide +kernel
theorem dX7_way_73 : decode cX7_way 73 = .ok (.iload_n 1, 1) := by decide +kernel
theorem dX7_way_74 : decode cX7_way 74 = .ok (.imul, 1) := by decide +kernel
theorem dX7_way_75 : decode cX7_way 75 = .ok (.iaload, 1) := by decide +kernel
theorem dX7_way_76 : decode cX7_way 76 = .ok (.ireturn, 1) := by decide +kernel
theorem dX7_way_77 : decode cX7_way 77 = .ok (.aload_n 0, 1) := by decide +kernel
theorem dX7_way_78 : decode cX7_way 78 = .ok (.getfield 56, 3) := by decide +kernel
theorem dX7_way_81 : decode cX7_way 81 = .ok (.iconst 2, 1) := by decide +kernel
theorem dX7_way_82 : decode cX7_way 82 = .ok (.iload_n 1, 1) := by decide +kernel
theorem dX7_way_83 : decode cX7_way 83 = .ok (.imul, 1) := by decide +kernel
theorem dX7_way_84 : decode cX7_way 84 = .ok (.iconst 1, 1) := by decide +kernel
theorem dX7_way_85 : decode cX7_way 85 = .ok (.iadd, 1) := by decide +kernel
theorem dX7_way_86 : decode cX7_way 86 = .ok (.iaload, 1) := by decide +kernel
theorem dX7_way_87 : decode cX7_way 87 = .ok (.ireturn, 1) := by decide +kernel
theorem dX7_way_88 : decode cX7_way 88 = .ok (.aload_n 0, 1) := by decide +kernel
theorem dX7_way_89 : decode cX7_way 89 = .ok (.getfield 63, 3) := by decide +kernel
theorem dX7_way_92 : decode cX7_way 92 = .ok (.iload_n 3, 1) := by decide +kernel
theorem dX7_way_93 : decode cX7_way 93 = .ok (.laload, 1) := by decide +kernel
theorem dX7_way_94 : decode cX7_way 94 = .ok (.l2i, 1) := by decide +kernel
theorem dX7_way_95 : decode cX7_way 95 = .ok (.ireturn, 1) := by decide +kernel
theorem dX7_way_96 : decode cX7_way 96 = .ok (.aload_n 0, 1) := by decide +kernel
theorem dX7_way_97 : decode cX7_way 97 = .ok (.getfield 67, 3) := by decide +kernel
theorem dX7_way_100 : decode cX7_way 100 = .ok (.iload_n 3, 1) := by decide +kernel
theorem dX7_way_101 : decode cX7_way 101 = .ok (.laload, 1) := by decide +kernel
theorem dX7_way_102 : decode cX7_way 102 = .ok (.l2i, 1) := by decide +kernel
theorem dX7_way_103 : decode cX7_way 103 = .ok (.ireturn, 1) := by decide +kernel
theorem dX7_way_104 : decode cX7_way 104 = .ok (.aload_n 0, 1) := by decide +kernel
theorem dX7_way_105 : decode cX7_way 105 = .ok (.getfield 70, 3) := by decide +kernel
theorem dX7_way_108 : decode cX7_way 108 = .ok (.iload_n 3, 1) := by decide +kernel
theorem dX7_way_109 : decode cX7_way 109 = .ok (.laload, 1) := by decide +kernel
theorem dX7_way_110 : decode cX7_way 110 = .ok (.l2i, 1) := by decide +kernel
theorem dX7_way_111 : decode cX7_way 111 = .ok (.ireturn, 1) := by decide +kernel
theorem dX7_way_112 : decode cX7_way 112 = .ok (.aload_n 0, 1) := by decide +kernel
theorem dX7_way_113 : decode cX7_way 113 = .ok (.getfield 73, 3) := by decide +kernel
theorem dX7_way_116 : decode cX7_way 116 = .ok (.iload_n 3, 1) := by decide +kernel
theorem dX7_way_117 : decode cX7_way 117 = .ok (.laload, 1) := by decide +kernel
theorem dX7_way_118 : decode cX7_way 118 = .ok (.l2i, 1) := by decide +kernel
theorem dX7_way_119 : decode cX7_way 119 = .ok (.ireturn, 1) := by decide +kernel
theorem dX7_way_120 : decode cX7_way 120 = .ok (.aload_n 0, 1) := by decide +kernel
theorem dX7_way_121 : decode cX7_way 121 = .ok (.getfield 53, 3) := by decide +kernel
theorem dX7_way_124 : decode cX7_way 124 = .ok (.ireturn, 1) := by decide +kernel
theorem dX7_way_125 : decode cX7_way 125 = .ok (.ldc 187, 2) := by decide +kernel
theorem dX7_way_127 : decode cX7_way 127 = .ok (.ireturn, 1) := by decide +kernel
theorem dX7_at_0 : decode cX7_at 0 = .ok (.aload_n 0, 1) := by decide +kernel
theorem dX7_at_1 : decode cX7_at 1 = .ok (.iload_n 1, 1) := by decide +kernel
theorem dX7_at_2 : decode cX7_at 2 = .ok (.invokevirtual 184, 3) := by decide +kernel
theorem dX7_at_5 : decode cX7_at 5 = .ok (.ifCond .eq 19, 3) := by decide +kernel
theorem dX7_at_8 : decode cX7_at 8 = .ok (.iload_n 2, 1) := by decide +kernel
theorem dX7_at_9 : decode cX7_at 9 = .ok (.invokestatic 110, 3) := by decide +kernel
theorem dX7_at_12 : decode cX7_at 12 = .ok (.ifCond .eq 12, 3) := by decide +kernel
theorem dX7_at_15 : decode cX7_at 15 = .ok (.aload_n 0, 1) := by decide +kernel
theorem dX7_at_16 : decode cX7_at 16 = .ok (.iload_n 1, 1) := by decide +kernel
theorem dX7_at_17 : decode cX7_at 17 = .ok (.iload_n 2, 1) := by decide +kernel
theorem dX7_at_18 : decode cX7_at 18 = .ok (.invokevirtual 165, 3) := by decide +kernel
theorem dX7_at_21 : decode cX7_at 21 = .ok (.ifCond .ne 6, 3) := by decide +kernel
theorem dX7_at_24 : decode cX7_at 24 = .ok (.ldc 187, 2) := by decide +kernel
theorem dX7_at_26 : decode cX7_at 26 = .ok (.ireturn, 1) := by decide +kernel
theorem dX7_at_27 : decode cX7_at 27 = .ok (.sipush 601, 3) := by decide +kernel
theorem dX7_at_30 : decode cX7_at 30 = .ok (.iload_n 1, 1) := by decide +kernel
theorem dX7_at_31 : decode cX7_at 31 = .ok (.imul, 1) := by decide +kernel
theorem dX7_at_32 : decode cX7_at 32 = .ok (.iload_n 2, 1) := by decide +kernel
theorem dX7_at_33 : decode cX7_at 33 = .ok (.iadd, 1) := by decide +kernel
theorem dX7_at_34 : decode cX7_at 34 = .ok (.sipush 300, 3) := by decide +kernel
theorem dX7_at_37 : decode cX7_at 37 = .ok (.iadd, 1) := by decide +kernel
theorem dX7_at_38 : decode cX7_at 38 = .ok (.istore 4, 2) := by decide +kernel
theorem dX7_at_40 : decode cX7_at 40 = .ok (.iload_n 3, 1) := by decide +kernel
theorem dX7_at_41 : decode cX7_at 41 = .ok (.tableswitch 67 0 3 #[31, 40, 49, 58], 31) := by decide +kernel
theorem dX7_at_72 : decode cX7_at 72 = .ok (.aload_n 0, 1) := by decide +kernel
theorem dX7_at_73 : decode cX7_at 73 = .ok (.getfield 63, 3) := by decide +kernel
theorem dX7_at_76 : decode cX7_at 76 = .ok (.iload 4, 2) := by decide +kernel
theorem dX7_at_78 : decode cX7_at 78 = .ok (.laload, 1) := by decide +kernel
theorem dX7_at_79 : decode cX7_at 79 = .ok (.l2i, 1) := by decide +kernel
theorem dX7_at_80 : decode cX7_at 80 = .ok (.ireturn, 1) := by decide +kernel
theorem dX7_at_81 : decode cX7_at 81 = .ok (.aload_n 0, 1) := by decide +kernel
theorem dX7_at_82 : decode cX7_at 82 = .ok (.getfield 67, 3) := by decide +kernel
theorem dX7_at_85 : decode cX7_at 85 = .ok (.iload 4, 2) := by decide +kernel
theorem dX7_at_87 : decode cX7_at 87 = .ok (.laload, 1) := by decide +kernel
theorem dX7_at_88 : decode cX7_at 88 = .ok (.l2i, 1) := by decide +kernel
theorem dX7_at_89 : decode cX7_at 89 = .ok (.ireturn, 1) := by decide +kernel
theorem dX7_at_90 : decode cX7_at 90 = .ok (.aload_n 0, 1) := by decide +kernel
theorem dX7_at_91 : decode cX7_at 91 = .ok (.getfield 70, 3) := by decide +kernel
theorem dX7_at_94 : decode cX7_at 94 = .ok (.iload 4, 2) := by decide +kernel
theorem dX7_at_96 : decode cX7_at 96 = .ok (.laload, 1) := by decide +kernel
theorem dX7_at_97 : decode cX7_at 97 = .ok (.l2i, 1) := by decide +kernel
theorem dX7_at_98 : decode cX7_at 98 = .ok (.ireturn, 1) := by decide +kernel
theorem dX7_at_99 : decode cX7_at 99 = .ok (.aload_n 0, 1) := by decide +kernel
theorem dX7_at_100 : decode cX7_at 100 = .ok (.getfield 73, 3) := by decide +kernel
theorem dX7_at_103 : decode cX7_at 103 = .ok (.iload 4, 2) := by decide +kernel
theorem dX7_at_105 : decode cX7_at 105 = .ok (.laload, 1) := by decide +kernel
theorem dX7_at_106 : decode cX7_at 106 = .ok (.l2i, 1) := by decide +kernel
theorem dX7_at_107 : decode cX7_at 107 = .ok (.ireturn, 1) := by decide +kernel
theorem dX7_at_108 : decode cX7_at 108 = .ok (.ldc 187, 2) := by decide +kernel
theorem dX7_at_110 : decode cX7_at 110 = .ok (.ireturn, 1) := by decide +kernel
theorem dX7_fitsThen_0 : decode cX7_fitsThen 0 = .ok (.aload_n 0, 1) := by decide +kernel
theorem dX7_fitsThen_1 : decode cX7_fitsThen 1 = .ok (.iload_n 1, 1) := by decide +kernel
theorem dX7_fitsThen_2 : decode cX7_fitsThen 2 = .ok (.iload_n 2, 1) := by decide +kernel
theorem dX7_fitsThen_3 : decode cX7_fitsThen 3 = .ok (.aload_n 0, 1) := by decide +kernel
theorem dX7_fitsThen_4 : decode cX7_fitsThen 4 = .ok (.iconst 0, 1) := by decide +kernel
theorem dX7_fitsThen_5 : decode cX7_fitsThen 5 = .ok (.aload_n 0, 1) := by decide +kernel
theorem dX7_fitsThen_6 : decode cX7_fitsThen 6 = .ok (.getfield 32, 3) := by decide +kernel
theorem dX7_fitsThen_9 : decode cX7_fitsThen 9 = .ok (.iconst 5, 1) := by decide +kernel
theorem dX7_fitsThen_10 : decode cX7_fitsThen 10 = .ok (.iload_n 2, 1) := by decide +kernel
theorem dX7_fitsThen_11 : decode cX7_fitsThen 11 = .ok (.imul, 1) := by decide +kernel
theorem dX7_fitsThen_12 : decode cX7_fitsThen 12 = .ok (.iconst 1, 1) := by decide +kernel
theorem dX7_fitsThen_13 : decode cX7_fitsThen 13 = .ok (.iadd, 1) := by decide +kernel
theorem dX7_fitsThen_14 : decode cX7_fitsThen 14 = .ok (.iaload, 1) := by decide +kernel
theorem dX7_fitsThen_15 : decode cX7_fitsThen 15 = .ok (.iconst 0, 1) := by decide +kernel
theorem dX7_fitsThen_16 : decode cX7_fitsThen 16 = .ok (.invokevirtual 188, 3) := by decide +kernel
theorem dX7_fitsThen_19 : decode cX7_fitsThen 19 = .ok (.i2l, 1) := by decide +kernel
theorem dX7_fitsThen_20 : decode cX7_fitsThen 20 = .ok (.aload_n 0, 1) := by decide +kernel
theorem dX7_fitsThen_21 : decode cX7_fitsThen 21 = .ok (.iconst 0, 1) := by decide +kernel
theorem dX7_fitsThen_22 : decode cX7_fitsThen 22 = .ok (.aload_n 0, 1) := by decide +kernel
theorem dX7_fitsThen_23 : decode cX7_fitsThen 23 = .ok (.getfield 32, 3) := by decide +kernel
theorem dX7_fitsThen_26 : decode cX7_fitsThen 26 = .ok (.iconst 5, 1) := by decide +kernel
theorem dX7_fitsThen_27 : decode cX7_fitsThen 27 = .ok (.iload_n 2, 1) := by decide +kernel
theorem dX7_fitsThen_28 : decode cX7_fitsThen 28 = .ok (.imul, 1) := by decide +kernel
theorem dX7_fitsThen_29 : decode cX7_fitsThen 29 = .ok (.iconst 1, 1) := by decide +kernel
theorem dX7_fitsThen_30 : decode cX7_fitsThen 30 = .ok (.iadd, 1) := by decide +kernel
theorem dX7_fitsThen_31 : decode cX7_fitsThen 31 = .ok (.iaload, 1) := by decide +kernel
theorem dX7_fitsThen_32 : decode cX7_fitsThen 32 = .ok (.iconst 1, 1) := by decide +kernel
theorem dX7_fitsThen_33 : decode cX7_fitsThen 33 = .ok (.invokevirtual 188, 3) := by decide +kernel
theorem dX7_fitsThen_36 : decode cX7_fitsThen 36 = .ok (.i2l, 1) := by decide +kernel
theorem dX7_fitsThen_37 : decode cX7_fitsThen 37 = .ok (.invokevirtual 171, 3) := by decide +kernel
theorem dX7_fitsThen_40 : decode cX7_fitsThen 40 = .ok (.ireturn, 1) := by decide +kernel
theorem dX7_fits_0 : decode cX7_fits 0 = .ok (.aload_n 0, 1) := by decide +kernel
theorem dX7_fits_1 : decode cX7_fits 1 = .ok (.iload_n 1, 1) := by decide +kernel
theorem dX7_fits_2 : decode cX7_fits 2 = .ok (.invokevirtual 184, 3) := by decide +kernel
theorem dX7_fits_5 : decode cX7_fits 5 = .ok (.ifCond .eq 11, 3) := by decide +kernel
theorem dX7_fits_8 : decode cX7_fits 8 = .ok (.aload_n 0, 1) := by decide +kernel
theorem dX7_fits_9 : decode cX7_fits 9 = .ok (.iload_n 2, 1) := by decide +kernel
theorem dX7_fits_10 : decode cX7_fits 10 = .ok (.invokevirtual 114, 3) := by decide +kernel
theorem dX7_fits_13 : decode cX7_fits 13 = .ok (.ifCond .ne 7, 3) := by decide +kernel
theorem dX7_fits_16 : decode cX7_fits 16 = .ok (.iconst (-1), 1) := by decide +kernel
theorem dX7_fits_17 : decode cX7_fits 17 = .ok (.goto 17, 3) := by decide +kernel
theorem dX7_fits_20 : decode cX7_fits 20 = .ok (.aload_n 0, 1) := by decide +kernel
theorem dX7_fits_21 : decode cX7_fits 21 = .ok (.iload_n 1, 1) := by decide +kernel
theorem dX7_fits_22 : decode cX7_fits 22 = .ok (.iload_n 2, 1) := by decide +kernel
theorem dX7_fits_23 : decode cX7_fits 23 = .ok (.invokevirtual 191, 3) := by decide +kernel
theorem dX7_fits_26 : decode cX7_fits 26 = .ok (.ifCond .eq 7, 3) := by decide +kernel
theorem dX7_fits_29 : decode cX7_fits 29 = .ok (.iconst 1, 1) := by decide +kernel
theorem dX7_fits_30 : decode cX7_fits 30 = .ok (.goto 4, 3) := by decide +kernel
theorem dX7_fits_33 : decode cX7_fits 33 = .ok (.iconst 0, 1) := by decide +kernel
theorem dX7_fits_34 : decode cX7_fits 34 = .ok (.ireturn, 1) := by decide +kernel
theorem dX7_fitting_0 : decode cX7_fitting 0 = .ok (.aload_n 0, 1) := by decide +kernel
theorem dX7_fitting_1 : decode cX7_fitting 1 = .ok (.iload_n 1, 1) := by decide +kernel
theorem dX7_fitting_2 : decode cX7_fitting 2 = .ok (.invokevirtual 114, 3) := by decide +kernel
theorem dX7_fitting_5 : decode cX7_fitting 5 = .ok (.ifCond .ne 5, 3) := by decide +kernel
theorem dX7_fitting_8 : decode cX7_fitting 8 = .ok (.iconst (-1), 1) := by decide +kernel
theorem dX7_fitting_9 : decode cX7_fitting 9 = .ok (.ireturn, 1) := by decide +kernel
theorem dX7_fitting_10 : decode cX7_fitting 10 = .ok (.iconst 0, 1) := by decide +kernel
theorem dX7_fitting_11 : decode cX7_fitting 11 = .ok (.istore_n 2, 1) := by decide +kernel
theorem dX7_fitting_12 : decode cX7_fitting 12 = .ok (.iconst 0, 1) := by decide +kernel
theorem dX7_fitting_13 : decode cX7_fitting 13 = .ok (.istore_n 3, 1) := by decide +kernel
theorem dX7_fitting_14 : decode cX7_fitting 14 = .ok (.iload_n 3, 1) := by decide +kernel
theorem dX7_fitting_15 : decode cX7_fitting 15 = .ok (.aload_n 0, 1) := by decide +kernel
theorem dX7_fitting_16 : decode cX7_fitting 16 = .ok (.getfield 50, 3) := by decide +kernel
theorem dX7_fitting_19 : decode cX7_fitting 19 = .ok (.if_icmp .ge 26, 3) := by decide +kernel
theorem dX7_fitting_22 : decode cX7_fitting 22 = .ok (.iload_n 2, 1) := by decide +kernel
theorem dX7_fitting_23 : decode cX7_fitting 23 = .ok (.aload_n 0, 1) := by decide +kernel
theorem dX7_fitting_24 : decode cX7_fitting 24 = .ok (.iload_n 3, 1) := by decide +kernel
theorem dX7_fitting_25 : decode cX7_fitting 25 = .ok (.iload_n 1, 1) := by decide +kernel
theorem dX7_fitting_26 : decode cX7_fitting 26 = .ok (.invokevirtual 191, 3) := by decide +kernel
theorem dX7_fitting_29 : decode cX7_fitting 29 = .ok (.ifCond .eq 7, 3) := by decide +kernel
theorem dX7_fitting_32 : decode cX7_fitting 32 = .ok (.iconst 1, 1) := by decide +kernel
theorem dX7_fitting_33 : decode cX7_fitting 33 = .ok (.goto 4, 3) := by decide +kernel
theorem dX7_fitting_36 : decode cX7_fitting 36 = .ok (.iconst 0, 1) := by decide +kernel
theorem dX7_fitting_37 : decode cX7_fitting 37 = .ok (.iadd, 1) := by decide +kernel
theorem dX7_fitting_38 : decode cX7_fitting 38 = .ok (.istore_n 2, 1) := by decide +kernel
theorem dX7_fitting_39 : decode cX7_fitting 39 = .ok (.iinc 3 1, 3) := by decide +kernel
theorem dX7_fitting_42 : decode cX7_fitting 42 = .ok (.goto (-28), 3) := by decide +kernel
theorem dX7_fitting_45 : decode cX7_fitting 45 = .ok (.iload_n 2, 1) := by decide +kernel
theorem dX7_fitting_46 : decode cX7_fitting 46 = .ok (.ireturn, 1) := by decide +kernel
theorem dX7_holds_0 : decode cX7_holds 0 = .ok (.ldc 194, 2) := by decide +kernel
theorem dX7_holds_2 : decode cX7_holds 2 = .ok (.istore_n 2, 1) := by decide +kernel
theorem dX7_holds_3 : decode cX7_holds 3 = .ok (.iconst 0, 1) := by decide +kernel
theorem dX7_holds_4 : decode cX7_holds 4 = .ok (.istore_n 3, 1) := by decide +kernel
theorem dX7_holds_5 : decode cX7_holds 5 = .ok (.iload_n 3, 1) := by decide +kernel
theorem dX7_holds_6 : decode cX7_holds 6 = .ok (.sipush 601, 3) := by decide +kernel
theorem dX7_holds_9 : decode cX7_holds 9 = .ok (.if_icmp .ge 128, 3) := by decide +kernel
theorem dX7_holds_12 : decode cX7_holds 12 = .ok (.iload_n 1, 1) := by decide +kernel
theorem dX7_holds_13 : decode cX7_holds 13 = .ok (.ifCond .eq 62, 3) := by decide +kernel
theorem dX7_holds_16 : decode cX7_holds 16 = .ok (.aload_n 0, 1) := by decide +kernel
theorem dX7_holds_17 : decode cX7_holds 17 = .ok (.getfield 63, 3) := by decide +kernel
theorem dX7_holds_20 : decode cX7_holds 20 = .ok (.iload_n 2, 1) := by decide +kernel
theorem dX7_holds_21 : decode cX7_holds 21 = .ok (.iload_n 3, 1) := by decide +kernel
theorem dX7_holds_22 : decode cX7_holds 22 = .ok (.iadd, 1) := by decide +kernel
theorem dX7_holds_23 : decode cX7_holds 23 = .ok (.aload_n 0, 1) := by decide +kernel
theorem dX7_holds_24 : decode cX7_holds 24 = .ok (.getfield 92, 3) := by decide +kernel
theorem dX7_holds_27 : decode cX7_holds 27 = .ok (.iload_n 3, 1) := by decide +kernel
theorem dX7_holds_28 : decode cX7_holds 28 = .ok (.laload, 1) := by decide +kernel
theorem dX7_holds_29 : decode cX7_holds 29 = .ok (.lastore, 1) := by decide +kernel
theorem dX7_holds_30 : decode cX7_holds 30 = .ok (.aload_n 0, 1) := by decide +kernel
theorem dX7_holds_31 : decode cX7_holds 31 = .ok (.getfield 67, 3) := by decide +kernel
theorem dX7_holds_34 : decode cX7_holds 34 = .ok (.iload_n 2, 1) := by decide +kernel
theorem dX7_holds_35 : decode cX7_holds 35 = .ok (.iload_n 3, 1) := by decide +kernel
theorem dX7_holds_36 : decode cX7_holds 36 = .ok (.iadd, 1) := by decide +kernel
theorem dX7_holds_37 : decode cX7_holds 37 = .ok (.aload_n 0, 1) := by decide +kernel
theorem dX7_holds_38 : decode cX7_holds 38 = .ok (.getfield 95, 3) := by decide +kernel
theorem dX7_holds_41 : decode cX7_holds 41 = .ok (.iload_n 3, 1) := by decide +kernel
theorem dX7_holds_42 : decode cX7_holds 42 = .ok (.laload, 1) := by decide +kernel
theorem dX7_holds_43 : decode cX7_holds 43 = .ok (.lastore, 1) := by decide +kernel
theorem dX7_holds_44 : decode cX7_holds 44 = .ok (.aload_n 0, 1) := by decide +kernel
theorem dX7_holds_45 : decode cX7_holds 45 = .ok (.getfield 70, 3) := by decide +kernel
theorem dX7_holds_48 : decode cX7_holds 48 = .ok (.iload_n 2, 1) := by decide +kernel
theorem dX7_holds_49 : decode cX7_holds 49 = .ok (.iload_n 3, 1) := by decide +kernel
theorem dX7_holds_50 : decode cX7_holds 50 = .ok (.iadd, 1) := by decide +kernel
theorem dX7_holds_51 : decode cX7_holds 51 = .ok (.aload_n 0, 1) := by decide +kernel
theorem dX7_holds_52 : decode cX7_holds 52 = .ok (.getfield 98, 3) := by decide +kernel
theorem dX7_holds_55 : decode cX7_holds 55 = .ok (.iload_n 3, 1) := by decide +kernel
theorem dX7_holds_56 : decode cX7_holds 56 = .ok (.laload, 1) := by decide +kernel
theorem dX7_holds_57 : decode cX7_holds 57 = .ok (.lastore, 1) := by decide +kernel
theorem dX7_holds_58 : decode cX7_holds 58 = .ok (.aload_n 0, 1) := by decide +kernel
theorem dX7_holds_59 : decode cX7_holds 59 = .ok (.getfield 73, 3) := by decide +kernel
theorem dX7_holds_62 : decode cX7_holds 62 = .ok (.iload_n 2, 1) := by decide +kernel
theorem dX7_holds_63 : decode cX7_holds 63 = .ok (.iload_n 3, 1) := by decide +kernel
theorem dX7_holds_64 : decode cX7_holds 64 = .ok (.iadd, 1) := by decide +kernel
theorem dX7_holds_65 : decode cX7_holds 65 = .ok (.aload_n 0, 1) := by decide +kernel
theorem dX7_holds_66 : decode cX7_holds 66 = .ok (.getfield 101, 3) := by decide +kernel
theorem dX7_holds_69 : decode cX7_holds 69 = .ok (.iload_n 3, 1) := by decide +kernel
theorem dX7_holds_70 : decode cX7_holds 70 = .ok (.laload, 1) := by decide +kernel
theorem dX7_holds_71 : decode cX7_holds 71 = .ok (.lastore, 1) := by decide +kernel
theorem dX7_holds_72 : decode cX7_holds 72 = .ok (.goto 59, 3) := by decide +kernel
theorem dX7_holds_75 : decode cX7_holds 75 = .ok (.aload_n 0, 1) := by decide +kernel
theorem dX7_holds_76 : decode cX7_holds 76 = .ok (.getfield 92, 3) := by decide +kernel
theorem dX7_holds_79 : decode cX7_holds 79 = .ok (.iload_n 3, 1) := by decide +kernel
theorem dX7_holds_80 : decode cX7_holds 80 = .ok (.aload_n 0, 1) := by decide +kernel
theorem dX7_holds_81 : decode cX7_holds 81 = .ok (.getfield 63, 3) := by decide +kernel
theorem dX7_holds_84 : decode cX7_holds 84 = .ok (.iload_n 2, 1) := by decide +kernel
theorem dX7_holds_85 : decode cX7_holds 85 = .ok (.iload_n 3, 1) := by decide +kernel
theorem dX7_holds_86 : decode cX7_holds 86 = .ok (.iadd, 1) := by decide +kernel
theorem dX7_holds_87 : decode cX7_holds 87 = .ok (.laload, 1) := by decide +kernel
theorem dX7_holds_88 : decode cX7_holds 88 = .ok (.lastore, 1) := by decide +kernel
theorem dX7_holds_89 : decode cX7_holds 89 = .ok (.aload_n 0, 1) := by decide +kernel
theorem dX7_holds_90 : decode cX7_holds 90 = .ok (.getfield 95, 3) := by decide +kernel
theorem dX7_holds_93 : decode cX7_holds 93 = .ok (.iload_n 3, 1) := by decide +kernel
theorem dX7_holds_94 : decode cX7_holds 94 = .ok (.aload_n 0, 1) := by decide +kernel
theorem dX7_holds_95 : decode cX7_holds 95 = .ok (.getfield 67, 3) := by decide +kernel
theorem dX7_holds_98 : decode cX7_holds 98 = .ok (.iload_n 2, 1) := by decide +kernel
theorem dX7_holds_99 : decode cX7_holds 99 = .ok (.iload_n 3, 1) := by decide +kernel
theorem dX7_holds_100 : decode cX7_holds 100 = .ok (.iadd, 1) := by decide +kernel
theorem dX7_holds_101 : decode cX7_holds 101 = .ok (.laload, 1) := by decide +kernel
theorem dX7_holds_102 : decode cX7_holds 102 = .ok (.lastore, 1) := by decide +kernel
theorem dX7_holds_103 : decode cX7_holds 103 = .ok (.aload_n 0, 1) := by decide +kernel
theorem dX7_holds_104 : decode cX7_holds 104 = .ok (.getfield 98, 3) := by decide +kernel
theorem dX7_holds_107 : decode cX7_holds 107 = .ok (.iload_n 3, 1) := by decide +kernel
theorem dX7_holds_108 : decode cX7_holds 108 = .ok (.aload_n 0, 1) := by decide +kernel
theorem dX7_holds_109 : decode cX7_holds 109 = .ok (.getfield 70, 3) := by decide +kernel
theorem dX7_holds_112 : decode cX7_holds 112 = .ok (.iload_n 2, 1) := by decide +kernel
theorem dX7_holds_113 : decode cX7_holds 113 = .ok (.iload_n 3, 1) := by decide +kernel
theorem dX7_holds_114 : decode cX7_holds 114 = .ok (.iadd, 1) := by decide +kernel
theorem dX7_holds_115 : decode cX7_holds 115 = .ok (.laload, 1) := by decide +kernel
theorem dX7_holds_116 : decode cX7_holds 116 = .ok (.lastore, 1) := by decide +kernel
theorem dX7_holds_117 : decode cX7_holds 117 = .ok (.aload_n 0, 1) := by decide +kernel
theorem dX7_holds_118 : decode cX7_holds 118 = .ok (.getfield 101, 3) := by decide +kernel
theorem dX7_holds_121 : decode cX7_holds 121 = .ok (.iload_n 3, 1) := by decide +kernel
theorem dX7_holds_122 : decode cX7_holds 122 = .ok (.aload_n 0, 1) := by decide +kernel
theorem dX7_holds_123 : decode cX7_holds 123 = .ok (.getfield 73, 3) := by decide +kernel
theorem dX7_holds_126 : decode cX7_holds 126 = .ok (.iload_n 2, 1) := by decide +kernel
theorem dX7_holds_127 : decode cX7_holds 127 = .ok (.iload_n 3, 1) := by decide +kernel
theorem dX7_holds_128 : decode cX7_holds 128 = .ok (.iadd, 1) := by decide +kernel
theorem dX7_holds_129 : decode cX7_holds 129 = .ok (.laload, 1) := by decide +kernel
theorem dX7_holds_130 : decode cX7_holds 130 = .ok (.lastore, 1) := by decide +kernel
theorem dX7_holds_131 : decode cX7_holds 131 = .ok (.iinc 3 1, 3) := by decide +kernel
theorem dX7_holds_134 : decode cX7_holds 134 = .ok (.goto (-129), 3) := by decide +kernel
theorem dX7_holds_137 : decode cX7_holds 137 = .ok (.return_, 1) := by decide +kernel
theorem dX7_without_0 : decode cX7_without 0 = .ok (.aload_n 0, 1) := by decide +kernel
theorem dX7_without_1 : decode cX7_without 1 = .ok (.getfield 44, 3) := by decide +kernel
theorem dX7_without_4 : decode cX7_without 4 = .ok (.iconst (-1), 1) := by decide +kernel
theorem dX7_without_5 : decode cX7_without 5 = .ok (.if_icmp .eq 27, 3) := by decide +kernel
theorem dX7_without_8 : decode cX7_without 8 = .ok (.aload_n 0, 1) := by decide +kernel
theorem dX7_without_9 : decode cX7_without 9 = .ok (.iload_n 1, 1) := by decide +kernel
theorem dX7_without_10 : decode cX7_without 10 = .ok (.invokevirtual 114, 3) := by decide +kernel
theorem dX7_without_13 : decode cX7_without 13 = .ok (.ifCond .eq 19, 3) := by decide +kernel
theorem dX7_without_16 : decode cX7_without 16 = .ok (.iload_n 1, 1) := by decide +kernel
theorem dX7_without_17 : decode cX7_without 17 = .ok (.aload_n 0, 1) := by decide +kernel
theorem dX7_without_18 : decode cX7_without 18 = .ok (.getfield 44, 3) := by decide +kernel
theorem dX7_without_21 : decode cX7_without 21 = .ok (.if_icmp .eq 11, 3) := by decide +kernel
theorem dX7_without_24 : decode cX7_without 24 = .ok (.iload_n 1, 1) := by decide +kernel
theorem dX7_without_25 : decode cX7_without 25 = .ok (.aload_n 0, 1) := by decide +kernel
theorem dX7_without_26 : decode cX7_without 26 = .ok (.getfield 47, 3) := by decide +kernel
theorem dX7_without_29 : decode cX7_without 29 = .ok (.if_icmp .ne 5, 3) := by decide +kernel
theorem dX7_without_32 : decode cX7_without 32 = .ok (.iconst (-1), 1) := by decide +kernel
theorem dX7_without_33 : decode cX7_without 33 = .ok (.ireturn, 1) := by decide +kernel
theorem dX7_without_34 : decode cX7_without 34 = .ok (.bipush 99, 2) := by decide +kernel
theorem dX7_without_36 : decode cX7_without 36 = .ok (.istore_n 2, 1) := by decide +kernel
theorem dX7_without_37 : decode cX7_without 37 = .ok (.aload_n 0, 1) := by decide +kernel
theorem dX7_without_38 : decode cX7_without 38 = .ok (.getfield 59, 3) := by decide +kernel
theorem dX7_without_41 : decode cX7_without 41 = .ok (.iconst 2, 1) := by decide +kernel
theorem dX7_without_42 : decode cX7_without 42 = .ok (.iload_n 2, 1) := by decide +kernel
theorem dX7_without_43 : decode cX7_without 43 = .ok (.imul, 1) := by decide +kernel
theorem dX7_without_44 : decode cX7_without 44 = .ok (.iaload, 1) := by decide +kernel
theorem dX7_without_45 : decode cX7_without 45 = .ok (.istore_n 3, 1) := by decide +kernel
theorem dX7_without_46 : decode cX7_without 46 = .ok (.aload_n 0, 1) := by decide +kernel
theorem dX7_without_47 : decode cX7_without 47 = .ok (.getfield 59, 3) := by decide +kernel
theorem dX7_without_50 : decode cX7_without 50 = .ok (.iconst 2, 1) := by decide +kernel
theorem dX7_without_51 : decode cX7_without 51 = .ok (.iload_n 2, 1) := by decide +kernel
theorem dX7_without_52 : decode cX7_without 52 = .ok (.imul, 1) := by decide +kernel
theorem dX7_without_53 : decode cX7_without 53 = .ok (.iconst 1, 1) := by decide +kernel
theorem dX7_without_54 : decode cX7_without 54 = .ok (.iadd, 1) := by decide +kernel
theorem dX7_without_55 : decode cX7_without 55 = .ok (.iaload, 1) := by decide +kernel
theorem dX7_without_56 : decode cX7_without 56 = .ok (.istore 4, 2) := by decide +kernel
theorem dX7_without_58 : decode cX7_without 58 = .ok (.aload_n 0, 1) := by decide +kernel
theorem dX7_without_59 : decode cX7_without 59 = .ok (.iconst 0, 1) := by decide +kernel
theorem dX7_without_60 : decode cX7_without 60 = .ok (.invokevirtual 195, 3) := by decide +kernel
theorem dX7_without_63 : decode cX7_without 63 = .ok (.iconst 0, 1) := by decide +kernel
theorem dX7_without_64 : decode cX7_without 64 = .ok (.istore 5, 2) := by decide +kernel
theorem dX7_without_66 : decode cX7_without 66 = .ok (.iconst 0, 1) := by decide +kernel
theorem dX7_without_67 : decode cX7_without 67 = .ok (.istore 6, 2) := by decide +kernel
theorem dX7_without_69 : decode cX7_without 69 = .ok (.iload 6, 2) := by decide +kernel
theorem dX7_without_71 : decode cX7_without 71 = .ok (.aload_n 0, 1) := by decide +kernel
theorem dX7_without_72 : decode cX7_without 72 = .ok (.getfield 41, 3) := by decide +kernel
theorem dX7_without_75 : decode cX7_without 75 = .ok (.if_icmp .ge 72, 3) := by decide +kernel
theorem dX7_without_78 : decode cX7_without 78 = .ok (.iconst 0, 1) := by decide +kernel
theorem dX7_without_79 : decode cX7_without 79 = .ok (.istore 7, 2) := by decide +kernel
theorem dX7_without_81 : decode cX7_without 81 = .ok (.iload 7, 2) := by decide +kernel
theorem dX7_without_83 : decode cX7_without 83 = .ok (.aload_n 0, 1) := by decide +kernel
theorem dX7_without_84 : decode cX7_without 84 = .ok (.getfield 41, 3) := by decide +kernel
theorem dX7_without_87 : decode cX7_without 87 = .ok (.if_icmp .ge 54, 3) := by decide +kernel
theorem dX7_without_90 : decode cX7_without 90 = .ok (.aload_n 0, 1) := by decide +kernel
theorem dX7_without_91 : decode cX7_without 91 = .ok (.iload 6, 2) := by decide +kernel
theorem dX7_without_93 : decode cX7_without 93 = .ok (.iload 7, 2) := by decide +kernel
theorem dX7_without_95 : decode cX7_without 95 = .ok (.invokevirtual 175, 3) := by decide +kernel
theorem dX7_without_98 : decode cX7_without 98 = .ok (.aload_n 0, 1) := by decide +kernel
theorem dX7_without_99 : decode cX7_without 99 = .ok (.iload_n 2, 1) := by decide +kernel
theorem dX7_without_100 : decode cX7_without 100 = .ok (.aload_n 0, 1) := by decide +kernel
theorem dX7_without_101 : decode cX7_without 101 = .ok (.getfield 32, 3) := by decide +kernel
theorem dX7_without_104 : decode cX7_without 104 = .ok (.iconst 5, 1) := by decide +kernel
theorem dX7_without_105 : decode cX7_without 105 = .ok (.aload_n 0, 1) := by decide +kernel
theorem dX7_without_106 : decode cX7_without 106 = .ok (.getfield 44, 3) := by decide +kernel
theorem dX7_without_109 : decode cX7_without 109 = .ok (.imul, 1) := by decide +kernel
theorem dX7_without_110 : decode cX7_without 110 = .ok (.iconst 1, 1) := by decide +kernel
theorem dX7_without_111 : decode cX7_without 111 = .ok (.iadd, 1) := by decide +kernel
theorem dX7_without_112 : decode cX7_without 112 = .ok (.iaload, 1) := by decide +kernel
theorem dX7_without_113 : decode cX7_without 113 = .ok (.invokevirtual 178, 3) := by decide +kernel
theorem dX7_without_116 : decode cX7_without 116 = .ok (.iload 5, 2) := by decide +kernel
theorem dX7_without_118 : decode cX7_without 118 = .ok (.aload_n 0, 1) := by decide +kernel
theorem dX7_without_119 : decode cX7_without 119 = .ok (.iload_n 2, 1) := by decide +kernel
theorem dX7_without_120 : decode cX7_without 120 = .ok (.iload_n 1, 1) := by decide +kernel
theorem dX7_without_121 : decode cX7_without 121 = .ok (.invokevirtual 181, 3) := by decide +kernel
theorem dX7_without_124 : decode cX7_without 124 = .ok (.ifCond .eq 7, 3) := by decide +kernel
theorem dX7_without_127 : decode cX7_without 127 = .ok (.iconst 1, 1) := by decide +kernel
theorem dX7_without_128 : decode cX7_without 128 = .ok (.goto 4, 3) := by decide +kernel
theorem dX7_without_131 : decode cX7_without 131 = .ok (.iconst 0, 1) := by decide +kernel
theorem dX7_without_132 : decode cX7_without 132 = .ok (.iadd, 1) := by decide +kernel
theorem dX7_without_133 : decode cX7_without 133 = .ok (.istore 5, 2) := by decide +kernel
theorem dX7_without_135 : decode cX7_without 135 = .ok (.iinc 7 1, 3) := by decide +kernel
theorem dX7_without_138 : decode cX7_without 138 = .ok (.goto (-57), 3) := by decide +kernel
theorem dX7_without_141 : decode cX7_without 141 = .ok (.iinc 6 1, 3) := by decide +kernel
theorem dX7_without_144 : decode cX7_without 144 = .ok (.goto (-75), 3) := by decide +kernel
theorem dX7_without_147 : decode cX7_without 147 = .ok (.aload_n 0, 1) := by decide +kernel
theorem dX7_without_148 : decode cX7_without 148 = .ok (.iconst 1, 1) := by decide +kernel
theorem dX7_without_149 : decode cX7_without 149 = .ok (.invokevirtual 195, 3) := by decide +kernel
theorem dX7_without_152 : decode cX7_without 152 = .ok (.aload_n 0, 1) := by decide +kernel
theorem dX7_without_153 : decode cX7_without 153 = .ok (.getfield 59, 3) := by decide +kernel
theorem dX7_without_156 : decode cX7_without 156 = .ok (.iconst 2, 1) := by decide +kernel
theorem dX7_without_157 : decode cX7_without 157 = .ok (.iload_n 2, 1) := by decide +kernel
theorem dX7_without_158 : decode cX7_without 158 = .ok (.imul, 1) := by decide +kernel
theorem dX7_without_159 : decode cX7_without 159 = .ok (.iload_n 3, 1) := by decide +kernel
theorem dX7_without_160 : decode cX7_without 160 = .ok (.iastore, 1) := by decide +kernel
theorem dX7_without_161 : decode cX7_without 161 = .ok (.aload_n 0, 1) := by decide +kernel
theorem dX7_without_162 : decode cX7_without 162 = .ok (.getfield 59, 3) := by decide +kernel
theorem dX7_without_165 : decode cX7_without 165 = .ok (.iconst 2, 1) := by decide +kernel
theorem dX7_without_166 : decode cX7_without 166 = .ok (.iload_n 2, 1) := by decide +kernel
theorem dX7_without_167 : decode cX7_without 167 = .ok (.imul, 1) := by decide +kernel
theorem dX7_without_168 : decode cX7_without 168 = .ok (.iconst 1, 1) := by decide +kernel
theorem dX7_without_169 : decode cX7_without 169 = .ok (.iadd, 1) := by decide +kernel
theorem dX7_without_170 : decode cX7_without 170 = .ok (.iload 4, 2) := by decide +kernel
theorem dX7_without_172 : decode cX7_without 172 = .ok (.iastore, 1) := by decide +kernel
theorem dX7_without_173 : decode cX7_without 173 = .ok (.iload 5, 2) := by decide +kernel
theorem dX7_without_175 : decode cX7_without 175 = .ok (.ireturn, 1) := by decide +kernel
theorem dX7_seenAt_0 : decode cX7_seenAt 0 = .ok (.iload_n 3, 1) := by decide +kernel
theorem dX7_seenAt_1 : decode cX7_seenAt 1 = .ok (.ifCond .ne 10, 3) := by decide +kernel
theorem dX7_seenAt_4 : decode cX7_seenAt 4 = .ok (.aload_n 0, 1) := by decide +kernel
theorem dX7_seenAt_5 : decode cX7_seenAt 5 = .ok (.getfield 63, 3) := by decide +kernel
theorem dX7_seenAt_8 : decode cX7_seenAt 8 = .ok (.goto 7, 3) := by decide +kernel
theorem dX7_seenAt_11 : decode cX7_seenAt 11 = .ok (.aload_n 0, 1) := by decide +kernel
theorem dX7_seenAt_12 : decode cX7_seenAt 12 = .ok (.getfield 67, 3) := by decide +kernel
theorem dX7_seenAt_15 : decode cX7_seenAt 15 = .ok (.sipush 601, 3) := by decide +kernel
theorem dX7_seenAt_18 : decode cX7_seenAt 18 = .ok (.iload_n 1, 1) := by decide +kernel
theorem dX7_seenAt_19 : decode cX7_seenAt 19 = .ok (.imul, 1) := by decide +kernel
theorem dX7_seenAt_20 : decode cX7_seenAt 20 = .ok (.iload_n 2, 1) := by decide +kernel
theorem dX7_seenAt_21 : decode cX7_seenAt 21 = .ok (.iadd, 1) := by decide +kernel
theorem dX7_seenAt_22 : decode cX7_seenAt 22 = .ok (.sipush 300, 3) := by decide +kernel
theorem dX7_seenAt_25 : decode cX7_seenAt 25 = .ok (.iadd, 1) := by decide +kernel
theorem dX7_seenAt_26 : decode cX7_seenAt 26 = .ok (.laload, 1) := by decide +kernel
theorem dX7_seenAt_27 : decode cX7_seenAt 27 = .ok (.aload_n 0, 1) := by decide +kernel
theorem dX7_seenAt_28 : decode cX7_seenAt 28 = .ok (.iconst 0, 1) := by decide +kernel
theorem dX7_seenAt_29 : decode cX7_seenAt 29 = .ok (.iload_n 2, 1) := by decide +kernel
theorem dX7_seenAt_30 : decode cX7_seenAt 30 = .ok (.iload_n 3, 1) := by decide +kernel
theorem dX7_seenAt_31 : decode cX7_seenAt 31 = .ok (.invokevirtual 188, 3) := by decide +kernel
theorem dX7_seenAt_34 : decode cX7_seenAt 34 = .ok (.i2l, 1) := by decide +kernel
theorem dX7_seenAt_35 : decode cX7_seenAt 35 = .ok (.lsub, 1) := by decide +kernel
theorem dX7_seenAt_36 : decode cX7_seenAt 36 = .ok (.lreturn, 1) := by decide +kernel
theorem dX7_turn_0 : decode cX7_turn 0 = .ok (.aload_n 0, 1) := by decide +kernel
theorem dX7_turn_1 : decode cX7_turn 1 = .ok (.iload_n 1, 1) := by decide +kernel
theorem dX7_turn_2 : decode cX7_turn 2 = .ok (.iload_n 3, 1) := by decide +kernel
theorem dX7_turn_3 : decode cX7_turn 3 = .ok (.iconst 0, 1) := by decide +kernel
theorem dX7_turn_4 : decode cX7_turn 4 = .ok (.invokevirtual 199, 3) := by decide +kernel
theorem dX7_turn_7 : decode cX7_turn 7 = .ok (.aload_n 0, 1) := by decide +kernel
theorem dX7_turn_8 : decode cX7_turn 8 = .ok (.iload_n 2, 1) := by decide +kernel
theorem dX7_turn_9 : decode cX7_turn 9 = .ok (.iload_n 3, 1) := by decide +kernel
theorem dX7_turn_10 : decode cX7_turn 10 = .ok (.iconst 1, 1) := by decide +kernel
theorem dX7_turn_11 : decode cX7_turn 11 = .ok (.invokevirtual 199, 3) := by decide +kernel
theorem dX7_turn_14 : decode cX7_turn 14 = .ok (.lmul, 1) := by decide +kernel
theorem dX7_turn_15 : decode cX7_turn 15 = .ok (.aload_n 0, 1) := by decide +kernel
theorem dX7_turn_16 : decode cX7_turn 16 = .ok (.iload_n 1, 1) := by decide +kernel
theorem dX7_turn_17 : decode cX7_turn 17 = .ok (.iload_n 3, 1) := by decide +kernel
theorem dX7_turn_18 : decode cX7_turn 18 = .ok (.iconst 1, 1) := by decide +kernel
theorem dX7_turn_19 : decode cX7_turn 19 = .ok (.invokevirtual 199, 3) := by decide +kernel
theorem dX7_turn_22 : decode cX7_turn 22 = .ok (.aload_n 0, 1) := by decide +kernel
theorem dX7_turn_23 : decode cX7_turn 23 = .ok (.iload_n 2, 1) := by decide +kernel
theorem dX7_turn_24 : decode cX7_turn 24 = .ok (.iload_n 3, 1) := by decide +kernel
theorem dX7_turn_25 : decode cX7_turn 25 = .ok (.iconst 0, 1) := by decide +kernel
theorem dX7_turn_26 : decode cX7_turn 26 = .ok (.invokevirtual 199, 3) := by decide +kernel
theorem dX7_turn_29 : decode cX7_turn 29 = .ok (.lmul, 1) := by decide +kernel
theorem dX7_turn_30 : decode cX7_turn 30 = .ok (.lsub, 1) := by decide +kernel
theorem dX7_turn_31 : decode cX7_turn 31 = .ok (.lreturn, 1) := by decide +kernel
theorem dX7_sideOf_0 : decode cX7_sideOf 0 = .ok (.iconst 0, 1) := by decide +kernel
theorem dX7_sideOf_1 : decode cX7_sideOf 1 = .ok (.istore_n 3, 1) := by decide +kernel
theorem dX7_sideOf_2 : decode cX7_sideOf 2 = .ok (.iload_n 3, 1) := by decide +kernel
theorem dX7_sideOf_3 : decode cX7_sideOf 3 = .ok (.aload_n 0, 1) := by decide +kernel
theorem dX7_sideOf_4 : decode cX7_sideOf 4 = .ok (.getfield 50, 3) := by decide +kernel
theorem dX7_sideOf_7 : decode cX7_sideOf 7 = .ok (.if_icmp .ge 97, 3) := by decide +kernel
theorem dX7_sideOf_10 : decode cX7_sideOf 10 = .ok (.aload_n 0, 1) := by decide +kernel
theorem dX7_sideOf_11 : decode cX7_sideOf 11 = .ok (.iload_n 3, 1) := by decide +kernel
theorem dX7_sideOf_12 : decode cX7_sideOf 12 = .ok (.iload_n 1, 1) := by decide +kernel
theorem dX7_sideOf_13 : decode cX7_sideOf 13 = .ok (.invokevirtual 165, 3) := by decide +kernel
theorem dX7_sideOf_16 : decode cX7_sideOf 16 = .ok (.istore 4, 2) := by decide +kernel
theorem dX7_sideOf_18 : decode cX7_sideOf 18 = .ok (.iconst 0, 1) := by decide +kernel
theorem dX7_sideOf_19 : decode cX7_sideOf 19 = .ok (.istore 5, 2) := by decide +kernel
theorem dX7_sideOf_21 : decode cX7_sideOf 21 = .ok (.iload 5, 2) := by decide +kernel
theorem dX7_sideOf_23 : decode cX7_sideOf 23 = .ok (.aload_n 0, 1) := by decide +kernel
theorem dX7_sideOf_24 : decode cX7_sideOf 24 = .ok (.getfield 50, 3) := by decide +kernel
theorem dX7_sideOf_27 : decode cX7_sideOf 27 = .ok (.if_icmp .ge 64, 3) := by decide +kernel
theorem dX7_sideOf_30 : decode cX7_sideOf 30 = .ok (.iload 4, 2) := by decide +kernel
theorem dX7_sideOf_32 : decode cX7_sideOf 32 = .ok (.ifCond .eq 59, 3) := by decide +kernel
theorem dX7_sideOf_35 : decode cX7_sideOf 35 = .ok (.aload_n 0, 1) := by decide +kernel
theorem dX7_sideOf_36 : decode cX7_sideOf 36 = .ok (.iload 5, 2) := by decide +kernel
theorem dX7_sideOf_38 : decode cX7_sideOf 38 = .ok (.iload_n 1, 1) := by decide +kernel
theorem dX7_sideOf_39 : decode cX7_sideOf 39 = .ok (.invokevirtual 165, 3) := by decide +kernel
theorem dX7_sideOf_42 : decode cX7_sideOf 42 = .ok (.ifCond .eq 36, 3) := by decide +kernel
theorem dX7_sideOf_45 : decode cX7_sideOf 45 = .ok (.iload_n 2, 1) := by decide +kernel
theorem dX7_sideOf_46 : decode cX7_sideOf 46 = .ok (.ifCond .eq 19, 3) := by decide +kernel
theorem dX7_sideOf_49 : decode cX7_sideOf 49 = .ok (.aload_n 0, 1) := by decide +kernel
theorem dX7_sideOf_50 : decode cX7_sideOf 50 = .ok (.iload 5, 2) := by decide +kernel
theorem dX7_sideOf_52 : decode cX7_sideOf 52 = .ok (.iload_n 3, 1) := by decide +kernel
theorem dX7_sideOf_53 : decode cX7_sideOf 53 = .ok (.iload_n 1, 1) := by decide +kernel
theorem dX7_sideOf_54 : decode cX7_sideOf 54 = .ok (.invokevirtual 203, 3) := by decide +kernel
theorem dX7_sideOf_57 : decode cX7_sideOf 57 = .ok (.lconst 0, 1) := by decide +kernel
theorem dX7_sideOf_58 : decode cX7_sideOf 58 = .ok (.lcmp, 1) := by decide +kernel
theorem dX7_sideOf_59 : decode cX7_sideOf 59 = .ok (.ifCond .lt 23, 3) := by decide +kernel
theorem dX7_sideOf_62 : decode cX7_sideOf 62 = .ok (.goto 16, 3) := by decide +kernel
theorem dX7_sideOf_65 : decode cX7_sideOf 65 = .ok (.aload_n 0, 1) := by decide +kernel
theorem dX7_sideOf_66 : decode cX7_sideOf 66 = .ok (.iload 5, 2) := by decide +kernel
theorem dX7_sideOf_68 : decode cX7_sideOf 68 = .ok (.iload_n 3, 1) := by decide +kernel
theorem dX7_sideOf_69 : decode cX7_sideOf 69 = .ok (.iload_n 1, 1) := by decide +kernel
theorem dX7_sideOf_70 : decode cX7_sideOf 70 = .ok (.invokevirtual 203, 3) := by decide +kernel
theorem dX7_sideOf_73 : decode cX7_sideOf 73 = .ok (.lconst 0, 1) := by decide +kernel
theorem dX7_sideOf_74 : decode cX7_sideOf 74 = .ok (.lcmp, 1) := by decide +kernel
theorem dX7_sideOf_75 : decode cX7_sideOf 75 = .ok (.ifCond .gt 7, 3) := by decide +kernel
theorem dX7_sideOf_78 : decode cX7_sideOf 78 = .ok (.iconst 1, 1) := by decide +kernel
theorem dX7_sideOf_79 : decode cX7_sideOf 79 = .ok (.goto 4, 3) := by decide +kernel
theorem dX7_sideOf_82 : decode cX7_sideOf 82 = .ok (.iconst 0, 1) := by decide +kernel
theorem dX7_sideOf_83 : decode cX7_sideOf 83 = .ok (.istore 4, 2) := by decide +kernel
theorem dX7_sideOf_85 : decode cX7_sideOf 85 = .ok (.iinc 5 1, 3) := by decide +kernel
theorem dX7_sideOf_88 : decode cX7_sideOf 88 = .ok (.goto (-67), 3) := by decide +kernel
theorem dX7_sideOf_91 : decode cX7_sideOf 91 = .ok (.iload 4, 2) := by decide +kernel
theorem dX7_sideOf_93 : decode cX7_sideOf 93 = .ok (.ifCond .eq 5, 3) := by decide +kernel
theorem dX7_sideOf_96 : decode cX7_sideOf 96 = .ok (.iload_n 3, 1) := by decide +kernel
theorem dX7_sideOf_97 : decode cX7_sideOf 97 = .ok (.ireturn, 1) := by decide +kernel
theorem dX7_sideOf_98 : decode cX7_sideOf 98 = .ok (.iinc 3 1, 3) := by decide +kernel
theorem dX7_sideOf_101 : decode cX7_sideOf 101 = .ok (.goto (-99), 3) := by decide +kernel
theorem dX7_sideOf_104 : decode cX7_sideOf 104 = .ok (.iconst (-1), 1) := by decide +kernel
theorem dX7_sideOf_105 : decode cX7_sideOf 105 = .ok (.ireturn, 1) := by decide +kernel
theorem dX7_isSome_0 : decode cX7_isSome 0 = .ok (.iconst 0, 1) := by decide +kernel
theorem dX7_isSome_1 : decode cX7_isSome 1 = .ok (.istore_n 2, 1) := by decide +kernel
theorem dX7_isSome_2 : decode cX7_isSome 2 = .ok (.iconst 0, 1) := by decide +kernel
theorem dX7_isSome_3 : decode cX7_isSome 3 = .ok (.istore_n 3, 1) := by decide +kernel
theorem dX7_isSome_4 : decode cX7_isSome 4 = .ok (.iload_n 3, 1) := by decide +kernel
theorem dX7_isSome_5 : decode cX7_isSome 5 = .ok (.aload_n 0, 1) := by decide +kernel
theorem dX7_isSome_6 : decode cX7_isSome 6 = .ok (.getfield 50, 3) := by decide +kernel
theorem dX7_isSome_9 : decode cX7_isSome 9 = .ok (.if_icmp .ge 28, 3) := by decide +kernel
theorem dX7_isSome_12 : decode cX7_isSome 12 = .ok (.iload_n 2, 1) := by decide +kernel
theorem dX7_isSome_13 : decode cX7_isSome 13 = .ok (.ifCond .ne 12, 3) := by decide +kernel
theorem dX7_isSome_16 : decode cX7_isSome 16 = .ok (.aload_n 0, 1) := by decide +kernel
theorem dX7_isSome_17 : decode cX7_isSome 17 = .ok (.iload_n 3, 1) := by decide +kernel
theorem dX7_isSome_18 : decode cX7_isSome 18 = .ok (.iload_n 1, 1) := by decide +kernel
theorem dX7_isSome_19 : decode cX7_isSome 19 = .ok (.invokevirtual 165, 3) := by decide +kernel
theorem dX7_isSome_22 : decode cX7_isSome 22 = .ok (.ifCond .eq 7, 3) := by decide +kernel
theorem dX7_isSome_25 : decode cX7_isSome 25 = .ok (.iconst 1, 1) := by decide +kernel
theorem dX7_isSome_26 : decode cX7_isSome 26 = .ok (.goto 4, 3) := by decide +kernel
theorem dX7_isSome_29 : decode cX7_isSome 29 = .ok (.iconst 0, 1) := by decide +kernel
theorem dX7_isSome_30 : decode cX7_isSome 30 = .ok (.istore_n 2, 1) := by decide +kernel
theorem dX7_isSome_31 : decode cX7_isSome 31 = .ok (.iinc 3 1, 3) := by decide +kernel
theorem dX7_isSome_34 : decode cX7_isSome 34 = .ok (.goto (-30), 3) := by decide +kernel
theorem dX7_isSome_37 : decode cX7_isSome 37 = .ok (.iload_n 2, 1) := by decide +kernel
theorem dX7_isSome_38 : decode cX7_isSome 38 = .ok (.ireturn, 1) := by decide +kernel
theorem dX7_widthOf_0 : decode cX7_widthOf 0 = .ok (.aload_n 0, 1) := by decide +kernel
theorem dX7_widthOf_1 : decode cX7_widthOf 1 = .ok (.iload_n 1, 1) := by decide +kernel
theorem dX7_widthOf_2 : decode cX7_widthOf 2 = .ok (.iconst 1, 1) := by decide +kernel
theorem dX7_widthOf_3 : decode cX7_widthOf 3 = .ok (.invokevirtual 206, 3) := by decide +kernel
theorem dX7_widthOf_6 : decode cX7_widthOf 6 = .ok (.istore_n 2, 1) := by decide +kernel
theorem dX7_widthOf_7 : decode cX7_widthOf 7 = .ok (.aload_n 0, 1) := by decide +kernel
theorem dX7_widthOf_8 : decode cX7_widthOf 8 = .ok (.iload_n 1, 1) := by decide +kernel
theorem dX7_widthOf_9 : decode cX7_widthOf 9 = .ok (.iconst 0, 1) := by decide +kernel
theorem dX7_widthOf_10 : decode cX7_widthOf 10 = .ok (.invokevirtual 206, 3) := by decide +kernel
theorem dX7_widthOf_13 : decode cX7_widthOf 13 = .ok (.istore_n 3, 1) := by decide +kernel
theorem dX7_widthOf_14 : decode cX7_widthOf 14 = .ok (.iload_n 2, 1) := by decide +kernel
theorem dX7_widthOf_15 : decode cX7_widthOf 15 = .ok (.ifCond .lt 7, 3) := by decide +kernel
theorem dX7_widthOf_18 : decode cX7_widthOf 18 = .ok (.iload_n 3, 1) := by decide +kernel
theorem dX7_widthOf_19 : decode cX7_widthOf 19 = .ok (.ifCond .ge 6, 3) := by decide +kernel
theorem dX7_widthOf_22 : decode cX7_widthOf 22 = .ok (.bipush (-2), 2) := by decide +kernel
theorem dX7_widthOf_24 : decode cX7_widthOf 24 = .ok (.ireturn, 1) := by decide +kernel
theorem dX7_widthOf_25 : decode cX7_widthOf 25 = .ok (.aload_n 0, 1) := by decide +kernel
theorem dX7_widthOf_26 : decode cX7_widthOf 26 = .ok (.iload_n 2, 1) := by decide +kernel
theorem dX7_widthOf_27 : decode cX7_widthOf 27 = .ok (.iload_n 1, 1) := by decide +kernel
theorem dX7_widthOf_28 : decode cX7_widthOf 28 = .ok (.iconst 0, 1) := by decide +kernel
theorem dX7_widthOf_29 : decode cX7_widthOf 29 = .ok (.invokevirtual 199, 3) := by decide +kernel
theorem dX7_widthOf_32 : decode cX7_widthOf 32 = .ok (.aload_n 0, 1) := by decide +kernel
theorem dX7_widthOf_33 : decode cX7_widthOf 33 = .ok (.iload_n 3, 1) := by decide +kernel
theorem dX7_widthOf_34 : decode cX7_widthOf 34 = .ok (.iload_n 1, 1) := by decide +kernel
theorem dX7_widthOf_35 : decode cX7_widthOf 35 = .ok (.iconst 0, 1) := by decide +kernel
theorem dX7_widthOf_36 : decode cX7_widthOf 36 = .ok (.invokevirtual 199, 3) := by decide +kernel
theorem dX7_widthOf_39 : decode cX7_widthOf 39 = .ok (.lmul, 1) := by decide +kernel
theorem dX7_widthOf_40 : decode cX7_widthOf 40 = .ok (.aload_n 0, 1) := by decide +kernel
theorem dX7_widthOf_41 : decode cX7_widthOf 41 = .ok (.iload_n 2, 1) := by decide +kernel
theorem dX7_widthOf_42 : decode cX7_widthOf 42 = .ok (.iload_n 1, 1) := by decide +kernel
theorem dX7_widthOf_43 : decode cX7_widthOf 43 = .ok (.iconst 1, 1) := by decide +kernel
theorem dX7_widthOf_44 : decode cX7_widthOf 44 = .ok (.invokevirtual 199, 3) := by decide +kernel
theorem dX7_widthOf_47 : decode cX7_widthOf 47 = .ok (.aload_n 0, 1) := by decide +kernel
theorem dX7_widthOf_48 : decode cX7_widthOf 48 = .ok (.iload_n 3, 1) := by decide +kernel
theorem dX7_widthOf_49 : decode cX7_widthOf 49 = .ok (.iload_n 1, 1) := by decide +kernel
theorem dX7_widthOf_50 : decode cX7_widthOf 50 = .ok (.iconst 1, 1) := by decide +kernel
theorem dX7_widthOf_51 : decode cX7_widthOf 51 = .ok (.invokevirtual 199, 3) := by decide +kernel
theorem dX7_widthOf_54 : decode cX7_widthOf 54 = .ok (.lmul, 1) := by decide +kernel
theorem dX7_widthOf_55 : decode cX7_widthOf 55 = .ok (.ladd, 1) := by decide +kernel
theorem dX7_widthOf_56 : decode cX7_widthOf 56 = .ok (.lstore 4, 2) := by decide +kernel
theorem dX7_widthOf_58 : decode cX7_widthOf 58 = .ok (.aload_n 0, 1) := by decide +kernel
theorem dX7_widthOf_59 : decode cX7_widthOf 59 = .ok (.iload_n 2, 1) := by decide +kernel
theorem dX7_widthOf_60 : decode cX7_widthOf 60 = .ok (.iload_n 3, 1) := by decide +kernel
theorem dX7_widthOf_61 : decode cX7_widthOf 61 = .ok (.iload_n 1, 1) := by decide +kernel
theorem dX7_widthOf_62 : decode cX7_widthOf 62 = .ok (.invokevirtual 203, 3) := by decide +kernel
theorem dX7_widthOf_65 : decode cX7_widthOf 65 = .ok (.lstore 6, 2) := by decide +kernel
theorem dX7_widthOf_67 : decode cX7_widthOf 67 = .ok (.lload 6, 2) := by decide +kernel
theorem dX7_widthOf_69 : decode cX7_widthOf 69 = .ok (.lconst 0, 1) := by decide +kernel
theorem dX7_widthOf_70 : decode cX7_widthOf 70 = .ok (.lcmp, 1) := by decide +kernel
theorem dX7_widthOf_71 : decode cX7_widthOf 71 = .ok (.ifCond .ge 9, 3) := by decide +kernel
theorem dX7_widthOf_74 : decode cX7_widthOf 74 = .ok (.lload 6, 2) := by decide +kernel
theorem dX7_widthOf_76 : decode cX7_widthOf 76 = .ok (.lneg, 1) := by decide +kernel
theorem dX7_widthOf_77 : decode cX7_widthOf 77 = .ok (.goto 5, 3) := by decide +kernel
theorem dX7_widthOf_80 : decode cX7_widthOf 80 = .ok (.lload 6, 2) := by decide +kernel
theorem dX7_widthOf_82 : decode cX7_widthOf 82 = .ok (.lstore 6, 2) := by decide +kernel
theorem dX7_widthOf_84 : decode cX7_widthOf 84 = .ok (.lload 4, 2) := by decide +kernel
theorem dX7_widthOf_86 : decode cX7_widthOf 86 = .ok (.lconst 0, 1) := by decide +kernel
theorem dX7_widthOf_87 : decode cX7_widthOf 87 = .ok (.lcmp, 1) := by decide +kernel
theorem dX7_widthOf_88 : decode cX7_widthOf 88 = .ok (.ifCond .gt 6, 3) := by decide +kernel
theorem dX7_widthOf_91 : decode cX7_widthOf 91 = .ok (.bipush (-2), 2) := by decide +kernel
theorem dX7_widthOf_93 : decode cX7_widthOf 93 = .ok (.ireturn, 1) := by decide +kernel
theorem dX7_widthOf_94 : decode cX7_widthOf 94 = .ok (.ldc2_w 169, 3) := by decide +kernel
theorem dX7_widthOf_97 : decode cX7_widthOf 97 = .ok (.lload 6, 2) := by decide +kernel
theorem dX7_widthOf_99 : decode cX7_widthOf 99 = .ok (.lmul, 1) := by decide +kernel
theorem dX7_widthOf_100 : decode cX7_widthOf 100 = .ok (.lload 4, 2) := by decide +kernel
theorem dX7_widthOf_102 : decode cX7_widthOf 102 = .ok (.ldiv, 1) := by decide +kernel
theorem dX7_widthOf_103 : decode cX7_widthOf 103 = .ok (.lstore 8, 2) := by decide +kernel
theorem dX7_widthOf_105 : decode cX7_widthOf 105 = .ok (.lload 8, 2) := by decide +kernel
theorem dX7_widthOf_107 : decode cX7_widthOf 107 = .ok (.ldc2_w 210, 3) := by decide +kernel
theorem dX7_widthOf_110 : decode cX7_widthOf 110 = .ok (.lcmp, 1) := by decide +kernel
theorem dX7_widthOf_111 : decode cX7_widthOf 111 = .ok (.ifCond .le 8, 3) := by decide +kernel
theorem dX7_widthOf_114 : decode cX7_widthOf 114 = .ok (.ldc 212, 2) := by decide +kernel
theorem dX7_widthOf_116 : decode cX7_widthOf 116 = .ok (.goto 6, 3) := by decide +kernel
theorem dX7_widthOf_119 : decode cX7_widthOf 119 = .ok (.lload 8, 2) := by decide +kernel
theorem dX7_widthOf_121 : decode cX7_widthOf 121 = .ok (.l2i, 1) := by decide +kernel
theorem dX7_widthOf_122 : decode cX7_widthOf 122 = .ok (.ireturn, 1) := by decide +kernel
theorem dX7_patch_0 : decode cX7_patch 0 = .ok (.iload_n 1, 1) := by decide +kernel
theorem dX7_patch_1 : decode cX7_patch 1 = .ok (.invokestatic 110, 3) := by decide +kernel
theorem dX7_patch_4 : decode cX7_patch 4 = .ok (.ifCond .eq 11, 3) := by decide +kernel
theorem dX7_patch_7 : decode cX7_patch 7 = .ok (.aload_n 0, 1) := by decide +kernel
theorem dX7_patch_8 : decode cX7_patch 8 = .ok (.iload_n 1, 1) := by decide +kernel
theorem dX7_patch_9 : decode cX7_patch 9 = .ok (.invokevirtual 213, 3) := by decide +kernel
theorem dX7_patch_12 : decode cX7_patch 12 = .ok (.ifCond .ne 7, 3) := by decide +kernel
theorem dX7_patch_15 : decode cX7_patch 15 = .ok (.iconst (-1), 1) := by decide +kernel
theorem dX7_patch_16 : decode cX7_patch 16 = .ok (.goto 8, 3) := by decide +kernel
theorem dX7_patch_19 : decode cX7_patch 19 = .ok (.aload_n 0, 1) := by decide +kernel
theorem dX7_patch_20 : decode cX7_patch 20 = .ok (.iload_n 1, 1) := by decide +kernel
theorem dX7_patch_21 : decode cX7_patch 21 = .ok (.invokevirtual 216, 3) := by decide +kernel
theorem dX7_patch_24 : decode cX7_patch 24 = .ok (.ireturn, 1) := by decide +kernel
theorem dX7_side_0 : decode cX7_side 0 = .ok (.iload_n 1, 1) := by decide +kernel
theorem dX7_side_1 : decode cX7_side 1 = .ok (.invokestatic 110, 3) := by decide +kernel
theorem dX7_side_4 : decode cX7_side 4 = .ok (.ifCond .eq 11, 3) := by decide +kernel
theorem dX7_side_7 : decode cX7_side 7 = .ok (.aload_n 0, 1) := by decide +kernel
theorem dX7_side_8 : decode cX7_side 8 = .ok (.iload_n 1, 1) := by decide +kernel
theorem dX7_side_9 : decode cX7_side 9 = .ok (.invokevirtual 213, 3) := by decide +kernel
theorem dX7_side_12 : decode cX7_side 12 = .ok (.ifCond .ne 7, 3) := by decide +kernel
theorem dX7_side_15 : decode cX7_side 15 = .ok (.iconst (-1), 1) := by decide +kernel
theorem dX7_side_16 : decode cX7_side 16 = .ok (.goto 9, 3) := by decide +kernel
theorem dX7_side_19 : decode cX7_side 19 = .ok (.aload_n 0, 1) := by decide +kernel
theorem dX7_side_20 : decode cX7_side 20 = .ok (.iload_n 1, 1) := by decide +kernel
theorem dX7_side_21 : decode cX7_side 21 = .ok (.iload_n 2, 1) := by decide +kernel
theorem dX7_side_22 : decode cX7_side 22 = .ok (.invokevirtual 206, 3) := by decide +kernel
theorem dX7_side_25 : decode cX7_side 25 = .ok (.ireturn, 1) := by decide +kernel
theorem dX7_tells_0 : decode cX7_tells 0 = .ok (.iload_n 1, 1) := by decide +kernel
theorem dX7_tells_1 : decode cX7_tells 1 = .ok (.invokestatic 110, 3) := by decide +kernel
theorem dX7_tells_4 : decode cX7_tells 4 = .ok (.ifCond .eq 15, 3) := by decide +kernel
theorem dX7_tells_7 : decode cX7_tells 7 = .ok (.iload_n 2, 1) := by decide +kernel
theorem dX7_tells_8 : decode cX7_tells 8 = .ok (.invokestatic 110, 3) := by decide +kernel
theorem dX7_tells_11 : decode cX7_tells 11 = .ok (.ifCond .eq 8, 3) := by decide +kernel
theorem dX7_tells_14 : decode cX7_tells 14 = .ok (.iload_n 1, 1) := by decide +kernel
theorem dX7_tells_15 : decode cX7_tells 15 = .ok (.iload_n 2, 1) := by decide +kernel
theorem dX7_tells_16 : decode cX7_tells 16 = .ok (.if_icmp .le 7, 3) := by decide +kernel
theorem dX7_tells_19 : decode cX7_tells 19 = .ok (.sipush (-1000), 3) := by decide +kernel
theorem dX7_tells_22 : decode cX7_tells 22 = .ok (.ireturn, 1) := by decide +kernel
theorem dX7_tells_23 : decode cX7_tells 23 = .ok (.sipush (-1000), 3) := by decide +kernel
theorem dX7_tells_26 : decode cX7_tells 26 = .ok (.istore_n 3, 1) := by decide +kernel
theorem dX7_tells_27 : decode cX7_tells 27 = .ok (.ldc2_w 220, 3) := by decide +kernel
theorem dX7_tells_30 : decode cX7_tells 30 = .ok (.lstore 4, 2) := by decide +kernel
theorem dX7_tells_32 : decode cX7_tells 32 = .ok (.iload_n 1, 1) := by decide +kernel
theorem dX7_tells_33 : decode cX7_tells 33 = .ok (.istore 6, 2) := by decide +kernel
theorem dX7_tells_35 : decode cX7_tells 35 = .ok (.iload 6, 2) := by decide +kernel
theorem dX7_tells_37 : decode cX7_tells 37 = .ok (.iload_n 2, 1) := by decide +kernel
theorem dX7_tells_38 : decode cX7_tells 38 = .ok (.if_icmp .gt 65, 3) := by decide +kernel
theorem dX7_tells_41 : decode cX7_tells 41 = .ok (.aload_n 0, 1) := by decide +kernel
theorem dX7_tells_42 : decode cX7_tells 42 = .ok (.iload 6, 2) := by decide +kernel
theorem dX7_tells_44 : decode cX7_tells 44 = .ok (.invokevirtual 213, 3) := by decide +kernel
theorem dX7_tells_47 : decode cX7_tells 47 = .ok (.ifCond .ne 6, 3) := by decide +kernel
theorem dX7_tells_50 : decode cX7_tells 50 = .ok (.goto 47, 3) := by decide +kernel
theorem dX7_tells_53 : decode cX7_tells 53 = .ok (.aload_n 0, 1) := by decide +kernel
theorem dX7_tells_54 : decode cX7_tells 54 = .ok (.iload 6, 2) := by decide +kernel
theorem dX7_tells_56 : decode cX7_tells 56 = .ok (.invokevirtual 216, 3) := by decide +kernel
theorem dX7_tells_59 : decode cX7_tells 59 = .ok (.istore 7, 2) := by decide +kernel
theorem dX7_tells_61 : decode cX7_tells 61 = .ok (.iload 7, 2) := by decide +kernel
theorem dX7_tells_63 : decode cX7_tells 63 = .ok (.bipush (-2), 2) := by decide +kernel
theorem dX7_tells_65 : decode cX7_tells 65 = .ok (.if_icmp .ne 9, 3) := by decide +kernel
theorem dX7_tells_68 : decode cX7_tells 68 = .ok (.ldc2_w 222, 3) := by decide +kernel
theorem dX7_tells_71 : decode cX7_tells 71 = .ok (.goto 6, 3) := by decide +kernel
theorem dX7_tells_74 : decode cX7_tells 74 = .ok (.iload 7, 2) := by decide +kernel
theorem dX7_tells_76 : decode cX7_tells 76 = .ok (.i2l, 1) := by decide +kernel
theorem dX7_tells_77 : decode cX7_tells 77 = .ok (.lstore 8, 2) := by decide +kernel
theorem dX7_tells_79 : decode cX7_tells 79 = .ok (.lload 8, 2) := by decide +kernel
theorem dX7_tells_81 : decode cX7_tells 81 = .ok (.lload 4, 2) := by decide +kernel
theorem dX7_tells_83 : decode cX7_tells 83 = .ok (.lcmp, 1) := by decide +kernel
theorem dX7_tells_84 : decode cX7_tells 84 = .ok (.ifCond .gt 6, 3) := by decide +kernel
theorem dX7_tells_87 : decode cX7_tells 87 = .ok (.goto 10, 3) := by decide +kernel
theorem dX7_tells_90 : decode cX7_tells 90 = .ok (.lload 8, 2) := by decide +kernel
theorem dX7_tells_92 : decode cX7_tells 92 = .ok (.lstore 4, 2) := by decide +kernel
theorem dX7_tells_94 : decode cX7_tells 94 = .ok (.iload 6, 2) := by decide +kernel
theorem dX7_tells_96 : decode cX7_tells 96 = .ok (.istore_n 3, 1) := by decide +kernel
theorem dX7_tells_97 : decode cX7_tells 97 = .ok (.iinc 6 1, 3) := by decide +kernel
theorem dX7_tells_100 : decode cX7_tells 100 = .ok (.goto (-65), 3) := by decide +kernel
theorem dX7_tells_103 : decode cX7_tells 103 = .ok (.iload_n 3, 1) := by decide +kernel
theorem dX7_tells_104 : decode cX7_tells 104 = .ok (.ireturn, 1) := by decide +kernel
theorem dX7_far_0 : decode cX7_far 0 = .ok (.sipush 601, 3) := by decide +kernel
theorem dX7_far_3 : decode cX7_far 3 = .ok (.iload_n 1, 1) := by decide +kernel
theorem dX7_far_4 : decode cX7_far 4 = .ok (.imul, 1) := by decide +kernel
theorem dX7_far_5 : decode cX7_far 5 = .ok (.iload_n 2, 1) := by decide +kernel
theorem dX7_far_6 : decode cX7_far 6 = .ok (.iadd, 1) := by decide +kernel
theorem dX7_far_7 : decode cX7_far 7 = .ok (.sipush 300, 3) := by decide +kernel
theorem dX7_far_10 : decode cX7_far 10 = .ok (.iadd, 1) := by decide +kernel
theorem dX7_far_11 : decode cX7_far 11 = .ok (.istore_n 3, 1) := by decide +kernel
theorem dX7_far_12 : decode cX7_far 12 = .ok (.aload_n 0, 1) := by decide +kernel
theorem dX7_far_13 : decode cX7_far 13 = .ok (.getfield 63, 3) := by decide +kernel
theorem dX7_far_16 : decode cX7_far 16 = .ok (.iload_n 3, 1) := by decide +kernel
theorem dX7_far_17 : decode cX7_far 17 = .ok (.laload, 1) := by decide +kernel
theorem dX7_far_18 : decode cX7_far 18 = .ok (.aload_n 0, 1) := by decide +kernel
theorem dX7_far_19 : decode cX7_far 19 = .ok (.getfield 63, 3) := by decide +kernel
theorem dX7_far_22 : decode cX7_far 22 = .ok (.iload_n 3, 1) := by decide +kernel
theorem dX7_far_23 : decode cX7_far 23 = .ok (.laload, 1) := by decide +kernel
theorem dX7_far_24 : decode cX7_far 24 = .ok (.lmul, 1) := by decide +kernel
theorem dX7_far_25 : decode cX7_far 25 = .ok (.aload_n 0, 1) := by decide +kernel
theorem dX7_far_26 : decode cX7_far 26 = .ok (.getfield 67, 3) := by decide +kernel
theorem dX7_far_29 : decode cX7_far 29 = .ok (.iload_n 3, 1) := by decide +kernel
theorem dX7_far_30 : decode cX7_far 30 = .ok (.laload, 1) := by decide +kernel
theorem dX7_far_31 : decode cX7_far 31 = .ok (.aload_n 0, 1) := by decide +kernel
theorem dX7_far_32 : decode cX7_far 32 = .ok (.getfield 67, 3) := by decide +kernel
theorem dX7_far_35 : decode cX7_far 35 = .ok (.iload_n 3, 1) := by decide +kernel
theorem dX7_far_36 : decode cX7_far 36 = .ok (.laload, 1) := by decide +kernel
theorem dX7_far_37 : decode cX7_far 37 = .ok (.lmul, 1) := by decide +kernel
theorem dX7_far_38 : decode cX7_far 38 = .ok (.ladd, 1) := by decide +kernel
theorem dX7_far_39 : decode cX7_far 39 = .ok (.lreturn, 1) := by decide +kernel
theorem dX7_period_0 : decode cX7_period 0 = .ok (.aload_n 0, 1) := by decide +kernel
theorem dX7_period_1 : decode cX7_period 1 = .ok (.iload_n 1, 1) := by decide +kernel
theorem dX7_period_2 : decode cX7_period 2 = .ok (.invokevirtual 184, 3) := by decide +kernel
theorem dX7_period_5 : decode cX7_period 5 = .ok (.ifCond .ne 5, 3) := by decide +kernel
theorem dX7_period_8 : decode cX7_period 8 = .ok (.iconst (-1), 1) := by decide +kernel
theorem dX7_period_9 : decode cX7_period 9 = .ok (.ireturn, 1) := by decide +kernel
theorem dX7_period_10 : decode cX7_period 10 = .ok (.iconst 0, 1) := by decide +kernel
theorem dX7_period_11 : decode cX7_period 11 = .ok (.istore_n 2, 1) := by decide +kernel
theorem dX7_period_12 : decode cX7_period 12 = .ok (.iconst 1, 1) := by decide +kernel
theorem dX7_period_13 : decode cX7_period 13 = .ok (.istore_n 3, 1) := by decide +kernel
theorem dX7_period_14 : decode cX7_period 14 = .ok (.iload_n 3, 1) := by decide +kernel
theorem dX7_period_15 : decode cX7_period 15 = .ok (.sipush 300, 3) := by decide +kernel
theorem dX7_period_18 : decode cX7_period 18 = .ok (.if_icmp .ge 78, 3) := by decide +kernel
theorem dX7_period_21 : decode cX7_period 21 = .ok (.aload_n 0, 1) := by decide +kernel
theorem dX7_period_22 : decode cX7_period 22 = .ok (.iload_n 1, 1) := by decide +kernel
theorem dX7_period_23 : decode cX7_period 23 = .ok (.iconst 0, 1) := by decide +kernel
theorem dX7_period_24 : decode cX7_period 24 = .ok (.invokevirtual 165, 3) := by decide +kernel
theorem dX7_period_27 : decode cX7_period 27 = .ok (.ifCond .eq 63, 3) := by decide +kernel
theorem dX7_period_30 : decode cX7_period 30 = .ok (.aload_n 0, 1) := by decide +kernel
theorem dX7_period_31 : decode cX7_period 31 = .ok (.iload_n 1, 1) := by decide +kernel
theorem dX7_period_32 : decode cX7_period 32 = .ok (.iload_n 3, 1) := by decide +kernel
theorem dX7_period_33 : decode cX7_period 33 = .ok (.iconst 1, 1) := by decide +kernel
theorem dX7_period_34 : decode cX7_period 34 = .ok (.iadd, 1) := by decide +kernel
theorem dX7_period_35 : decode cX7_period 35 = .ok (.invokevirtual 165, 3) := by decide +kernel
theorem dX7_period_38 : decode cX7_period 38 = .ok (.ifCond .eq 52, 3) := by decide +kernel
theorem dX7_period_41 : decode cX7_period 41 = .ok (.aload_n 0, 1) := by decide +kernel
theorem dX7_period_42 : decode cX7_period 42 = .ok (.iload_n 1, 1) := by decide +kernel
theorem dX7_period_43 : decode cX7_period 43 = .ok (.iload_n 3, 1) := by decide +kernel
theorem dX7_period_44 : decode cX7_period 44 = .ok (.invokevirtual 224, 3) := by decide +kernel
theorem dX7_period_47 : decode cX7_period 47 = .ok (.aload_n 0, 1) := by decide +kernel
theorem dX7_period_48 : decode cX7_period 48 = .ok (.iload_n 1, 1) := by decide +kernel
theorem dX7_period_49 : decode cX7_period 49 = .ok (.iload_n 3, 1) := by decide +kernel
theorem dX7_period_50 : decode cX7_period 50 = .ok (.iconst 1, 1) := by decide +kernel
theorem dX7_period_51 : decode cX7_period 51 = .ok (.isub, 1) := by decide +kernel
theorem dX7_period_52 : decode cX7_period 52 = .ok (.invokevirtual 224, 3) := by decide +kernel
theorem dX7_period_55 : decode cX7_period 55 = .ok (.lcmp, 1) := by decide +kernel
theorem dX7_period_56 : decode cX7_period 56 = .ok (.ifCond .ge 34, 3) := by decide +kernel
theorem dX7_period_59 : decode cX7_period 59 = .ok (.aload_n 0, 1) := by decide +kernel
theorem dX7_period_60 : decode cX7_period 60 = .ok (.iload_n 1, 1) := by decide +kernel
theorem dX7_period_61 : decode cX7_period 61 = .ok (.iload_n 3, 1) := by decide +kernel
theorem dX7_period_62 : decode cX7_period 62 = .ok (.invokevirtual 224, 3) := by decide +kernel
theorem dX7_period_65 : decode cX7_period 65 = .ok (.aload_n 0, 1) := by decide +kernel
theorem dX7_period_66 : decode cX7_period 66 = .ok (.iload_n 1, 1) := by decide +kernel
theorem dX7_period_67 : decode cX7_period 67 = .ok (.iload_n 3, 1) := by decide +kernel
theorem dX7_period_68 : decode cX7_period 68 = .ok (.iconst 1, 1) := by decide +kernel
theorem dX7_period_69 : decode cX7_period 69 = .ok (.iadd, 1) := by decide +kernel
theorem dX7_period_70 : decode cX7_period 70 = .ok (.invokevirtual 224, 3) := by decide +kernel
theorem dX7_period_73 : decode cX7_period 73 = .ok (.lcmp, 1) := by decide +kernel
theorem dX7_period_74 : decode cX7_period 74 = .ok (.ifCond .le 6, 3) := by decide +kernel
theorem dX7_period_77 : decode cX7_period 77 = .ok (.goto 13, 3) := by decide +kernel
theorem dX7_period_80 : decode cX7_period 80 = .ok (.iload_n 2, 1) := by decide +kernel
theorem dX7_period_81 : decode cX7_period 81 = .ok (.ifCond .le 7, 3) := by decide +kernel
theorem dX7_period_84 : decode cX7_period 84 = .ok (.iload_n 3, 1) := by decide +kernel
theorem dX7_period_85 : decode cX7_period 85 = .ok (.iload_n 2, 1) := by decide +kernel
theorem dX7_period_86 : decode cX7_period 86 = .ok (.isub, 1) := by decide +kernel
theorem dX7_period_87 : decode cX7_period 87 = .ok (.ireturn, 1) := by decide +kernel
theorem dX7_period_88 : decode cX7_period 88 = .ok (.iload_n 3, 1) := by decide +kernel
theorem dX7_period_89 : decode cX7_period 89 = .ok (.istore_n 2, 1) := by decide +kernel
theorem dX7_period_90 : decode cX7_period 90 = .ok (.iinc 3 1, 3) := by decide +kernel
theorem dX7_period_93 : decode cX7_period 93 = .ok (.goto (-79), 3) := by decide +kernel
theorem dX7_period_96 : decode cX7_period 96 = .ok (.iconst 0, 1) := by decide +kernel
theorem dX7_period_97 : decode cX7_period 97 = .ok (.ireturn, 1) := by decide +kernel
theorem dX7_span_0 : decode cX7_span 0 = .ok (.aload_n 0, 1) := by decide +kernel
theorem dX7_span_1 : decode cX7_span 1 = .ok (.getfield 50, 3) := by decide +kernel
theorem dX7_span_4 : decode cX7_span 4 = .ok (.ifCond .gt 5, 3) := by decide +kernel
theorem dX7_span_7 : decode cX7_span 7 = .ok (.iconst (-1), 1) := by decide +kernel
theorem dX7_span_8 : decode cX7_span 8 = .ok (.ireturn, 1) := by decide +kernel
theorem dX7_span_9 : decode cX7_span 9 = .ok (.aload_n 0, 1) := by decide +kernel
theorem dX7_span_10 : decode cX7_span 10 = .ok (.iconst 0, 1) := by decide +kernel
theorem dX7_span_11 : decode cX7_span 11 = .ok (.invokevirtual 228, 3) := by decide +kernel
theorem dX7_span_14 : decode cX7_span 14 = .ok (.istore_n 2, 1) := by decide +kernel
theorem dX7_span_15 : decode cX7_span 15 = .ok (.iconst 0, 1) := by decide +kernel
theorem dX7_span_16 : decode cX7_span 16 = .ok (.istore_n 3, 1) := by decide +kernel
theorem dX7_span_17 : decode cX7_span 17 = .ok (.iload_n 3, 1) := by decide +kernel
theorem dX7_span_18 : decode cX7_span 18 = .ok (.aload_n 0, 1) := by decide +kernel
theorem dX7_span_19 : decode cX7_span 19 = .ok (.getfield 50, 3) := by decide +kernel
theorem dX7_span_22 : decode cX7_span 22 = .ok (.if_icmp .ge 55, 3) := by decide +kernel
theorem dX7_span_25 : decode cX7_span 25 = .ok (.aload_n 0, 1) := by decide +kernel
theorem dX7_span_26 : decode cX7_span 26 = .ok (.iload_n 3, 1) := by decide +kernel
theorem dX7_span_27 : decode cX7_span 27 = .ok (.invokevirtual 228, 3) := by decide +kernel
theorem dX7_span_30 : decode cX7_span 30 = .ok (.istore 4, 2) := by decide +kernel
theorem dX7_span_32 : decode cX7_span 32 = .ok (.iload 4, 2) := by decide +kernel
theorem dX7_span_34 : decode cX7_span 34 = .ok (.ifCond .ne 5, 3) := by decide +kernel
theorem dX7_span_37 : decode cX7_span 37 = .ok (.iconst 0, 1) := by decide +kernel
theorem dX7_span_38 : decode cX7_span 38 = .ok (.ireturn, 1) := by decide +kernel
theorem dX7_span_39 : decode cX7_span 39 = .ok (.iload_n 1, 1) := by decide +kernel
theorem dX7_span_40 : decode cX7_span 40 = .ok (.ifCond .eq 18, 3) := by decide +kernel
theorem dX7_span_43 : decode cX7_span 43 = .ok (.iload 4, 2) := by decide +kernel
theorem dX7_span_45 : decode cX7_span 45 = .ok (.iload_n 2, 1) := by decide +kernel
theorem dX7_span_46 : decode cX7_span 46 = .ok (.if_icmp .le 8, 3) := by decide +kernel
theorem dX7_span_49 : decode cX7_span 49 = .ok (.iload 4, 2) := by decide +kernel
theorem dX7_span_51 : decode cX7_span 51 = .ok (.goto 19, 3) := by decide +kernel
theorem dX7_span_54 : decode cX7_span 54 = .ok (.iload_n 2, 1) := by decide +kernel
theorem dX7_span_55 : decode cX7_span 55 = .ok (.goto 15, 3) := by decide +kernel
theorem dX7_span_58 : decode cX7_span 58 = .ok (.iload 4, 2) := by decide +kernel
theorem dX7_span_60 : decode cX7_span 60 = .ok (.iload_n 2, 1) := by decide +kernel
theorem dX7_span_61 : decode cX7_span 61 = .ok (.if_icmp .ge 8, 3) := by decide +kernel
theorem dX7_span_64 : decode cX7_span 64 = .ok (.iload 4, 2) := by decide +kernel
theorem dX7_span_66 : decode cX7_span 66 = .ok (.goto 4, 3) := by decide +kernel
theorem dX7_span_69 : decode cX7_span 69 = .ok (.iload_n 2, 1) := by decide +kernel
theorem dX7_span_70 : decode cX7_span 70 = .ok (.istore_n 2, 1) := by decide +kernel
theorem dX7_span_71 : decode cX7_span 71 = .ok (.iinc 3 1, 3) := by decide +kernel
theorem dX7_span_74 : decode cX7_span 74 = .ok (.goto (-57), 3) := by decide +kernel
theorem dX7_span_77 : decode cX7_span 77 = .ok (.iload_n 2, 1) := by decide +kernel
theorem dX7_span_78 : decode cX7_span 78 = .ok (.ireturn, 1) := by decide +kernel
theorem dX7_near_0 : decode cX7_near 0 = .ok (.iload_n 1, 1) := by decide +kernel
theorem dX7_near_1 : decode cX7_near 1 = .ok (.iconst (-1), 1) := by decide +kernel
theorem dX7_near_2 : decode cX7_near 2 = .ok (.if_icmp .eq 11, 3) := by decide +kernel
theorem dX7_near_5 : decode cX7_near 5 = .ok (.aload_n 0, 1) := by decide +kernel
theorem dX7_near_6 : decode cX7_near 6 = .ok (.iload_n 1, 1) := by decide +kernel
theorem dX7_near_7 : decode cX7_near 7 = .ok (.invokevirtual 184, 3) := by decide +kernel
theorem dX7_near_10 : decode cX7_near 10 = .ok (.ifCond .eq 22, 3) := by decide +kernel
theorem dX7_near_13 : decode cX7_near 13 = .ok (.iload_n 2, 1) := by decide +kernel
theorem dX7_near_14 : decode cX7_near 14 = .ok (.invokestatic 110, 3) := by decide +kernel
theorem dX7_near_17 : decode cX7_near 17 = .ok (.ifCond .eq 15, 3) := by decide +kernel
theorem dX7_near_20 : decode cX7_near 20 = .ok (.iload_n 3, 1) := by decide +kernel
theorem dX7_near_21 : decode cX7_near 21 = .ok (.invokestatic 110, 3) := by decide +kernel
theorem dX7_near_24 : decode cX7_near 24 = .ok (.ifCond .eq 8, 3) := by decide +kernel
theorem dX7_near_27 : decode cX7_near 27 = .ok (.iload_n 2, 1) := by decide +kernel
theorem dX7_near_28 : decode cX7_near 28 = .ok (.iload_n 3, 1) := by decide +kernel
theorem dX7_near_29 : decode cX7_near 29 = .ok (.if_icmp .le 7, 3) := by decide +kernel
theorem dX7_near_32 : decode cX7_near 32 = .ok (.ldc2_w 220, 3) := by decide +kernel
theorem dX7_near_35 : decode cX7_near 35 = .ok (.lreturn, 1) := by decide +kernel
theorem dX7_near_36 : decode cX7_near 36 = .ok (.ldc2_w 220, 3) := by decide +kernel
theorem dX7_near_39 : decode cX7_near 39 = .ok (.lstore 4, 2) := by decide +kernel
theorem dX7_near_41 : decode cX7_near 41 = .ok (.iconst 0, 1) := by decide +kernel
theorem dX7_near_42 : decode cX7_near 42 = .ok (.istore 6, 2) := by decide +kernel
theorem dX7_near_44 : decode cX7_near 44 = .ok (.iload_n 2, 1) := by decide +kernel
theorem dX7_near_45 : decode cX7_near 45 = .ok (.istore 7, 2) := by decide +kernel
theorem dX7_near_47 : decode cX7_near 47 = .ok (.iload 7, 2) := by decide +kernel
theorem dX7_near_49 : decode cX7_near 49 = .ok (.iload_n 3, 1) := by decide +kernel
theorem dX7_near_50 : decode cX7_near 50 = .ok (.if_icmp .gt 119, 3) := by decide +kernel
theorem dX7_near_53 : decode cX7_near 53 = .ok (.iconst 0, 1) := by decide +kernel
theorem dX7_near_54 : decode cX7_near 54 = .ok (.istore 8, 2) := by decide +kernel
theorem dX7_near_56 : decode cX7_near 56 = .ok (.iload 8, 2) := by decide +kernel
theorem dX7_near_58 : decode cX7_near 58 = .ok (.aload_n 0, 1) := by decide +kernel
theorem dX7_near_59 : decode cX7_near 59 = .ok (.getfield 50, 3) := by decide +kernel
theorem dX7_near_62 : decode cX7_near 62 = .ok (.if_icmp .ge 101, 3) := by decide +kernel
theorem dX7_near_65 : decode cX7_near 65 = .ok (.iload_n 1, 1) := by decide +kernel
theorem dX7_near_66 : decode cX7_near 66 = .ok (.iconst (-1), 1) := by decide +kernel
theorem dX7_near_67 : decode cX7_near 67 = .ok (.if_icmp .eq 9, 3) := by decide +kernel
theorem dX7_near_70 : decode cX7_near 70 = .ok (.iload 8, 2) := by decide +kernel
theorem dX7_near_72 : decode cX7_near 72 = .ok (.iload_n 1, 1) := by decide +kernel
theorem dX7_near_73 : decode cX7_near 73 = .ok (.if_icmp .ne 84, 3) := by decide +kernel
theorem dX7_near_76 : decode cX7_near 76 = .ok (.aload_n 0, 1) := by decide +kernel
theorem dX7_near_77 : decode cX7_near 77 = .ok (.iload 8, 2) := by decide +kernel
theorem dX7_near_79 : decode cX7_near 79 = .ok (.iload 7, 2) := by decide +kernel
theorem dX7_near_81 : decode cX7_near 81 = .ok (.invokevirtual 165, 3) := by decide +kernel
theorem dX7_near_84 : decode cX7_near 84 = .ok (.ifCond .ne 6, 3) := by decide +kernel
theorem dX7_near_87 : decode cX7_near 87 = .ok (.goto 70, 3) := by decide +kernel
theorem dX7_near_90 : decode cX7_near 90 = .ok (.aload_n 0, 1) := by decide +kernel
theorem dX7_near_91 : decode cX7_near 91 = .ok (.iload 8, 2) := by decide +kernel
theorem dX7_near_93 : decode cX7_near 93 = .ok (.iload 7, 2) := by decide +kernel
theorem dX7_near_95 : decode cX7_near 95 = .ok (.iconst 0, 1) := by decide +kernel
theorem dX7_near_96 : decode cX7_near 96 = .ok (.invokevirtual 199, 3) := by decide +kernel
theorem dX7_near_99 : decode cX7_near 99 = .ok (.aload_n 0, 1) := by decide +kernel
theorem dX7_near_100 : decode cX7_near 100 = .ok (.iload 8, 2) := by decide +kernel
theorem dX7_near_102 : decode cX7_near 102 = .ok (.iload 7, 2) := by decide +kernel
theorem dX7_near_104 : decode cX7_near 104 = .ok (.iconst 0, 1) := by decide +kernel
theorem dX7_near_105 : decode cX7_near 105 = .ok (.invokevirtual 199, 3) := by decide +kernel
theorem dX7_near_108 : decode cX7_near 108 = .ok (.lmul, 1) := by decide +kernel
theorem dX7_near_109 : decode cX7_near 109 = .ok (.aload_n 0, 1) := by decide +kernel
theorem dX7_near_110 : decode cX7_near 110 = .ok (.iload 8, 2) := by decide +kernel
theorem dX7_near_112 : decode cX7_near 112 = .ok (.iload 7, 2) := by decide +kernel
theorem dX7_near_114 : decode cX7_near 114 = .ok (.iconst 1, 1) := by decide +kernel
theorem dX7_near_115 : decode cX7_near 115 = .ok (.invokevirtual 199, 3) := by decide +kernel
theorem dX7_near_118 : decode cX7_near 118 = .ok (.aload_n 0, 1) := by decide +kernel
theorem dX7_near_119 : decode cX7_near 119 = .ok (.iload 8, 2) := by decide +kernel
theorem dX7_near_121 : decode cX7_near 121 = .ok (.iload 7, 2) := by decide +kernel
theorem dX7_near_123 : decode cX7_near 123 = .ok (.iconst 1, 1) := by decide +kernel
theorem dX7_near_124 : decode cX7_near 124 = .ok (.invokevirtual 199, 3) := by decide +kernel
theorem dX7_near_127 : decode cX7_near 127 = .ok (.lmul, 1) := by decide +kernel
theorem dX7_near_128 : decode cX7_near 128 = .ok (.ladd, 1) := by decide +kernel
theorem dX7_near_129 : decode cX7_near 129 = .ok (.lstore 9, 2) := by decide +kernel
theorem dX7_near_131 : decode cX7_near 131 = .ok (.lload 4, 2) := by decide +kernel
theorem dX7_near_133 : decode cX7_near 133 = .ok (.lconst 0, 1) := by decide +kernel
theorem dX7_near_134 : decode cX7_near 134 = .ok (.lcmp, 1) := by decide +kernel
theorem dX7_near_135 : decode cX7_near 135 = .ok (.ifCond .lt 14, 3) := by decide +kernel
theorem dX7_near_138 : decode cX7_near 138 = .ok (.lload 9, 2) := by decide +kernel
theorem dX7_near_140 : decode cX7_near 140 = .ok (.lload 4, 2) := by decide +kernel
theorem dX7_near_142 : decode cX7_near 142 = .ok (.lcmp, 1) := by decide +kernel
theorem dX7_near_143 : decode cX7_near 143 = .ok (.ifCond .lt 6, 3) := by decide +kernel
theorem dX7_near_146 : decode cX7_near 146 = .ok (.goto 11, 3) := by decide +kernel
theorem dX7_near_149 : decode cX7_near 149 = .ok (.lload 9, 2) := by decide +kernel
theorem dX7_near_151 : decode cX7_near 151 = .ok (.lstore 4, 2) := by decide +kernel
theorem dX7_near_153 : decode cX7_near 153 = .ok (.iload 7, 2) := by decide +kernel
theorem dX7_near_155 : decode cX7_near 155 = .ok (.istore 6, 2) := by decide +kernel
theorem dX7_near_157 : decode cX7_near 157 = .ok (.iinc 8 1, 3) := by decide +kernel
theorem dX7_near_160 : decode cX7_near 160 = .ok (.goto (-104), 3) := by decide +kernel
theorem dX7_near_163 : decode cX7_near 163 = .ok (.iinc 7 1, 3) := by decide +kernel
theorem dX7_near_166 : decode cX7_near 166 = .ok (.goto (-119), 3) := by decide +kernel
theorem dX7_near_169 : decode cX7_near 169 = .ok (.lload 4, 2) := by decide +kernel
theorem dX7_near_171 : decode cX7_near 171 = .ok (.lconst 0, 1) := by decide +kernel
theorem dX7_near_172 : decode cX7_near 172 = .ok (.lcmp, 1) := by decide +kernel
theorem dX7_near_173 : decode cX7_near 173 = .ok (.ifCond .lt 9, 3) := by decide +kernel
theorem dX7_near_176 : decode cX7_near 176 = .ok (.aload_n 0, 1) := by decide +kernel
theorem dX7_near_177 : decode cX7_near 177 = .ok (.iload 6, 2) := by decide +kernel
theorem dX7_near_179 : decode cX7_near 179 = .ok (.putfield 76, 3) := by decide +kernel
theorem dX7_near_182 : decode cX7_near 182 = .ok (.lload 4, 2) := by decide +kernel
theorem dX7_near_184 : decode cX7_near 184 = .ok (.lreturn, 1) := by decide +kernel
theorem dX7_nearest_0 : decode cX7_nearest 0 = .ok (.aload_n 0, 1) := by decide +kernel
theorem dX7_nearest_1 : decode cX7_nearest 1 = .ok (.getfield 76, 3) := by decide +kernel
theorem dX7_nearest_4 : decode cX7_nearest 4 = .ok (.ireturn, 1) := by decide +kernel
theorem dX7_all_0 : decode cX7_all 0 = .ok (.iload_n 1, 1) := by decide +kernel
theorem dX7_all_1 : decode cX7_all 1 = .ok (.tableswitch 55 0 3 #[31, 36, 43, 50], 31) := by decide +kernel
theorem dX7_all_32 : decode cX7_all 32 = .ok (.aload_n 0, 1) := by decide +kernel
theorem dX7_all_33 : decode cX7_all 33 = .ok (.getfield 28, 3) := by decide +kernel
theorem dX7_all_36 : decode cX7_all 36 = .ok (.ireturn, 1) := by decide +kernel
theorem dX7_all_37 : decode cX7_all 37 = .ok (.aload_n 0, 1) := by decide +kernel
theorem dX7_all_38 : decode cX7_all 38 = .ok (.getfield 7, 3) := by decide +kernel
theorem dX7_all_41 : decode cX7_all 41 = .ok (.iconst 0, 1) := by decide +kernel
theorem dX7_all_42 : decode cX7_all 42 = .ok (.iaload, 1) := by decide +kernel
theorem dX7_all_43 : decode cX7_all 43 = .ok (.ireturn, 1) := by decide +kernel
theorem dX7_all_44 : decode cX7_all 44 = .ok (.aload_n 0, 1) := by decide +kernel
theorem dX7_all_45 : decode cX7_all 45 = .ok (.getfield 7, 3) := by decide +kernel
theorem dX7_all_48 : decode cX7_all 48 = .ok (.iconst 1, 1) := by decide +kernel
theorem dX7_all_49 : decode cX7_all 49 = .ok (.iaload, 1) := by decide +kernel
theorem dX7_all_50 : decode cX7_all 50 = .ok (.ireturn, 1) := by decide +kernel
theorem dX7_all_51 : decode cX7_all 51 = .ok (.aload_n 0, 1) := by decide +kernel
theorem dX7_all_52 : decode cX7_all 52 = .ok (.getfield 50, 3) := by decide +kernel
theorem dX7_all_55 : decode cX7_all 55 = .ok (.ireturn, 1) := by decide +kernel
theorem dX7_all_56 : decode cX7_all 56 = .ok (.iconst (-1), 1) := by decide +kernel
theorem dX7_all_57 : decode cX7_all 57 = .ok (.ireturn, 1) := by decide +kernel
