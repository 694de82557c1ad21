theorem dX0_weightNow_0 : decode cX0_weightNow 0 = .ok (.aload_n 0, 1) := by decide +kernel
theorem dX0_weightNow_1 : decode cX0_weightNow 1 = .ok (.getfield 60, 3) := by decide +kernel
theorem dX0_weightNow_4 : decode cX0_weightNow 4 = .ok (.aload_n 0, 1) := by decide +kernel
theorem dX0_weightNow_5 : decode cX0_weightNow 5 = .ok (.getfield 12, 3) := by decide +kernel
theorem dX0_weightNow_8 : decode cX0_weightNow 8 = .ok (.invokevirtual 63, 3) := by decide +kernel
theorem dX0_weightNow_11 : decode cX0_weightNow 11 = .ok (.iadd, 1) := by decide +kernel
theorem dX0_weightNow_12 : decode cX0_weightNow 12 = .ok (.ireturn, 1) := by decide +kernel
theorem dX0_heavyAt_0 : decode cX0_heavyAt 0 = .ok (.aload_n 0, 1) := by decide +kernel
theorem dX0_heavyAt_1 : decode cX0_heavyAt 1 = .ok (.invokevirtual 67, 3) := by decide +kernel
theorem dX0_heavyAt_4 : decode cX0_heavyAt 4 = .ok (.aload_n 0, 1) := by decide +kernel
theorem dX0_heavyAt_5 : decode cX0_heavyAt 5 = .ok (.getfield 21, 3) := by decide +kernel
theorem dX0_heavyAt_8 : decode cX0_heavyAt 8 = .ok (.iload_n 1, 1) := by decide +kernel
theorem dX0_heavyAt_9 : decode cX0_heavyAt 9 = .ok (.invokevirtual 70, 3) := by decide +kernel
theorem dX0_heavyAt_12 : decode cX0_heavyAt 12 = .ok (.isub, 1) := by decide +kernel
theorem dX0_heavyAt_13 : decode cX0_heavyAt 13 = .ok (.ireturn, 1) := by decide +kernel
theorem dX0_momentNow_0 : decode cX0_momentNow 0 = .ok (.aload_n 0, 1) := by decide +kernel
theorem dX0_momentNow_1 : decode cX0_momentNow 1 = .ok (.getfield 74, 3) := by decide +kernel
theorem dX0_momentNow_4 : decode cX0_momentNow 4 = .ok (.aload_n 0, 1) := by decide +kernel
theorem dX0_momentNow_5 : decode cX0_momentNow 5 = .ok (.getfield 12, 3) := by decide +kernel
theorem dX0_momentNow_8 : decode cX0_momentNow 8 = .ok (.invokevirtual 77, 3) := by decide +kernel
theorem dX0_momentNow_11 : decode cX0_momentNow 11 = .ok (.iadd, 1) := by decide +kernel
theorem dX0_momentNow_12 : decode cX0_momentNow 12 = .ok (.ireturn, 1) := by decide +kernel
theorem dX0_listNow_0 : decode cX0_listNow 0 = .ok (.aload_n 0, 1) := by decide +kernel
theorem dX0_listNow_1 : decode cX0_listNow 1 = .ok (.getfield 80, 3) := by decide +kernel
theorem dX0_listNow_4 : decode cX0_listNow 4 = .ok (.aload_n 0, 1) := by decide +kernel
theorem dX0_listNow_5 : decode cX0_listNow 5 = .ok (.getfield 12, 3) := by decide +kernel
theorem dX0_listNow_8 : decode cX0_listNow 8 = .ok (.invokevirtual 83, 3) := by decide +kernel
theorem dX0_listNow_11 : decode cX0_listNow 11 = .ok (.iadd, 1) := by decide +kernel
theorem dX0_listNow_12 : decode cX0_listNow 12 = .ok (.ireturn, 1) := by decide +kernel
theorem dX0_isLevel_0 : decode cX0_isLevel 0 = .ok (.aload_n 0, 1) := by decide +kernel
theorem dX0_isLevel_1 : decode cX0_isLevel 1 = .ok (.invokevirtual 86, 3) := by decide +kernel
theorem dX0_isLevel_4 : decode cX0_isLevel 4 = .ok (.invokestatic 89, 3) := by decide +kernel
theorem dX0_isLevel_7 : decode cX0_isLevel 7 = .ok (.aload_n 0, 1) := by decide +kernel
theorem dX0_isLevel_8 : decode cX0_isLevel 8 = .ok (.getfield 25, 3) := by decide +kernel
theorem dX0_isLevel_11 : decode cX0_isLevel 11 = .ok (.iconst 1, 1) := by decide +kernel
theorem dX0_isLevel_12 : decode cX0_isLevel 12 = .ok (.iaload, 1) := by decide +kernel
theorem dX0_isLevel_13 : decode cX0_isLevel 13 = .ok (.if_icmp .gt 23, 3) := by decide +kernel
theorem dX0_isLevel_16 : decode cX0_isLevel 16 = .ok (.aload_n 0, 1) := by decide +kernel
theorem dX0_isLevel_17 : decode cX0_isLevel 17 = .ok (.invokevirtual 94, 3) := by decide +kernel
theorem dX0_isLevel_20 : decode cX0_isLevel 20 = .ok (.invokestatic 89, 3) := by decide +kernel
theorem dX0_isLevel_23 : decode cX0_isLevel 23 = .ok (.aload_n 0, 1) := by decide +kernel
theorem dX0_isLevel_24 : decode cX0_isLevel 24 = .ok (.getfield 25, 3) := by decide +kernel
theorem dX0_isLevel_27 : decode cX0_isLevel 27 = .ok (.iconst 2, 1) := by decide +kernel
theorem dX0_isLevel_28 : decode cX0_isLevel 28 = .ok (.iaload, 1) := by decide +kernel
theorem dX0_isLevel_29 : decode cX0_isLevel 29 = .ok (.if_icmp .gt 7, 3) := by decide +kernel
theorem dX0_isLevel_32 : decode cX0_isLevel 32 = .ok (.iconst 1, 1) := by decide +kernel
theorem dX0_isLevel_33 : decode cX0_isLevel 33 = .ok (.goto 4, 3) := by decide +kernel
theorem dX0_isLevel_36 : decode cX0_isLevel 36 = .ok (.iconst 0, 1) := by decide +kernel
theorem dX0_isLevel_37 : decode cX0_isLevel 37 = .ok (.ireturn, 1) := by decide +kernel
theorem dX0_isBalanced_0 : decode cX0_isBalanced 0 = .ok (.aload_n 0, 1) := by decide +kernel
theorem dX0_isBalanced_1 : decode cX0_isBalanced 1 = .ok (.iload_n 1, 1) := by decide +kernel
theorem dX0_isBalanced_2 : decode cX0_isBalanced 2 = .ok (.invokevirtual 97, 3) := by decide +kernel
theorem dX0_isBalanced_5 : decode cX0_isBalanced 5 = .ok (.invokestatic 89, 3) := by decide +kernel
theorem dX0_isBalanced_8 : decode cX0_isBalanced 8 = .ok (.aload_n 0, 1) := by decide +kernel
theorem dX0_isBalanced_9 : decode cX0_isBalanced 9 = .ok (.getfield 25, 3) := by decide +kernel
theorem dX0_isBalanced_12 : decode cX0_isBalanced 12 = .ok (.iconst 0, 1) := by decide +kernel
theorem dX0_isBalanced_13 : decode cX0_isBalanced 13 = .ok (.iaload, 1) := by decide +kernel
theorem dX0_isBalanced_14 : decode cX0_isBalanced 14 = .ok (.if_icmp .gt 14, 3) := by decide +kernel
theorem dX0_isBalanced_17 : decode cX0_isBalanced 17 = .ok (.aload_n 0, 1) := by decide +kernel
theorem dX0_isBalanced_18 : decode cX0_isBalanced 18 = .ok (.invokevirtual 100, 3) := by decide +kernel
theorem dX0_isBalanced_21 : decode cX0_isBalanced 21 = .ok (.ifCond .eq 7, 3) := by decide +kernel
theorem dX0_isBalanced_24 : decode cX0_isBalanced 24 = .ok (.iconst 1, 1) := by decide +kernel
theorem dX0_isBalanced_25 : decode cX0_isBalanced 25 = .ok (.goto 4, 3) := by decide +kernel
theorem dX0_isBalanced_28 : decode cX0_isBalanced 28 = .ok (.iconst 0, 1) := by decide +kernel
theorem dX0_isBalanced_29 : decode cX0_isBalanced 29 = .ok (.ireturn, 1) := by decide +kernel
theorem dX0_keepSums_0 : decode cX0_keepSums 0 = .ok (.iload_n 1, 1) := by decide +kernel
theorem dX0_keepSums_1 : decode cX0_keepSums 1 = .ok (.i2l, 1) := by decide +kernel
theorem dX0_keepSums_2 : decode cX0_keepSums 2 = .ok (.lstore 7, 2) := by decide +kernel
theorem dX0_keepSums_4 : decode cX0_keepSums 4 = .ok (.ldc2_w 129, 3) := by decide +kernel
theorem dX0_keepSums_7 : decode cX0_keepSums 7 = .ok (.lstore 9, 2) := by decide +kernel
theorem dX0_keepSums_9 : decode cX0_keepSums 9 = .ok (.ldc2_w 139, 3) := by decide +kernel
theorem dX0_keepSums_12 : decode cX0_keepSums 12 = .ok (.lstore 11, 2) := by decide +kernel
theorem dX0_keepSums_14 : decode cX0_keepSums 14 = .ok (.lload 7, 2) := by decide +kernel
theorem dX0_keepSums_16 : decode cX0_keepSums 16 = .ok (.lload_n 3, 1) := by decide +kernel
theorem dX0_keepSums_17 : decode cX0_keepSums 17 = .ok (.lcmp, 1) := by decide +kernel
theorem dX0_keepSums_18 : decode cX0_keepSums 18 = .ok (.ifCond .lt 17, 3) := by decide +kernel
theorem dX0_keepSums_21 : decode cX0_keepSums 21 = .ok (.lload 7, 2) := by decide +kernel
theorem dX0_keepSums_23 : decode cX0_keepSums 23 = .ok (.lload 5, 2) := by decide +kernel
theorem dX0_keepSums_25 : decode cX0_keepSums 25 = .ok (.lcmp, 1) := by decide +kernel
theorem dX0_keepSums_26 : decode cX0_keepSums 26 = .ok (.ifCond .gt 9, 3) := by decide +kernel
theorem dX0_keepSums_29 : decode cX0_keepSums 29 = .ok (.lconst 0, 1) := by decide +kernel
theorem dX0_keepSums_30 : decode cX0_keepSums 30 = .ok (.lstore 9, 2) := by decide +kernel
theorem dX0_keepSums_32 : decode cX0_keepSums 32 = .ok (.lconst 0, 1) := by decide +kernel
theorem dX0_keepSums_33 : decode cX0_keepSums 33 = .ok (.lstore 11, 2) := by decide +kernel
theorem dX0_keepSums_35 : decode cX0_keepSums 35 = .ok (.lconst 0, 1) := by decide +kernel
theorem dX0_keepSums_36 : decode cX0_keepSums 36 = .ok (.lstore 13, 2) := by decide +kernel
theorem dX0_keepSums_38 : decode cX0_keepSums 38 = .ok (.iconst 0, 1) := by decide +kernel
theorem dX0_keepSums_39 : decode cX0_keepSums 39 = .ok (.istore 15, 2) := by decide +kernel
theorem dX0_keepSums_41 : decode cX0_keepSums 41 = .ok (.iload 15, 2) := by decide +kernel
theorem dX0_keepSums_43 : decode cX0_keepSums 43 = .ok (.aload_n 0, 1) := by decide +kernel
theorem dX0_keepSums_44 : decode cX0_keepSums 44 = .ok (.getfield 12, 3) := by decide +kernel
theorem dX0_keepSums_47 : decode cX0_keepSums 47 = .ok (.getfield 148, 3) := by decide +kernel
theorem dX0_keepSums_50 : decode cX0_keepSums 50 = .ok (.if_icmp .ge 170, 3) := by decide +kernel
theorem dX0_keepSums_53 : decode cX0_keepSums 53 = .ok (.aload_n 0, 1) := by decide +kernel
theorem dX0_keepSums_54 : decode cX0_keepSums 54 = .ok (.getfield 12, 3) := by decide +kernel
theorem dX0_keepSums_57 : decode cX0_keepSums 57 = .ok (.getfield 151, 3) := by decide +kernel
theorem dX0_keepSums_60 : decode cX0_keepSums 60 = .ok (.iload_n 2, 1) := by decide +kernel
theorem dX0_keepSums_61 : decode cX0_keepSums 61 = .ok (.ifCond .eq 8, 3) := by decide +kernel
theorem dX0_keepSums_64 : decode cX0_keepSums 64 = .ok (.iload 15, 2) := by decide +kernel
theorem dX0_keepSums_66 : decode cX0_keepSums 66 = .ok (.goto 15, 3) := by decide +kernel
theorem dX0_keepSums_69 : decode cX0_keepSums 69 = .ok (.aload_n 0, 1) := by decide +kernel
theorem dX0_keepSums_70 : decode cX0_keepSums 70 = .ok (.getfield 12, 3) := by decide +kernel
theorem dX0_keepSums_73 : decode cX0_keepSums 73 = .ok (.getfield 148, 3) := by decide +kernel
theorem dX0_keepSums_76 : decode cX0_keepSums 76 = .ok (.iconst 1, 1) := by decide +kernel
theorem dX0_keepSums_77 : decode cX0_keepSums 77 = .ok (.isub, 1) := by decide +kernel
theorem dX0_keepSums_78 : decode cX0_keepSums 78 = .ok (.iload 15, 2) := by decide +kernel
theorem dX0_keepSums_80 : decode cX0_keepSums 80 = .ok (.isub, 1) := by decide +kernel
theorem dX0_keepSums_81 : decode cX0_keepSums 81 = .ok (.iaload, 1) := by decide +kernel
theorem dX0_keepSums_82 : decode cX0_keepSums 82 = .ok (.istore 16, 2) := by decide +kernel
theorem dX0_keepSums_84 : decode cX0_keepSums 84 = .ok (.aload_n 0, 1) := by decide +kernel
theorem dX0_keepSums_85 : decode cX0_keepSums 85 = .ok (.getfield 57, 3) := by decide +kernel
theorem dX0_keepSums_88 : decode cX0_keepSums 88 = .ok (.lconst 0, 1) := by decide +kernel
theorem dX0_keepSums_89 : decode cX0_keepSums 89 = .ok (.aload_n 0, 1) := by decide +kernel
theorem dX0_keepSums_90 : decode cX0_keepSums 90 = .ok (.getfield 12, 3) := by decide +kernel
theorem dX0_keepSums_93 : decode cX0_keepSums 93 = .ok (.getfield 154, 3) := by decide +kernel
theorem dX0_keepSums_96 : decode cX0_keepSums 96 = .ok (.iload 16, 2) := by decide +kernel
theorem dX0_keepSums_98 : decode cX0_keepSums 98 = .ok (.iaload, 1) := by decide +kernel
theorem dX0_keepSums_99 : decode cX0_keepSums 99 = .ok (.i2l, 1) := by decide +kernel
theorem dX0_keepSums_100 : decode cX0_keepSums 100 = .ok (.invokevirtual 131, 3) := by decide +kernel
theorem dX0_keepSums_103 : decode cX0_keepSums 103 = .ok (.aload_n 0, 1) := by decide +kernel
theorem dX0_keepSums_104 : decode cX0_keepSums 104 = .ok (.getfield 57, 3) := by decide +kernel
theorem dX0_keepSums_107 : decode cX0_keepSums 107 = .ok (.lload 7, 2) := by decide +kernel
theorem dX0_keepSums_109 : decode cX0_keepSums 109 = .ok (.aload_n 0, 1) := by decide +kernel
theorem dX0_keepSums_110 : decode cX0_keepSums 110 = .ok (.getfield 12, 3) := by decide +kernel
theorem dX0_keepSums_113 : decode cX0_keepSums 113 = .ok (.getfield 157, 3) := by decide +kernel
theorem dX0_keepSums_116 : decode cX0_keepSums 116 = .ok (.iload 16, 2) := by decide +kernel
theorem dX0_keepSums_118 : decode cX0_keepSums 118 = .ok (.iaload, 1) := by decide +kernel
theorem dX0_keepSums_119 : decode cX0_keepSums 119 = .ok (.i2l, 1) := by decide +kernel
theorem dX0_keepSums_120 : decode cX0_keepSums 120 = .ok (.lload_n 3, 1) := by decide +kernel
theorem dX0_keepSums_121 : decode cX0_keepSums 121 = .ok (.lload 5, 2) := by decide +kernel
theorem dX0_keepSums_123 : decode cX0_keepSums 123 = .ok (.invokevirtual 135, 3) := by decide +kernel
theorem dX0_keepSums_126 : decode cX0_keepSums 126 = .ok (.aload_n 0, 1) := by decide +kernel
theorem dX0_keepSums_127 : decode cX0_keepSums 127 = .ok (.getfield 57, 3) := by decide +kernel
theorem dX0_keepSums_130 : decode cX0_keepSums 130 = .ok (.invokevirtual 145, 3) := by decide +kernel
theorem dX0_keepSums_133 : decode cX0_keepSums 133 = .ok (.ifCond .ne 37, 3) := by decide +kernel
theorem dX0_keepSums_136 : decode cX0_keepSums 136 = .ok (.lload 9, 2) := by decide +kernel
theorem dX0_keepSums_138 : decode cX0_keepSums 138 = .ok (.lload 13, 2) := by decide +kernel
theorem dX0_keepSums_140 : decode cX0_keepSums 140 = .ok (.aload_n 0, 1) := by decide +kernel
theorem dX0_keepSums_141 : decode cX0_keepSums 141 = .ok (.getfield 57, 3) := by decide +kernel
theorem dX0_keepSums_144 : decode cX0_keepSums 144 = .ok (.getfield 160, 3) := by decide +kernel
theorem dX0_keepSums_147 : decode cX0_keepSums 147 = .ok (.ladd, 1) := by decide +kernel
theorem dX0_keepSums_148 : decode cX0_keepSums 148 = .ok (.invokestatic 164, 3) := by decide +kernel
theorem dX0_keepSums_151 : decode cX0_keepSums 151 = .ok (.lstore 9, 2) := by decide +kernel
theorem dX0_keepSums_153 : decode cX0_keepSums 153 = .ok (.lload 11, 2) := by decide +kernel
theorem dX0_keepSums_155 : decode cX0_keepSums 155 = .ok (.lload 13, 2) := by decide +kernel
theorem dX0_keepSums_157 : decode cX0_keepSums 157 = .ok (.aload_n 0, 1) := by decide +kernel
theorem dX0_keepSums_158 : decode cX0_keepSums 158 = .ok (.getfield 57, 3) := by decide +kernel
theorem dX0_keepSums_161 : decode cX0_keepSums 161 = .ok (.getfield 168, 3) := by decide +kernel
theorem dX0_keepSums_164 : decode cX0_keepSums 164 = .ok (.ladd, 1) := by decide +kernel
theorem dX0_keepSums_165 : decode cX0_keepSums 165 = .ok (.invokestatic 171, 3) := by decide +kernel
theorem dX0_keepSums_168 : decode cX0_keepSums 168 = .ok (.lstore 11, 2) := by decide +kernel
theorem dX0_keepSums_170 : decode cX0_keepSums 170 = .ok (.lload 13, 2) := by decide +kernel
theorem dX0_keepSums_172 : decode cX0_keepSums 172 = .ok (.aload_n 0, 1) := by decide +kernel
theorem dX0_keepSums_173 : decode cX0_keepSums 173 = .ok (.getfield 12, 3) := by decide +kernel
theorem dX0_keepSums_176 : decode cX0_keepSums 176 = .ok (.getfield 154, 3) := by decide +kernel
theorem dX0_keepSums_179 : decode cX0_keepSums 179 = .ok (.iload 16, 2) := by decide +kernel
theorem dX0_keepSums_181 : decode cX0_keepSums 181 = .ok (.iaload, 1) := by decide +kernel
theorem dX0_keepSums_182 : decode cX0_keepSums 182 = .ok (.i2l, 1) := by decide +kernel
theorem dX0_keepSums_183 : decode cX0_keepSums 183 = .ok (.ladd, 1) := by decide +kernel
theorem dX0_keepSums_184 : decode cX0_keepSums 184 = .ok (.lstore 13, 2) := by decide +kernel
theorem dX0_keepSums_186 : decode cX0_keepSums 186 = .ok (.lload 7, 2) := by decide +kernel
theorem dX0_keepSums_188 : decode cX0_keepSums 188 = .ok (.aload_n 0, 1) := by decide +kernel
theorem dX0_keepSums_189 : decode cX0_keepSums 189 = .ok (.getfield 12, 3) := by decide +kernel
theorem dX0_keepSums_192 : decode cX0_keepSums 192 = .ok (.getfield 157, 3) := by decide +kernel
theorem dX0_keepSums_195 : decode cX0_keepSums 195 = .ok (.iload 16, 2) := by decide +kernel
theorem dX0_keepSums_197 : decode cX0_keepSums 197 = .ok (.iaload, 1) := by decide +kernel
theorem dX0_keepSums_198 : decode cX0_keepSums 198 = .ok (.i2l, 1) := by decide +kernel
theorem dX0_keepSums_199 : decode cX0_keepSums 199 = .ok (.aload_n 0, 1) := by decide +kernel
theorem dX0_keepSums_200 : decode cX0_keepSums 200 = .ok (.getfield 12, 3) := by decide +kernel
theorem dX0_keepSums_203 : decode cX0_keepSums 203 = .ok (.getfield 154, 3) := by decide +kernel
theorem dX0_keepSums_206 : decode cX0_keepSums 206 = .ok (.iload 16, 2) := by decide +kernel
theorem dX0_keepSums_208 : decode cX0_keepSums 208 = .ok (.iaload, 1) := by decide +kernel
theorem dX0_keepSums_209 : decode cX0_keepSums 209 = .ok (.i2l, 1) := by decide +kernel
theorem dX0_keepSums_210 : decode cX0_keepSums 210 = .ok (.lmul, 1) := by decide +kernel
theorem dX0_keepSums_211 : decode cX0_keepSums 211 = .ok (.ladd, 1) := by decide +kernel
theorem dX0_keepSums_212 : decode cX0_keepSums 212 = .ok (.lstore 7, 2) := by decide +kernel
theorem dX0_keepSums_214 : decode cX0_keepSums 214 = .ok (.iinc 15 1, 3) := by decide +kernel
theorem dX0_keepSums_217 : decode cX0_keepSums 217 = .ok (.goto (-176), 3) := by decide +kernel
theorem dX0_keepSums_220 : decode cX0_keepSums 220 = .ok (.aload_n 0, 1) := by decide +kernel
theorem dX0_keepSums_221 : decode cX0_keepSums 221 = .ok (.getfield 53, 3) := by decide +kernel
theorem dX0_keepSums_224 : decode cX0_keepSums 224 = .ok (.lconst 0, 1) := by decide +kernel
theorem dX0_keepSums_225 : decode cX0_keepSums 225 = .ok (.lconst 1, 1) := by decide +kernel
theorem dX0_keepSums_226 : decode cX0_keepSums 226 = .ok (.lload 9, 2) := by decide +kernel
theorem dX0_keepSums_228 : decode cX0_keepSums 228 = .ok (.lload 11, 2) := by decide +kernel
theorem dX0_keepSums_230 : decode cX0_keepSums 230 = .ok (.invokevirtual 135, 3) := by decide +kernel
theorem dX0_keepSums_233 : decode cX0_keepSums 233 = .ok (.return_, 1) := by decide +kernel
theorem dX0_findSums_0 : decode cX0_findSums 0 = .ok (.aload_n 0, 1) := by decide +kernel
theorem dX0_findSums_1 : decode cX0_findSums 1 = .ok (.iload_n 1, 1) := by decide +kernel
theorem dX0_findSums_2 : decode cX0_findSums 2 = .ok (.invokevirtual 97, 3) := by decide +kernel
theorem dX0_findSums_5 : decode cX0_findSums 5 = .ok (.aload_n 0, 1) := by decide +kernel
theorem dX0_findSums_6 : decode cX0_findSums 6 = .ok (.getfield 12, 3) := by decide +kernel
theorem dX0_findSums_9 : decode cX0_findSums 9 = .ok (.invokevirtual 123, 3) := by decide +kernel
theorem dX0_findSums_12 : decode cX0_findSums 12 = .ok (.isub, 1) := by decide +kernel
theorem dX0_findSums_13 : decode cX0_findSums 13 = .ok (.istore_n 2, 1) := by decide +kernel
theorem dX0_findSums_14 : decode cX0_findSums 14 = .ok (.aload_n 0, 1) := by decide +kernel
theorem dX0_findSums_15 : decode cX0_findSums 15 = .ok (.invokevirtual 86, 3) := by decide +kernel
theorem dX0_findSums_18 : decode cX0_findSums 18 = .ok (.aload_n 0, 1) := by decide +kernel
theorem dX0_findSums_19 : decode cX0_findSums 19 = .ok (.getfield 12, 3) := by decide +kernel
theorem dX0_findSums_22 : decode cX0_findSums 22 = .ok (.invokevirtual 126, 3) := by decide +kernel
theorem dX0_findSums_25 : decode cX0_findSums 25 = .ok (.isub, 1) := by decide +kernel
theorem dX0_findSums_26 : decode cX0_findSums 26 = .ok (.istore_n 3, 1) := by decide +kernel
theorem dX0_findSums_27 : decode cX0_findSums 27 = .ok (.aload_n 0, 1) := by decide +kernel
theorem dX0_findSums_28 : decode cX0_findSums 28 = .ok (.getfield 53, 3) := by decide +kernel
theorem dX0_findSums_31 : decode cX0_findSums 31 = .ok (.lconst 0, 1) := by decide +kernel
theorem dX0_findSums_32 : decode cX0_findSums 32 = .ok (.ldc2_w 129, 3) := by decide +kernel
theorem dX0_findSums_35 : decode cX0_findSums 35 = .ok (.invokevirtual 131, 3) := by decide +kernel
theorem dX0_findSums_38 : decode cX0_findSums 38 = .ok (.aload_n 0, 1) := by decide +kernel
theorem dX0_findSums_39 : decode cX0_findSums 39 = .ok (.getfield 53, 3) := by decide +kernel
theorem dX0_findSums_42 : decode cX0_findSums 42 = .ok (.iload_n 2, 1) := by decide +kernel
theorem dX0_findSums_43 : decode cX0_findSums 43 = .ok (.i2l, 1) := by decide +kernel
theorem dX0_findSums_44 : decode cX0_findSums 44 = .ok (.lconst 1, 1) := by decide +kernel
theorem dX0_findSums_45 : decode cX0_findSums 45 = .ok (.aload_n 0, 1) := by decide +kernel
theorem dX0_findSums_46 : decode cX0_findSums 46 = .ok (.getfield 25, 3) := by decide +kernel
theorem dX0_findSums_49 : decode cX0_findSums 49 = .ok (.iconst 0, 1) := by decide +kernel
theorem dX0_findSums_50 : decode cX0_findSums 50 = .ok (.iaload, 1) := by decide +kernel
theorem dX0_findSums_51 : decode cX0_findSums 51 = .ok (.ineg, 1) := by decide +kernel
theorem dX0_findSums_52 : decode cX0_findSums 52 = .ok (.i2l, 1) := by decide +kernel
theorem dX0_findSums_53 : decode cX0_findSums 53 = .ok (.aload_n 0, 1) := by decide +kernel
theorem dX0_findSums_54 : decode cX0_findSums 54 = .ok (.getfield 25, 3) := by decide +kernel
theorem dX0_findSums_57 : decode cX0_findSums 57 = .ok (.iconst 0, 1) := by decide +kernel
theorem dX0_findSums_58 : decode cX0_findSums 58 = .ok (.iaload, 1) := by decide +kernel
theorem dX0_findSums_59 : decode cX0_findSums 59 = .ok (.i2l, 1) := by decide +kernel
theorem dX0_findSums_60 : decode cX0_findSums 60 = .ok (.invokevirtual 135, 3) := by decide +kernel
theorem dX0_findSums_63 : decode cX0_findSums 63 = .ok (.aload_n 0, 1) := by decide +kernel
theorem dX0_findSums_64 : decode cX0_findSums 64 = .ok (.iload_n 3, 1) := by decide +kernel
theorem dX0_findSums_65 : decode cX0_findSums 65 = .ok (.iconst 1, 1) := by decide +kernel
theorem dX0_findSums_66 : decode cX0_findSums 66 = .ok (.ldc2_w 139, 3) := by decide +kernel
theorem dX0_findSums_69 : decode cX0_findSums 69 = .ok (.aload_n 0, 1) := by decide +kernel
theorem dX0_findSums_70 : decode cX0_findSums 70 = .ok (.getfield 25, 3) := by decide +kernel
theorem dX0_findSums_73 : decode cX0_findSums 73 = .ok (.iconst 1, 1) := by decide +kernel
theorem dX0_findSums_74 : decode cX0_findSums 74 = .ok (.iaload, 1) := by decide +kernel
theorem dX0_findSums_75 : decode cX0_findSums 75 = .ok (.i2l, 1) := by decide +kernel
theorem dX0_findSums_76 : decode cX0_findSums 76 = .ok (.invokevirtual 141, 3) := by decide +kernel
theorem dX0_findSums_79 : decode cX0_findSums 79 = .ok (.aload_n 0, 1) := by decide +kernel
theorem dX0_findSums_80 : decode cX0_findSums 80 = .ok (.iload_n 3, 1) := by decide +kernel
theorem dX0_findSums_81 : decode cX0_findSums 81 = .ok (.iconst 0, 1) := by decide +kernel
theorem dX0_findSums_82 : decode cX0_findSums 82 = .ok (.aload_n 0, 1) := by decide +kernel
theorem dX0_findSums_83 : decode cX0_findSums 83 = .ok (.getfield 25, 3) := by decide +kernel
theorem dX0_findSums_86 : decode cX0_findSums 86 = .ok (.iconst 1, 1) := by decide +kernel
theorem dX0_findSums_87 : decode cX0_findSums 87 = .ok (.iaload, 1) := by decide +kernel
theorem dX0_findSums_88 : decode cX0_findSums 88 = .ok (.ineg, 1) := by decide +kernel
theorem dX0_findSums_89 : decode cX0_findSums 89 = .ok (.i2l, 1) := by decide +kernel
theorem dX0_findSums_90 : decode cX0_findSums 90 = .ok (.ldc2_w 129, 3) := by decide +kernel
theorem dX0_findSums_93 : decode cX0_findSums 93 = .ok (.invokevirtual 141, 3) := by decide +kernel
theorem dX0_findSums_96 : decode cX0_findSums 96 = .ok (.aload_n 0, 1) := by decide +kernel
theorem dX0_findSums_97 : decode cX0_findSums 97 = .ok (.getfield 53, 3) := by decide +kernel
theorem dX0_findSums_100 : decode cX0_findSums 100 = .ok (.invokevirtual 145, 3) := by decide +kernel
theorem dX0_findSums_103 : decode cX0_findSums 103 = .ok (.ifCond .ne 7, 3) := by decide +kernel
theorem dX0_findSums_106 : decode cX0_findSums 106 = .ok (.iconst 1, 1) := by decide +kernel
theorem dX0_findSums_107 : decode cX0_findSums 107 = .ok (.goto 4, 3) := by decide +kernel
theorem dX0_findSums_110 : decode cX0_findSums 110 = .ok (.iconst 0, 1) := by decide +kernel
theorem dX0_findSums_111 : decode cX0_findSums 111 = .ok (.ireturn, 1) := by decide +kernel
theorem dX0_numberNow_0 : decode cX0_numberNow 0 = .ok (.iload_n 1, 1) := by decide +kernel
theorem dX0_numberNow_1 : decode cX0_numberNow 1 = .ok (.ifCond .ne 9, 3) := by decide +kernel
theorem dX0_numberNow_4 : decode cX0_numberNow 4 = .ok (.aload_n 0, 1) := by decide +kernel
theorem dX0_numberNow_5 : decode cX0_numberNow 5 = .ok (.iload_n 2, 1) := by decide +kernel
theorem dX0_numberNow_6 : decode cX0_numberNow 6 = .ok (.invokevirtual 97, 3) := by decide +kernel
theorem dX0_numberNow_9 : decode cX0_numberNow 9 = .ok (.ireturn, 1) := by decide +kernel
theorem dX0_numberNow_10 : decode cX0_numberNow 10 = .ok (.iload_n 1, 1) := by decide +kernel
theorem dX0_numberNow_11 : decode cX0_numberNow 11 = .ok (.iconst 1, 1) := by decide +kernel
theorem dX0_numberNow_12 : decode cX0_numberNow 12 = .ok (.if_icmp .ne 10, 3) := by decide +kernel
theorem dX0_numberNow_15 : decode cX0_numberNow 15 = .ok (.aload_n 0, 1) := by decide +kernel
theorem dX0_numberNow_16 : decode cX0_numberNow 16 = .ok (.invokevirtual 86, 3) := by decide +kernel
theorem dX0_numberNow_19 : decode cX0_numberNow 19 = .ok (.goto 7, 3) := by decide +kernel
theorem dX0_numberNow_22 : decode cX0_numberNow 22 = .ok (.aload_n 0, 1) := by decide +kernel
theorem dX0_numberNow_23 : decode cX0_numberNow 23 = .ok (.invokevirtual 94, 3) := by decide +kernel
theorem dX0_numberNow_26 : decode cX0_numberNow 26 = .ok (.ireturn, 1) := by decide +kernel
theorem dX0_keepUnder_0 : decode cX0_keepUnder 0 = .ok (.aload_n 0, 1) := by decide +kernel
theorem dX0_keepUnder_1 : decode cX0_keepUnder 1 = .ok (.getfield 12, 3) := by decide +kernel
theorem dX0_keepUnder_4 : decode cX0_keepUnder 4 = .ok (.getfield 105, 3) := by decide +kernel
theorem dX0_keepUnder_7 : decode cX0_keepUnder 7 = .ok (.iconst 0, 1) := by decide +kernel
theorem dX0_keepUnder_8 : decode cX0_keepUnder 8 = .ok (.aload_n 0, 1) := by decide +kernel
theorem dX0_keepUnder_9 : decode cX0_keepUnder 9 = .ok (.getfield 35, 3) := by decide +kernel
theorem dX0_keepUnder_12 : decode cX0_keepUnder 12 = .ok (.iload_n 1, 1) := by decide +kernel
theorem dX0_keepUnder_13 : decode cX0_keepUnder 13 = .ok (.aaload, 1) := by decide +kernel
theorem dX0_keepUnder_14 : decode cX0_keepUnder 14 = .ok (.iconst 0, 1) := by decide +kernel
theorem dX0_keepUnder_15 : decode cX0_keepUnder 15 = .ok (.bipush 15, 2) := by decide +kernel
theorem dX0_keepUnder_17 : decode cX0_keepUnder 17 = .ok (.invokestatic 108, 3) := by decide +kernel
theorem dX0_keepUnder_20 : decode cX0_keepUnder 20 = .ok (.aload_n 0, 1) := by decide +kernel
theorem dX0_keepUnder_21 : decode cX0_keepUnder 21 = .ok (.getfield 38, 3) := by decide +kernel
theorem dX0_keepUnder_24 : decode cX0_keepUnder 24 = .ok (.iload_n 1, 1) := by decide +kernel
theorem dX0_keepUnder_25 : decode cX0_keepUnder 25 = .ok (.aload_n 0, 1) := by decide +kernel
theorem dX0_keepUnder_26 : decode cX0_keepUnder 26 = .ok (.getfield 12, 3) := by decide +kernel
theorem dX0_keepUnder_29 : decode cX0_keepUnder 29 = .ok (.getfield 114, 3) := by decide +kernel
theorem dX0_keepUnder_32 : decode cX0_keepUnder 32 = .ok (.iastore, 1) := by decide +kernel
theorem dX0_keepUnder_33 : decode cX0_keepUnder 33 = .ok (.aload_n 0, 1) := by decide +kernel
theorem dX0_keepUnder_34 : decode cX0_keepUnder 34 = .ok (.getfield 41, 3) := by decide +kernel
theorem dX0_keepUnder_37 : decode cX0_keepUnder 37 = .ok (.iload_n 1, 1) := by decide +kernel
theorem dX0_keepUnder_38 : decode cX0_keepUnder 38 = .ok (.aload_n 0, 1) := by decide +kernel
theorem dX0_keepUnder_39 : decode cX0_keepUnder 39 = .ok (.getfield 117, 3) := by decide +kernel
theorem dX0_keepUnder_42 : decode cX0_keepUnder 42 = .ok (.iastore, 1) := by decide +kernel
theorem dX0_keepUnder_43 : decode cX0_keepUnder 43 = .ok (.aload_n 0, 1) := by decide +kernel
theorem dX0_keepUnder_44 : decode cX0_keepUnder 44 = .ok (.getfield 44, 3) := by decide +kernel
theorem dX0_keepUnder_47 : decode cX0_keepUnder 47 = .ok (.iload_n 1, 1) := by decide +kernel
theorem dX0_keepUnder_48 : decode cX0_keepUnder 48 = .ok (.aload_n 0, 1) := by decide +kernel
theorem dX0_keepUnder_49 : decode cX0_keepUnder 49 = .ok (.getfield 120, 3) := by decide +kernel
theorem dX0_keepUnder_52 : decode cX0_keepUnder 52 = .ok (.iastore, 1) := by decide +kernel
theorem dX0_keepUnder_53 : decode cX0_keepUnder 53 = .ok (.aload_n 0, 1) := by decide +kernel
theorem dX0_keepUnder_54 : decode cX0_keepUnder 54 = .ok (.getfield 47, 3) := by decide +kernel
theorem dX0_keepUnder_57 : decode cX0_keepUnder 57 = .ok (.iload_n 1, 1) := by decide +kernel
theorem dX0_keepUnder_58 : decode cX0_keepUnder 58 = .ok (.aload_n 0, 1) := by decide +kernel
theorem dX0_keepUnder_59 : decode cX0_keepUnder 59 = .ok (.getfield 29, 3) := by decide +kernel
theorem dX0_keepUnder_62 : decode cX0_keepUnder 62 = .ok (.iastore, 1) := by decide +kernel
theorem dX0_keepUnder_63 : decode cX0_keepUnder 63 = .ok (.return_, 1) := by decide +kernel
theorem dX0_takeAgain_0 : decode cX0_takeAgain 0 = .ok (.aload_n 0, 1) := by decide +kernel
theorem dX0_takeAgain_1 : decode cX0_takeAgain 1 = .ok (.getfield 35, 3) := by decide +kernel
theorem dX0_takeAgain_4 : decode cX0_takeAgain 4 = .ok (.iload_n 1, 1) := by decide +kernel
theorem dX0_takeAgain_5 : decode cX0_takeAgain 5 = .ok (.aaload, 1) := by decide +kernel
theorem dX0_takeAgain_6 : decode cX0_takeAgain 6 = .ok (.iconst 0, 1) := by decide +kernel
theorem dX0_takeAgain_7 : decode cX0_takeAgain 7 = .ok (.aload_n 0, 1) := by decide +kernel
theorem dX0_takeAgain_8 : decode cX0_takeAgain 8 = .ok (.getfield 12, 3) := by decide +kernel
theorem dX0_takeAgain_11 : decode cX0_takeAgain 11 = .ok (.getfield 105, 3) := by decide +kernel
theorem dX0_takeAgain_14 : decode cX0_takeAgain 14 = .ok (.iconst 0, 1) := by decide +kernel
theorem dX0_takeAgain_15 : decode cX0_takeAgain 15 = .ok (.aload_n 0, 1) := by decide +kernel
theorem dX0_takeAgain_16 : decode cX0_takeAgain 16 = .ok (.getfield 38, 3) := by decide +kernel
theorem dX0_takeAgain_19 : decode cX0_takeAgain 19 = .ok (.iload_n 1, 1) := by decide +kernel
theorem dX0_takeAgain_20 : decode cX0_takeAgain 20 = .ok (.iaload, 1) := by decide +kernel
theorem dX0_takeAgain_21 : decode cX0_takeAgain 21 = .ok (.invokestatic 108, 3) := by decide +kernel
theorem dX0_takeAgain_24 : decode cX0_takeAgain 24 = .ok (.aload_n 0, 1) := by decide +kernel
theorem dX0_takeAgain_25 : decode cX0_takeAgain 25 = .ok (.aload_n 0, 1) := by decide +kernel
theorem dX0_takeAgain_26 : decode cX0_takeAgain 26 = .ok (.getfield 41, 3) := by decide +kernel
theorem dX0_takeAgain_29 : decode cX0_takeAgain 29 = .ok (.iload_n 1, 1) := by decide +kernel
theorem dX0_takeAgain_30 : decode cX0_takeAgain 30 = .ok (.iaload, 1) := by decide +kernel
theorem dX0_takeAgain_31 : decode cX0_takeAgain 31 = .ok (.putfield 117, 3) := by decide +kernel
theorem dX0_takeAgain_34 : decode cX0_takeAgain 34 = .ok (.aload_n 0, 1) := by decide +kernel
theorem dX0_takeAgain_35 : decode cX0_takeAgain 35 = .ok (.aload_n 0, 1) := by decide +kernel
theorem dX0_takeAgain_36 : decode cX0_takeAgain 36 = .ok (.getfield 44, 3) := by decide +kernel
theorem dX0_takeAgain_39 : decode cX0_takeAgain 39 = .ok (.iload_n 1, 1) := by decide +kernel
theorem dX0_takeAgain_40 : decode cX0_takeAgain 40 = .ok (.iaload, 1) := by decide +kernel
theorem dX0_takeAgain_41 : decode cX0_takeAgain 41 = .ok (.putfield 120, 3) := by decide +kernel
theorem dX0_takeAgain_44 : decode cX0_takeAgain 44 = .ok (.aload_n 0, 1) := by decide +kernel
theorem dX0_takeAgain_45 : decode cX0_takeAgain 45 = .ok (.aload_n 0, 1) := by decide +kernel
theorem dX0_takeAgain_46 : decode cX0_takeAgain 46 = .ok (.getfield 47, 3) := by decide +kernel
theorem dX0_takeAgain_49 : decode cX0_takeAgain 49 = .ok (.iload_n 1, 1) := by decide +kernel
theorem dX0_takeAgain_50 : decode cX0_takeAgain 50 = .ok (.iaload, 1) := by decide +kernel
theorem dX0_takeAgain_51 : decode cX0_takeAgain 51 = .ok (.putfield 29, 3) := by decide +kernel
theorem dX0_takeAgain_54 : decode cX0_takeAgain 54 = .ok (.return_, 1) := by decide +kernel
theorem dX0_draw_0 : decode cX0_draw 0 = .ok (.aload_n 0, 1) := by decide +kernel
theorem dX0_draw_1 : decode cX0_draw 1 = .ok (.aload_n 0, 1) := by decide +kernel
theorem dX0_draw_2 : decode cX0_draw 2 = .ok (.getfield 29, 3) := by decide +kernel
theorem dX0_draw_5 : decode cX0_draw 5 = .ok (.ldc 104, 2) := by decide +kernel
theorem dX0_draw_7 : decode cX0_draw 7 = .ok (.imul, 1) := by decide +kernel
theorem dX0_draw_8 : decode cX0_draw 8 = .ok (.sipush 12345, 3) := by decide +kernel
theorem dX0_draw_11 : decode cX0_draw 11 = .ok (.iadd, 1) := by decide +kernel
theorem dX0_draw_12 : decode cX0_draw 12 = .ok (.putfield 29, 3) := by decide +kernel
theorem dX0_draw_15 : decode cX0_draw 15 = .ok (.iload_n 1, 1) := by decide +kernel
theorem dX0_draw_16 : decode cX0_draw 16 = .ok (.ifCond .le 15, 3) := by decide +kernel
theorem dX0_draw_19 : decode cX0_draw 19 = .ok (.aload_n 0, 1) := by decide +kernel
theorem dX0_draw_20 : decode cX0_draw 20 = .ok (.getfield 29, 3) := by decide +kernel
theorem dX0_draw_23 : decode cX0_draw 23 = .ok (.bipush 16, 2) := by decide +kernel
theorem dX0_draw_25 : decode cX0_draw 25 = .ok (.iushr, 1) := by decide +kernel
theorem dX0_draw_26 : decode cX0_draw 26 = .ok (.iload_n 1, 1) := by decide +kernel
theorem dX0_draw_27 : decode cX0_draw 27 = .ok (.irem, 1) := by decide +kernel
theorem dX0_draw_28 : decode cX0_draw 28 = .ok (.goto 4, 3) := by decide +kernel
theorem dX0_draw_31 : decode cX0_draw 31 = .ok (.iconst 0, 1) := by decide +kernel
theorem dX0_draw_32 : decode cX0_draw 32 = .ok (.ireturn, 1) := by decide +kernel
noncomputable def fX0_weightNow (h : HS) : Option (Int32 × HS) := bd (fX4_weight h) (fun r2 h1 => some (((gI h 1 2) + r2), h1))
set_option maxRecDepth 100000 in
theorem tX0_weightNow {r : Int32} {h h0 : HS} (H : fX0_weightNow h = some (r, h0)) : Cn skC yX0_weightNow cX0_weightNow 1 (some .int) 1 [.ref 1] h (some (.int r)) h0 := by
  refine Cn_of (L := [some (.ref 1)]) (by decide +kernel) (by simp [lg_sl, Value.category]) (fun ad => by simp [lg_sl, tv, Value.category]) (⟨rfl, trivial⟩) ?_
  unfold fX0_weightNow at H
  refine j_aload_n (pc := 0) dX0_weightNow_0 rfl ?_
  refine j_getI (pc := 1) dX0_weightNow_1 flX0_60 rfl ?_
  refine j_aload_n (pc := 4) dX0_weightNow_4 rfl ?_
  refine j_getR (pc := 5) (b := 2) dX0_weightNow_5 flX0_12 rfl ?_
  obtain ⟨r2, h1, eh1, H⟩ := bd_x H
  refine j_callV (pc := 8) dX0_weightNow_8 mlX0_63 wyX4_weight (tX4_weight eh1) (by decide) rfl rfl rfl rfl (by simp [Value.category]) rfl ?_
  refine j_iadd (pc := 11) dX0_weightNow_11 ?_
  exact j_ireturn (pc := 12) dX0_weightNow_12 rfl (ri_1 H) (ri_2 H)

noncomputable def fX0_heavyAt (p1 : Int32) (h : HS) : Option (Int32 × HS) := bd (fX0_weightNow h) (fun r2 h1 => bd (fX10_liftAt p1 h1) (fun r4 h3 => some ((r2 - r4), h3)))
set_option maxRecDepth 100000 in
theorem tX0_heavyAt {p1 : Int32} {r : Int32} {h h0 : HS} (H : fX0_heavyAt p1 h = some (r, h0)) : Cn skC yX0_heavyAt cX0_heavyAt 2 (some .int) 2 [.ref 1, .int p1] h (some (.int r)) h0 := by
  refine Cn_of (L := [some (.ref 1), some (.int p1)]) (by decide +kernel) (by simp [lg_sl, Value.category]) (fun ad => by simp [lg_sl, tv, Value.category]) (⟨rfl, ⟨rfl, trivial⟩⟩) ?_
  unfold fX0_heavyAt at H
  refine j_aload_n (pc := 0) dX0_heavyAt_0 rfl ?_
  obtain ⟨r2, h1, eh1, H⟩ := bd_x H
  refine j_callV (pc := 1) dX0_heavyAt_1 mlX0_67 wyX0_weightNow (tX0_weightNow eh1) (by decide) rfl rfl rfl rfl (by simp [Value.category]) rfl ?_
  refine j_aload_n (pc := 4) dX0_heavyAt_4 rfl ?_
  refine j_getR (pc := 5) (b := 3) dX0_heavyAt_5 flX0_21 rfl ?_
  refine j_iload_n (pc := 8) dX0_heavyAt_8 rfl ?_
  obtain ⟨r4, h3, eh3, H⟩ := bd_x H
  refine j_callV (pc := 9) dX0_heavyAt_9 mlX0_70 wyX10_liftAt (tX10_liftAt eh3) (by decide) rfl rfl rfl rfl (by simp [Value.category]) rfl ?_
  refine j_isub (pc := 12) dX0_heavyAt_12 ?_
  exact j_ireturn (pc := 13) dX0_heavyAt_13 rfl (ri_1 H) (ri_2 H)

noncomputable def fX0_momentNow (h : HS) : Option (Int32 × HS) := bd (fX4_momentSum h) (fun r2 h1 => some (((gI h 1 3) + r2), h1))
set_option maxRecDepth 100000 in
theorem tX0_momentNow {r : Int32} {h h0 : HS} (H : fX0_momentNow h = some (r, h0)) : Cn skC yX0_momentNow cX0_momentNow 1 (some .int) 1 [.ref 1] h (some (.int r)) h0 := by
  refine Cn_of (L := [some (.ref 1)]) (by decide +kernel) (by simp [lg_sl, Value.category]) (fun ad => by simp [lg_sl, tv, Value.category]) (⟨rfl, trivial⟩) ?_
  unfold fX0_momentNow at H
  refine j_aload_n (pc := 0) dX0_momentNow_0 rfl ?_
  refine j_getI (pc := 1) dX0_momentNow_1 flX0_74 rfl ?_
  refine j_aload_n (pc := 4) dX0_momentNow_4 rfl ?_
  refine j_getR (pc := 5) (b := 2) dX0_momentNow_5 flX0_12 rfl ?_
  obtain ⟨r2, h1, eh1, H⟩ := bd_x H
  refine j_callV (pc := 8) dX0_momentNow_8 mlX0_77 wyX4_momentSum (tX4_momentSum eh1) (by decide) rfl rfl rfl rfl (by simp [Value.category]) rfl ?_
  refine j_iadd (pc := 11) dX0_momentNow_11 ?_
  exact j_ireturn (pc := 12) dX0_momentNow_12 rfl (ri_1 H) (ri_2 H)

noncomputable def fX0_listNow (h : HS) : Option (Int32 × HS) := bd (fX4_listSum h) (fun r2 h1 => some (((gI h 1 4) + r2), h1))
set_option maxRecDepth 100000 in
theorem tX0_listNow {r : Int32} {h h0 : HS} (H : fX0_listNow h = some (r, h0)) : Cn skC yX0_listNow cX0_listNow 1 (some .int) 1 [.ref 1] h (some (.int r)) h0 := by
  refine Cn_of (L := [some (.ref 1)]) (by decide +kernel) (by simp [lg_sl, Value.category]) (fun ad => by simp [lg_sl, tv, Value.category]) (⟨rfl, trivial⟩) ?_
  unfold fX0_listNow at H
  refine j_aload_n (pc := 0) dX0_listNow_0 rfl ?_
  refine j_getI (pc := 1) dX0_listNow_1 flX0_80 rfl ?_
  refine j_aload_n (pc := 4) dX0_listNow_4 rfl ?_
  refine j_getR (pc := 5) (b := 2) dX0_listNow_5 flX0_12 rfl ?_
  obtain ⟨r2, h1, eh1, H⟩ := bd_x H
  refine j_callV (pc := 8) dX0_listNow_8 mlX0_83 wyX4_listSum (tX4_listSum eh1) (by decide) rfl rfl rfl rfl (by simp [Value.category]) rfl ?_
  refine j_iadd (pc := 11) dX0_listNow_11 ?_
  exact j_ireturn (pc := 12) dX0_listNow_12 rfl (ri_1 H) (ri_2 H)

noncomputable def fX0_isLevel (h : HS) : Option (Int32 × HS) := bd (fX0_momentNow h) (fun r2 h1 => if (gI h1 17 1) < (iabs r2) then (some ((0 : Int32), h1)) else (bd (fX0_listNow h1) (fun r5 h4 => if (gI h4 17 2) < (iabs r5) then (some ((0 : Int32), h4)) else (some ((1 : Int32), h4)))))
set_option maxRecDepth 100000 in
theorem tX0_isLevel {r : Int32} {h h0 : HS} (H : fX0_isLevel h = some (r, h0)) : Cn skC yX0_isLevel cX0_isLevel 1 (some .boolean) 2 [.ref 1] h (some (.int r)) h0 := by
  refine Cn_of (L := [some (.ref 1)]) (by decide +kernel) (by simp [lg_sl, Value.category]) (fun ad => by simp [lg_sl, tv, Value.category]) (⟨rfl, trivial⟩) ?_
  unfold fX0_isLevel at H
  refine j_aload_n (pc := 0) dX0_isLevel_0 rfl ?_
  obtain ⟨r2, h1, eh1, H⟩ := bd_x H
  refine j_callV (pc := 1) dX0_isLevel_1 mlX0_86 wyX0_momentNow (tX0_momentNow eh1) (by decide) rfl rfl rfl rfl (by simp [Value.category]) rfl ?_
  refine j_mabs (pc := 4) dX0_isLevel_4 wmX0_89 (by simp [Value.category]) ?_
  refine j_aload_n (pc := 7) dX0_isLevel_7 rfl ?_
  refine j_getR (pc := 8) (b := 17) dX0_isLevel_8 flX0_25 rfl ?_
  refine j_iconst (pc := 11) (v := 1) dX0_isLevel_11 (by decide) ?_
  refine j_iaload (pc := 12) (j := 1) dX0_isLevel_12 rfl (by decide) (by decide) ?_
  refine j_icmp_gt (pc := 13) (tgt := 36) dX0_isLevel_13 (by decide) (fun c3 => ?_) (fun c3 => ?_)
  · rw [if_pos c3] at H
    refine j_iconst (pc := 36) (v := 0) dX0_isLevel_36 (by decide) ?_
    exact j_zreturn (pc := 37) dX0_isLevel_37 rfl (rz0 H) (ri_2 H)
  · rw [if_neg c3] at H
    refine j_aload_n (pc := 16) dX0_isLevel_16 rfl ?_
    obtain ⟨r5, h4, eh4, H⟩ := bd_x H
    refine j_callV (pc := 17) dX0_isLevel_17 mlX0_94 wyX0_listNow (tX0_listNow eh4) (by decide) rfl rfl rfl rfl (by simp [Value.category]) rfl ?_
    refine j_mabs (pc := 20) dX0_isLevel_20 wmX0_89 (by simp [Value.category]) ?_
    refine j_aload_n (pc := 23) dX0_isLevel_23 rfl ?_
    refine j_getR (pc := 24) (b := 17) dX0_isLevel_24 flX0_25 rfl ?_
    refine j_iconst (pc := 27) (v := 2) dX0_isLevel_27 (by decide) ?_
    refine j_iaload (pc := 28) (j := 2) dX0_isLevel_28 rfl (by decide) (by decide) ?_
    refine j_icmp_gt (pc := 29) (tgt := 36) dX0_isLevel_29 (by decide) (fun c6 => ?_) (fun c6 => ?_)
    · rw [if_pos c6] at H
      refine j_iconst (pc := 36) (v := 0) dX0_isLevel_36 (by decide) ?_
      exact j_zreturn (pc := 37) dX0_isLevel_37 rfl (rz0 H) (ri_2 H)
    · rw [if_neg c6] at H
      refine j_iconst (pc := 32) (v := 1) dX0_isLevel_32 (by decide) ?_
      refine j_goto (pc := 33) (tgt := 37) dX0_isLevel_33 (by decide) ?_
      exact j_zreturn (pc := 37) dX0_isLevel_37 rfl (rz1 H) (ri_2 H)

noncomputable def fX0_isBalanced (p1 : Int32) (h : HS) : Option (Int32 × HS) := bd (fX0_heavyAt p1 h) (fun r2 h1 => if (gI h1 17 0) < (iabs r2) then (some ((0 : Int32), h1)) else (bd (fX0_isLevel h1) (fun r5 h4 => if r5 = 0 then (some ((0 : Int32), h4)) else (some ((1 : Int32), h4)))))
set_option maxRecDepth 100000 in
theorem tX0_isBalanced {p1 : Int32} {r : Int32} {h h0 : HS} (H : fX0_isBalanced p1 h = some (r, h0)) : Cn skC yX0_isBalanced cX0_isBalanced 2 (some .boolean) 3 [.ref 1, .int p1] h (some (.int r)) h0 := by
  refine Cn_of (L := [some (.ref 1), some (.int p1)]) (by decide +kernel) (by simp [lg_sl, Value.category]) (fun ad => by simp [lg_sl, tv, Value.category]) (⟨rfl, ⟨rfl, trivial⟩⟩) ?_
  unfold fX0_isBalanced at H
  refine j_aload_n (pc := 0) dX0_isBalanced_0 rfl ?_
  refine j_iload_n (pc := 1) dX0_isBalanced_1 rfl ?_
  obtain ⟨r2, h1, eh1, H⟩ := bd_x H
  refine j_callV (pc := 2) dX0_isBalanced_2 mlX0_97 wyX0_heavyAt (tX0_heavyAt eh1) (by decide) rfl rfl rfl rfl (by simp [Value.category]) rfl ?_
  refine j_mabs (pc := 5) dX0_isBalanced_5 wmX0_89 (by simp [Value.category]) ?_
  refine j_aload_n (pc := 8) dX0_isBalanced_8 rfl ?_
  refine j_getR (pc := 9) (b := 17) dX0_isBalanced_9 flX0_25 rfl ?_
  refine j_iconst (pc := 12) (v := 0) dX0_isBalanced_12 (by decide) ?_
  refine j_iaload (pc := 13) (j := 0) dX0_isBalanced_13 rfl (by decide) (by decide) ?_
  refine j_icmp_gt (pc := 14) (tgt := 28) dX0_isBalanced_14 (by decide) (fun c3 => ?_) (fun c3 => ?_)
  · rw [if_pos c3] at H
    refine j_iconst (pc := 28) (v := 0) dX0_isBalanced_28 (by decide) ?_
    exact j_zreturn (pc := 29) dX0_isBalanced_29 rfl (rz0 H) (ri_2 H)
  · rw [if_neg c3] at H
    refine j_aload_n (pc := 17) dX0_isBalanced_17 rfl ?_
    obtain ⟨r5, h4, eh4, H⟩ := bd_x H
    refine j_callV (pc := 18) dX0_isBalanced_18 mlX0_100 wyX0_isLevel (tX0_isLevel eh4) (by decide) rfl rfl rfl rfl (by simp [Value.category]) rfl ?_
    refine j_if_eq (pc := 21) (tgt := 28) dX0_isBalanced_21 (by decide) (fun c6 => ?_) (fun c6 => ?_)
    · rw [if_pos c6] at H
      refine j_iconst (pc := 28) (v := 0) dX0_isBalanced_28 (by decide) ?_
      exact j_zreturn (pc := 29) dX0_isBalanced_29 rfl (rz0 H) (ri_2 H)
    · rw [if_neg c6] at H
      refine j_iconst (pc := 24) (v := 1) dX0_isBalanced_24 (by decide) ?_
      refine j_goto (pc := 25) (tgt := 29) dX0_isBalanced_25 (by decide) ?_
      exact j_zreturn (pc := 29) dX0_isBalanced_29 rfl (rz1 H) (ri_2 H)

noncomputable def fX0_keepSums_170 (k41 : Int32 → Int64 → Int64 → Int64 → Int64 → Int64 → Int64 → Int32 → HS → Option HS) (v2 : Int32) (v3 : Int64) (v5 : Int64) (v7 : Int64) (v9 : Int64) (v11 : Int64) (v13 : Int64) (v15 : Int32) (v16 : Int32) (h : HS) : Option HS := ck (inb v16 15) (nm ((v13 + ((gI h 29 v16.toNatClampNeg).toInt64))) (fun v13_19 => ck (inb v16 15) (ck (inb v16 15) (nm ((v7 + (((gI h 27 v16.toNatClampNeg).toInt64) * ((gI h 29 v16.toNatClampNeg).toInt64)))) (fun v7_22 => nm (v15 + (1 : Int32)) (fun v15_23 => k41 v2 v3 v5 v7_22 v9 v11 v13_19 v15_23 h))))))
set_option maxRecDepth 100000 in
theorem jX0_keepSums_170 {h0 : HS} (k41 : Int32 → Int64 → Int64 → Int64 → Int64 → Int64 → Int64 → Int32 → HS → Option HS) (hk41 : ∀ (v2 : Int32) (v3 : Int64) (v5 : Int64) (v7 : Int64) (v9 : Int64) (v11 : Int64) (v13 : Int64) (v15 : Int32) (h : HS), k41 v2 v3 v5 v7 v9 v11 v13 v15 h = some h0 → Jx skC RX0 cX0_keepSums 17 none 2 none h0 41 [some (.ref 1), none, some (.int v2), some (.long v3), none, some (.long v5), none, some (.long v7), none, some (.long v9), none, some (.long v11), none, some (.long v13), none, some (.int v15), none] [] h) (v2 : Int32) (v3 : Int64) (v5 : Int64) (v7 : Int64) (v9 : Int64) (v11 : Int64) (v13 : Int64) (v15 : Int32) (v16 : Int32) (h : HS) (H : fX0_keepSums_170 k41 v2 v3 v5 v7 v9 v11 v13 v15 v16 h = some h0) : Jx skC RX0 cX0_keepSums 17 none 2 none h0 170 [some (.ref 1), none, some (.int v2), some (.long v3), none, some (.long v5), none, some (.long v7), none, some (.long v9), none, some (.long v11), none, some (.long v13), none, some (.int v15), some (.int v16)] [] h := by
  unfold fX0_keepSums_170 at H
  refine j_lload (pc := 170) dX0_keepSums_170 rfl ?_
  refine j_aload_n (pc := 172) dX0_keepSums_172 rfl ?_
  refine j_getR (pc := 173) (b := 2) dX0_keepSums_173 flX0_12 rfl ?_
  refine j_getR (pc := 176) (b := 29) dX0_keepSums_176 flX0_154 rfl ?_
  refine j_iload (pc := 179) dX0_keepSums_179 rfl ?_
  obtain ⟨b18, H⟩ := ck_x H
  refine j_iaload (pc := 181) dX0_keepSums_181 rfl b18 rfl ?_
  refine j_i2l (pc := 182) dX0_keepSums_182 ?_
  refine j_ladd (pc := 183) dX0_keepSums_183 ?_
  obtain ⟨v13_19, ev13_19, H⟩ := nm_x H
  refine j_topl ev13_19 ?_
  refine j_lstore (pc := 184) (L' := [some (.ref 1), none, some (.int v2), some (.long v3), none, some (.long v5), none, some (.long v7), none, some (.long v9), none, some (.long v11), none, some (.long v13_19), none, some (.int v15), some (.int v16)]) dX0_keepSums_184 (by decide) rfl ?_
  refine j_lload (pc := 186) dX0_keepSums_186 rfl ?_
  refine j_aload_n (pc := 188) dX0_keepSums_188 rfl ?_
  refine j_getR (pc := 189) (b := 2) dX0_keepSums_189 flX0_12 rfl ?_
  refine j_getR (pc := 192) (b := 27) dX0_keepSums_192 flX0_157 rfl ?_
  refine j_iload (pc := 195) dX0_keepSums_195 rfl ?_
  obtain ⟨b20, H⟩ := ck_x H
  refine j_iaload (pc := 197) dX0_keepSums_197 rfl b20 rfl ?_
  refine j_i2l (pc := 198) dX0_keepSums_198 ?_
  refine j_aload_n (pc := 199) dX0_keepSums_199 rfl ?_
  refine j_getR (pc := 200) (b := 2) dX0_keepSums_200 flX0_12 rfl ?_
  refine j_getR (pc := 203) (b := 29) dX0_keepSums_203 flX0_154 rfl ?_
  refine j_iload (pc := 206) dX0_keepSums_206 rfl ?_
  obtain ⟨b21, H⟩ := ck_x H
  refine j_iaload (pc := 208) dX0_keepSums_208 rfl b21 rfl ?_
  refine j_i2l (pc := 209) dX0_keepSums_209 ?_
  refine j_lmul (pc := 210) dX0_keepSums_210 ?_
  refine j_ladd (pc := 211) dX0_keepSums_211 ?_
  obtain ⟨v7_22, ev7_22, H⟩ := nm_x H
  refine j_topl ev7_22 ?_
  refine j_lstore (pc := 212) (L' := [some (.ref 1), none, some (.int v2), some (.long v3), none, some (.long v5), none, some (.long v7_22), none, some (.long v9), none, some (.long v11), none, some (.long v13_19), none, some (.int v15), some (.int v16)]) dX0_keepSums_212 (by decide) rfl ?_
  obtain ⟨v15_23, ev15_23, H⟩ := nm_x H
  refine j_iinc (pc := 214) (L' := [some (.ref 1), none, some (.int v2), some (.long v3), none, some (.long v5), none, some (.long v7_22), none, some (.long v9), none, some (.long v11), none, some (.long v13_19), none, some (.int v15_23), some (.int v16)]) (w := 1) dX0_keepSums_214 rfl (by decide) (by decide) v15_23 ev15_23 rfl ?_
  refine j_goto (pc := 217) (tgt := 41) dX0_keepSums_217 (by decide) ?_
  refine Jx.sub (L' := [some (.ref 1), none, some (.int v2), some (.long v3), none, some (.long v5), none, some (.long v7_22), none, some (.long v9), none, some (.long v11), none, some (.long v13_19), none, some (.int v15_23), none]) (⟨rfl, ⟨rfl, ⟨rfl, ⟨rfl, ⟨rfl, ⟨rfl, ⟨rfl, ⟨rfl, ⟨rfl, trivial⟩⟩⟩⟩⟩⟩⟩⟩⟩) ?_
  exact hk41 v2 v3 v5 v7_22 v9 v11 v13_19 v15_23 h H
noncomputable def fX0_keepSums_81 (k41 : Int32 → Int64 → Int64 → Int64 → Int64 → Int64 → Int64 → Int32 → HS → Option HS) (v2 : Int32) (v3 : Int64) (v5 : Int64) (v7 : Int64) (v9 : Int64) (v11 : Int64) (v13 : Int64) (v15 : Int32) (s1 : Int32) (h : HS) : Option HS := ck (inb s1 15) (nm ((gI h 32 s1.toNatClampNeg)) (fun v16_8 => ck (inb v16_8 15) (bv (fX7_reset 12 (0 : Int64) (((gI h 29 v16_8.toNatClampNeg).toInt64)) h) (fun h10 => ck (inb v16_8 15) (bv (fX7_narrow 12 v7 (((gI h10 27 v16_8.toNatClampNeg).toInt64)) v3 v5 h10) (fun h12 => bd (fX7_isEmpty 12 h12) (fun r14 h13 => if r14 = 0 then (nm ((lmin v9 (v13 + (gL h13 12 0)))) (fun v9_16 => nm ((lmax v11 (v13 + (gL h13 12 1)))) (fun v11_17 => fX0_keepSums_170 k41 v2 v3 v5 v7 v9_16 v11_17 v13 v15 v16_8 h13))) else (fX0_keepSums_170 k41 v2 v3 v5 v7 v9 v11 v13 v15 v16_8 h13))))))))
set_option maxRecDepth 100000 in
theorem jX0_keepSums_81 {h0 : HS} (k41 : Int32 → Int64 → Int64 → Int64 → Int64 → Int64 → Int64 → Int32 → HS → Option HS) (hk41 : ∀ (v2 : Int32) (v3 : Int64) (v5 : Int64) (v7 : Int64) (v9 : Int64) (v11 : Int64) (v13 : Int64) (v15 : Int32) (h : HS), k41 v2 v3 v5 v7 v9 v11 v13 v15 h = some h0 → Jx skC RX0 cX0_keepSums 17 none 2 none h0 41 [some (.ref 1), none, some (.int v2), some (.long v3), none, some (.long v5), none, some (.long v7), none, some (.long v9), none, some (.long v11), none, some (.long v13), none, some (.int v15), none] [] h) (v2 : Int32) (v3 : Int64) (v5 : Int64) (v7 : Int64) (v9 : Int64) (v11 : Int64) (v13 : Int64) (v15 : Int32) (s1 : Int32) (h : HS) (H : fX0_keepSums_81 k41 v2 v3 v5 v7 v9 v11 v13 v15 s1 h = some h0) : Jx skC RX0 cX0_keepSums 17 none 2 none h0 81 [some (.ref 1), none, some (.int v2), some (.long v3), none, some (.long v5), none, some (.long v7), none, some (.long v9), none, some (.long v11), none, some (.long v13), none, some (.int v15), none] [.int s1, .ref 32] h := by
  unfold fX0_keepSums_81 at H
  obtain ⟨b7, H⟩ := ck_x H
  refine j_iaload (pc := 81) dX0_keepSums_81 rfl b7 rfl ?_
  obtain ⟨v16_8, ev16_8, H⟩ := nm_x H
  refine j_topi ev16_8 ?_
  refine j_istore (pc := 82) (L' := [some (.ref 1), none, some (.int v2), some (.long v3), none, some (.long v5), none, some (.long v7), none, some (.long v9), none, some (.long v11), none, some (.long v13), none, some (.int v15), some (.int v16_8)]) dX0_keepSums_82 (by decide) rfl ?_
  refine j_aload_n (pc := 84) dX0_keepSums_84 rfl ?_
  refine j_getR (pc := 85) (b := 12) dX0_keepSums_85 flX0_57 rfl ?_
  refine j_lconst (pc := 88) (v := 0) dX0_keepSums_88 (by decide) ?_
  refine j_aload_n (pc := 89) dX0_keepSums_89 rfl ?_
  refine j_getR (pc := 90) (b := 2) dX0_keepSums_90 flX0_12 rfl ?_
  refine j_getR (pc := 93) (b := 29) dX0_keepSums_93 flX0_154 rfl ?_
  refine j_iload (pc := 96) dX0_keepSums_96 rfl ?_
  obtain ⟨b9, H⟩ := ck_x H
  refine j_iaload (pc := 98) dX0_keepSums_98 rfl b9 rfl ?_
  refine j_i2l (pc := 99) dX0_keepSums_99 ?_
  obtain ⟨h10, eh10, H⟩ := bv_x H
  refine j_callV (pc := 100) dX0_keepSums_100 mlX0_131 wyX7_reset (tX7_reset rfl eh10) (by decide) rfl rfl rfl rfl (by simp [Value.category]) rfl ?_
  refine j_aload_n (pc := 103) dX0_keepSums_103 rfl ?_
  refine j_getR (pc := 104) (b := 12) dX0_keepSums_104 flX0_57 rfl ?_
  refine j_lload (pc := 107) dX0_keepSums_107 rfl ?_
  refine j_aload_n (pc := 109) dX0_keepSums_109 rfl ?_
  refine j_getR (pc := 110) (b := 2) dX0_keepSums_110 flX0_12 rfl ?_
  refine j_getR (pc := 113) (b := 27) dX0_keepSums_113 flX0_157 rfl ?_
  refine j_iload (pc := 116) dX0_keepSums_116 rfl ?_
  obtain ⟨b11, H⟩ := ck_x H
  refine j_iaload (pc := 118) dX0_keepSums_118 rfl b11 rfl ?_
  refine j_i2l (pc := 119) dX0_keepSums_119 ?_
  refine j_lload_n (pc := 120) dX0_keepSums_120 rfl ?_
  refine j_lload (pc := 121) dX0_keepSums_121 rfl ?_
  obtain ⟨h12, eh12, H⟩ := bv_x H
  refine j_callV (pc := 123) dX0_keepSums_123 mlX0_135 wyX7_narrow (tX7_narrow rfl eh12) (by decide) rfl rfl rfl rfl (by simp [Value.category]) rfl ?_
  refine j_aload_n (pc := 126) dX0_keepSums_126 rfl ?_
  refine j_getR (pc := 127) (b := 12) dX0_keepSums_127 flX0_57 rfl ?_
  obtain ⟨r14, h13, eh13, H⟩ := bd_x H
  refine j_callV (pc := 130) dX0_keepSums_130 mlX0_145 wyX7_isEmpty (tX7_isEmpty rfl eh13) (by decide) rfl rfl rfl rfl (by simp [Value.category]) rfl ?_
  refine j_if_ne (pc := 133) (tgt := 170) dX0_keepSums_133 (by decide) (fun c15 => ?_) (fun c15 => ?_)
  · rw [if_neg c15] at H
    refine Jx.sub (L' := [some (.ref 1), none, some (.int v2), some (.long v3), none, some (.long v5), none, some (.long v7), none, some (.long v9), none, some (.long v11), none, some (.long v13), none, some (.int v15), some (.int v16_8)]) (⟨rfl, ⟨rfl, ⟨rfl, ⟨rfl, ⟨rfl, ⟨rfl, ⟨rfl, ⟨rfl, ⟨rfl, ⟨rfl, trivial⟩⟩⟩⟩⟩⟩⟩⟩⟩⟩) ?_
    exact jX0_keepSums_170 _ hk41 v2 v3 v5 v7 v9 v11 v13 v15 v16_8 h13 H
  · rw [if_pos c15] at H
    refine j_lload (pc := 136) dX0_keepSums_136 rfl ?_
    refine j_lload (pc := 138) dX0_keepSums_138 rfl ?_
    refine j_aload_n (pc := 140) dX0_keepSums_140 rfl ?_
    refine j_getR (pc := 141) (b := 12) dX0_keepSums_141 flX0_57 rfl ?_
    refine j_getL (pc := 144) dX0_keepSums_144 flX0_160 rfl ?_
    refine j_ladd (pc := 147) dX0_keepSums_147 ?_
    refine j_mminL (pc := 148) dX0_keepSums_148 wmX0_164 (by simp [Value.category]) ?_
    obtain ⟨v9_16, ev9_16, H⟩ := nm_x H
    refine j_topl ev9_16 ?_
    refine j_lstore (pc := 151) (L' := [some (.ref 1), none, some (.int v2), some (.long v3), none, some (.long v5), none, some (.long v7), none, some (.long v9_16), none, some (.long v11), none, some (.long v13), none, some (.int v15), some (.int v16_8)]) dX0_keepSums_151 (by decide) rfl ?_
    refine j_lload (pc := 153) dX0_keepSums_153 rfl ?_
    refine j_lload (pc := 155) dX0_keepSums_155 rfl ?_
    refine j_aload_n (pc := 157) dX0_keepSums_157 rfl ?_
    refine j_getR (pc := 158) (b := 12) dX0_keepSums_158 flX0_57 rfl ?_
    refine j_getL (pc := 161) dX0_keepSums_161 flX0_168 rfl ?_
    refine j_ladd (pc := 164) dX0_keepSums_164 ?_
    refine j_mmaxL (pc := 165) dX0_keepSums_165 wmX0_171 (by simp [Value.category]) ?_
    obtain ⟨v11_17, ev11_17, H⟩ := nm_x H
    refine j_topl ev11_17 ?_
    refine j_lstore (pc := 168) (L' := [some (.ref 1), none, some (.int v2), some (.long v3), none, some (.long v5), none, some (.long v7), none, some (.long v9_16), none, some (.long v11_17), none, some (.long v13), none, some (.int v15), some (.int v16_8)]) dX0_keepSums_168 (by decide) rfl ?_
    refine Jx.sub (L' := [some (.ref 1), none, some (.int v2), some (.long v3), none, some (.long v5), none, some (.long v7), none, some (.long v9_16), none, some (.long v11_17), none, some (.long v13), none, some (.int v15), some (.int v16_8)]) (⟨rfl, ⟨rfl, ⟨rfl, ⟨rfl, ⟨rfl, ⟨rfl, ⟨rfl, ⟨rfl, ⟨rfl, ⟨rfl, trivial⟩⟩⟩⟩⟩⟩⟩⟩⟩⟩) ?_
    exact jX0_keepSums_170 _ hk41 v2 v3 v5 v7 v9_16 v11_17 v13 v15 v16_8 h13 H
noncomputable def fX0_keepSums_41 : Nat → Int32 → Int64 → Int64 → Int64 → Int64 → Int64 → Int64 → Int32 → HS → Option HS
  | 0, _, _, _, _, _, _, _, _, _ => none
  | n + 1, v2, v3, v5, v7, v9, v11, v13, v15, h => if (gI h 2 7) ≤ v15 then (bv (fX7_narrow 11 (0 : Int64) (1 : Int64) v9 v11 h) (fun h5 => some h5)) else (if v2 = 0 then (fX0_keepSums_81 (fX0_keepSums_41 n) v2 v3 v5 v7 v9 v11 v13 v15 ((((gI h 2 7) - (1 : Int32)) - v15)) h) else (fX0_keepSums_81 (fX0_keepSums_41 n) v2 v3 v5 v7 v9 v11 v13 v15 v15 h))
set_option maxRecDepth 100000 in
theorem jX0_keepSums_41 {h0 : HS} : ∀ (n : Nat) (v2 : Int32) (v3 : Int64) (v5 : Int64) (v7 : Int64) (v9 : Int64) (v11 : Int64) (v13 : Int64) (v15 : Int32) (h : HS), fX0_keepSums_41 n v2 v3 v5 v7 v9 v11 v13 v15 h = some h0 → Jx skC RX0 cX0_keepSums 17 none 2 none h0 41 [some (.ref 1), none, some (.int v2), some (.long v3), none, some (.long v5), none, some (.long v7), none, some (.long v9), none, some (.long v11), none, some (.long v13), none, some (.int v15), none] [] h := by
  intro n
  induction n with
  | zero => intro v2 v3 v5 v7 v9 v11 v13 v15  h H; cases H
  | succ n ih =>
    intro v2 v3 v5 v7 v9 v11 v13 v15  h H
    rw [fX0_keepSums_41] at H
    refine j_iload (pc := 41) dX0_keepSums_41 rfl ?_
    refine j_aload_n (pc := 43) dX0_keepSums_43 rfl ?_
    refine j_getR (pc := 44) (b := 2) dX0_keepSums_44 flX0_12 rfl ?_
    refine j_getI (pc := 47) dX0_keepSums_47 flX0_148 rfl ?_
    refine j_icmp_ge (pc := 50) (tgt := 220) dX0_keepSums_50 (by decide) (fun c4 => ?_) (fun c4 => ?_)
    · rw [if_pos c4] at H
      refine j_aload_n (pc := 220) dX0_keepSums_220 rfl ?_
      refine j_getR (pc := 221) (b := 11) dX0_keepSums_221 flX0_53 rfl ?_
      refine j_lconst (pc := 224) (v := 0) dX0_keepSums_224 (by decide) ?_
      refine j_lconst (pc := 225) (v := 1) dX0_keepSums_225 (by decide) ?_
      refine j_lload (pc := 226) dX0_keepSums_226 rfl ?_
      refine j_lload (pc := 228) dX0_keepSums_228 rfl ?_
      obtain ⟨h5, eh5, H⟩ := bv_x H
      refine j_callV (pc := 230) dX0_keepSums_230 mlX0_135 wyX7_narrow (tX7_narrow rfl eh5) (by decide) rfl rfl rfl rfl (by simp [Value.category]) rfl ?_
      exact j_return (pc := 233) dX0_keepSums_233 rfl rfl (rv_2 H)
    · rw [if_neg c4] at H
      refine j_aload_n (pc := 53) dX0_keepSums_53 rfl ?_
      refine j_getR (pc := 54) (b := 2) dX0_keepSums_54 flX0_12 rfl ?_
      refine j_getR (pc := 57) (b := 32) dX0_keepSums_57 flX0_151 rfl ?_
      refine j_iload_n (pc := 60) dX0_keepSums_60 rfl ?_
      refine j_if_eq (pc := 61) (tgt := 69) dX0_keepSums_61 (by decide) (fun c6 => ?_) (fun c6 => ?_)
      · rw [if_pos c6] at H
        refine j_aload_n (pc := 69) dX0_keepSums_69 rfl ?_
        refine j_getR (pc := 70) (b := 2) dX0_keepSums_70 flX0_12 rfl ?_
        refine j_getI (pc := 73) dX0_keepSums_73 flX0_148 rfl ?_
        refine j_iconst (pc := 76) (v := 1) dX0_keepSums_76 (by decide) ?_
        refine j_isub (pc := 77) dX0_keepSums_77 ?_
        refine j_iload (pc := 78) dX0_keepSums_78 rfl ?_
        refine j_isub (pc := 80) dX0_keepSums_80 ?_
        refine Jx.sub (L' := [some (.ref 1), none, some (.int v2), some (.long v3), none, some (.long v5), none, some (.long v7), none, some (.long v9), none, some (.long v11), none, some (.long v13), none, some (.int v15), none]) (⟨rfl, ⟨rfl, ⟨rfl, ⟨rfl, ⟨rfl, ⟨rfl, ⟨rfl, ⟨rfl, ⟨rfl, trivial⟩⟩⟩⟩⟩⟩⟩⟩⟩) ?_
        exact jX0_keepSums_81 _ ih v2 v3 v5 v7 v9 v11 v13 v15 ((((gI h 2 7) - (1 : Int32)) - v15)) h H
      · rw [if_neg c6] at H
        refine j_iload (pc := 64) dX0_keepSums_64 rfl ?_
        refine j_goto (pc := 66) (tgt := 81) dX0_keepSums_66 (by decide) ?_
        refine Jx.sub (L' := [some (.ref 1), none, some (.int v2), some (.long v3), none, some (.long v5), none, some (.long v7), none, some (.long v9), none, some (.long v11), none, some (.long v13), none, some (.int v15), none]) (⟨rfl, ⟨rfl, ⟨rfl, ⟨rfl, ⟨rfl, ⟨rfl, ⟨rfl, ⟨rfl, ⟨rfl, trivial⟩⟩⟩⟩⟩⟩⟩⟩⟩) ?_
        exact jX0_keepSums_81 _ ih v2 v3 v5 v7 v9 v11 v13 v15 v15 h H
noncomputable def fX0_keepSums_35 (v2 : Int32) (v3 : Int64) (v5 : Int64) (v7 : Int64) (v9 : Int64) (v11 : Int64) (h : HS) : Option HS := fX0_keepSums_41 FU v2 v3 v5 v7 v9 v11 (0 : Int64) (0 : Int32) h
set_option maxRecDepth 100000 in
theorem jX0_keepSums_35 {h0 : HS} (v2 : Int32) (v3 : Int64) (v5 : Int64) (v7 : Int64) (v9 : Int64) (v11 : Int64) (h : HS) (H : fX0_keepSums_35 v2 v3 v5 v7 v9 v11 h = some h0) : Jx skC RX0 cX0_keepSums 17 none 2 none h0 35 [some (.ref 1), none, some (.int v2), some (.long v3), none, some (.long v5), none, some (.long v7), none, some (.long v9), none, some (.long v11), none, none, none, none, none] [] h := by
  unfold fX0_keepSums_35 at H
  refine j_lconst (pc := 35) (v := 0) dX0_keepSums_35 (by decide) ?_
  refine j_lstore (pc := 36) (L' := [some (.ref 1), none, some (.int v2), some (.long v3), none, some (.long v5), none, some (.long v7), none, some (.long v9), none, some (.long v11), none, some (.long (0 : Int64)), none, none, none]) dX0_keepSums_36 (by decide) rfl ?_
  refine j_iconst (pc := 38) (v := 0) dX0_keepSums_38 (by decide) ?_
  refine j_istore (pc := 39) (L' := [some (.ref 1), none, some (.int v2), some (.long v3), none, some (.long v5), none, some (.long v7), none, some (.long v9), none, some (.long v11), none, some (.long (0 : Int64)), none, some (.int (0 : Int32)), none]) dX0_keepSums_39 (by decide) rfl ?_
  refine Jx.sub (L' := [some (.ref 1), none, some (.int v2), some (.long v3), none, some (.long v5), none, some (.long v7), none, some (.long v9), none, some (.long v11), none, some (.long (0 : Int64)), none, some (.int (0 : Int32)), none]) (⟨rfl, ⟨rfl, ⟨rfl, ⟨rfl, ⟨rfl, ⟨rfl, ⟨rfl, ⟨rfl, ⟨rfl, trivial⟩⟩⟩⟩⟩⟩⟩⟩⟩) ?_
  exact jX0_keepSums_41 FU v2 v3 v5 v7 v9 v11 (0 : Int64) (0 : Int32) h H
noncomputable def fX0_keepSums (p1 : Int32) (p2 : Int32) (p3 : Int64) (p4 : Int64) (h : HS) : Option HS := nm ((p1.toInt64)) (fun v7_1 => if (lg_cmp v7_1 p3) < 0 then (fX0_keepSums_35 p2 p3 p4 v7_1 (1099511627776 : Int64) (-1099511627776 : Int64) h) else (if 0 < (lg_cmp v7_1 p4) then (fX0_keepSums_35 p2 p3 p4 v7_1 (1099511627776 : Int64) (-1099511627776 : Int64) h) else (fX0_keepSums_35 p2 p3 p4 v7_1 (0 : Int64) (0 : Int64) h)))
set_option maxRecDepth 100000 in
theorem tX0_keepSums {p1 : Int32} {p2 : Int32} {p3 : Int64} {p4 : Int64} {h h0 : HS} (H : fX0_keepSums p1 p2 p3 p4 h = some h0) : Cn skC yX0_keepSums cX0_keepSums 17 none 2 [.ref 1, .int p1, .int p2, .long p3, .long p4] h none h0 := by
  refine Cn_of (L := [some (.ref 1), some (.int p1), some (.int p2), some (.long p3), none, some (.long p4), none, none, none, none, none, none, none, none, none, none, none]) (by decide +kernel) (by simp [lg_sl, Value.category]) (fun ad => by simp [lg_sl, tv, Value.category]) (⟨rfl, ⟨rfl, ⟨rfl, ⟨rfl, ⟨rfl, trivial⟩⟩⟩⟩⟩) ?_
  unfold fX0_keepSums at H
  refine j_iload_n (pc := 0) dX0_keepSums_0 rfl ?_
  refine j_i2l (pc := 1) dX0_keepSums_1 ?_
  obtain ⟨v7_1, ev7_1, H⟩ := nm_x H
  refine j_topl ev7_1 ?_
  refine j_lstore (pc := 2) (L' := [some (.ref 1), some (.int p1), some (.int p2), some (.long p3), none, some (.long p4), none, some (.long v7_1), none, none, none, none, none, none, none, none, none]) dX0_keepSums_2 (by decide) rfl ?_
  refine j_ldc2 (pc := 4) dX0_keepSums_4 wkX0_129 ?_
  refine j_lstore (pc := 7) (L' := [some (.ref 1), some (.int p1), some (.int p2), some (.long p3), none, some (.long p4), none, some (.long v7_1), none, some (.long (1099511627776 : Int64)), none, none, none, none, none, none, none]) dX0_keepSums_7 (by decide) rfl ?_
  refine j_ldc2 (pc := 9) dX0_keepSums_9 wkX0_139 ?_
  refine j_lstore (pc := 12) (L' := [some (.ref 1), some (.int p1), some (.int p2), some (.long p3), none, some (.long p4), none, some (.long v7_1), none, some (.long (1099511627776 : Int64)), none, some (.long (-1099511627776 : Int64)), none, none, none, none, none]) dX0_keepSums_12 (by decide) rfl ?_
  refine j_lload (pc := 14) dX0_keepSums_14 rfl ?_
  refine j_lload_n (pc := 16) dX0_keepSums_16 rfl ?_
  refine j_lcmp (pc := 17) dX0_keepSums_17 ?_
  refine j_if_lt (pc := 18) (tgt := 35) dX0_keepSums_18 (by decide) (fun c2 => ?_) (fun c2 => ?_)
  · rw [if_pos c2] at H
    refine Jx.sub (L' := [some (.ref 1), none, some (.int p2), some (.long p3), none, some (.long p4), none, some (.long v7_1), none, some (.long (1099511627776 : Int64)), none, some (.long (-1099511627776 : Int64)), none, none, none, none, none]) (⟨rfl, ⟨rfl, ⟨rfl, ⟨rfl, ⟨rfl, ⟨rfl, ⟨rfl, trivial⟩⟩⟩⟩⟩⟩⟩) ?_
    exact jX0_keepSums_35 p2 p3 p4 v7_1 (1099511627776 : Int64) (-1099511627776 : Int64) h H
  · rw [if_neg c2] at H
    refine j_lload (pc := 21) dX0_keepSums_21 rfl ?_
    refine j_lload (pc := 23) dX0_keepSums_23 rfl ?_
    refine j_lcmp (pc := 25) dX0_keepSums_25 ?_
    refine j_if_gt (pc := 26) (tgt := 35) dX0_keepSums_26 (by decide) (fun c3 => ?_) (fun c3 => ?_)
    · rw [if_pos c3] at H
      refine Jx.sub (L' := [some (.ref 1), none, some (.int p2), some (.long p3), none, some (.long p4), none, some (.long v7_1), none, some (.long (1099511627776 : Int64)), none, some (.long (-1099511627776 : Int64)), none, none, none, none, none]) (⟨rfl, ⟨rfl, ⟨rfl, ⟨rfl, ⟨rfl, ⟨rfl, ⟨rfl, trivial⟩⟩⟩⟩⟩⟩⟩) ?_
      exact jX0_keepSums_35 p2 p3 p4 v7_1 (1099511627776 : Int64) (-1099511627776 : Int64) h H
    · rw [if_neg c3] at H
      refine j_lconst (pc := 29) (v := 0) dX0_keepSums_29 (by decide) ?_
      refine j_lstore (pc := 30) (L' := [some (.ref 1), some (.int p1), some (.int p2), some (.long p3), none, some (.long p4), none, some (.long v7_1), none, some (.long (0 : Int64)), none, some (.long (-1099511627776 : Int64)), none, none, none, none, none]) dX0_keepSums_30 (by decide) rfl ?_
      refine j_lconst (pc := 32) (v := 0) dX0_keepSums_32 (by decide) ?_
      refine j_lstore (pc := 33) (L' := [some (.ref 1), some (.int p1), some (.int p2), some (.long p3), none, some (.long p4), none, some (.long v7_1), none, some (.long (0 : Int64)), none, some (.long (0 : Int64)), none, none, none, none, none]) dX0_keepSums_33 (by decide) rfl ?_
      refine Jx.sub (L' := [some (.ref 1), none, some (.int p2), some (.long p3), none, some (.long p4), none, some (.long v7_1), none, some (.long (0 : Int64)), none, some (.long (0 : Int64)), none, none, none, none, none]) (⟨rfl, ⟨rfl, ⟨rfl, ⟨rfl, ⟨rfl, ⟨rfl, ⟨rfl, trivial⟩⟩⟩⟩⟩⟩⟩) ?_
      exact jX0_keepSums_35 p2 p3 p4 v7_1 (0 : Int64) (0 : Int64) h H

noncomputable def fX0_findSums (p1 : Int32) (h : HS) : Option (Int32 × HS) := bd (fX0_heavyAt p1 h) (fun r2 h1 => bd (fX4_tanksHold h1) (fun r4 h3 => nm ((r2 - r4)) (fun v2_5 => bd (fX0_momentNow h3) (fun r7 h6 => bd (fX4_tanksMoment h6) (fun r9 h8 => nm ((r7 - r9)) (fun v3_10 => bv (fX7_reset 11 (0 : Int64) (1099511627776 : Int64) h8) (fun h11 => bv (fX7_narrow 11 ((v2_5.toInt64)) (1 : Int64) (((-(gI h11 17 0)).toInt64)) (((gI h11 17 0).toInt64)) h11) (fun h12 => bv (fX0_keepSums v3_10 (1 : Int32) (-1099511627776 : Int64) (((gI h12 17 1).toInt64)) h12) (fun h13 => bv (fX0_keepSums v3_10 (0 : Int32) (((-(gI h13 17 1)).toInt64)) (1099511627776 : Int64) h13) (fun h14 => bd (fX7_isEmpty 11 h14) (fun r16 h15 => if r16 = 0 then (some ((1 : Int32), h15)) else (some ((0 : Int32), h15)))))))))))))
set_option maxRecDepth 100000 in
theorem tX0_findSums {p1 : Int32} {r : Int32} {h h0 : HS} (H : fX0_findSums p1 h = some (r, h0)) : Cn skC yX0_findSums cX0_findSums 4 (some .boolean) 3 [.ref 1, .int p1] h (some (.int r)) h0 := by
  refine Cn_of (L := [some (.ref 1), some (.int p1), none, none]) (by decide +kernel) (by simp [lg_sl, Value.category]) (fun ad => by simp [lg_sl, tv, Value.category]) (⟨rfl, ⟨rfl, trivial⟩⟩) ?_
  unfold fX0_findSums at H
  refine j_aload_n (pc := 0) dX0_findSums_0 rfl ?_
  refine j_iload_n (pc := 1) dX0_findSums_1 rfl ?_
  obtain ⟨r2, h1, eh1, H⟩ := bd_x H
  refine j_callV (pc := 2) dX0_findSums_2 mlX0_97 wyX0_heavyAt (tX0_heavyAt eh1) (by decide) rfl rfl rfl rfl (by simp [Value.category]) rfl ?_
  refine j_aload_n (pc := 5) dX0_findSums_5 rfl ?_
  refine j_getR (pc := 6) (b := 2) dX0_findSums_6 flX0_12 rfl ?_
  obtain ⟨r4, h3, eh3, H⟩ := bd_x H
  refine j_callV (pc := 9) dX0_findSums_9 mlX0_123 wyX4_tanksHold (tX4_tanksHold eh3) (by decide) rfl rfl rfl rfl (by simp [Value.category]) rfl ?_
  refine j_isub (pc := 12) dX0_findSums_12 ?_
  obtain ⟨v2_5, ev2_5, H⟩ := nm_x H
  refine j_topi ev2_5 ?_
  refine j_istore_n (pc := 13) (L' := [some (.ref 1), some (.int p1), some (.int v2_5), none]) dX0_findSums_13 (by decide) rfl ?_
  refine j_aload_n (pc := 14) dX0_findSums_14 rfl ?_
  obtain ⟨r7, h6, eh6, H⟩ := bd_x H
  refine j_callV (pc := 15) dX0_findSums_15 mlX0_86 wyX0_momentNow (tX0_momentNow eh6) (by decide) rfl rfl rfl rfl (by simp [Value.category]) rfl ?_
  refine j_aload_n (pc := 18) dX0_findSums_18 rfl ?_
  refine j_getR (pc := 19) (b := 2) dX0_findSums_19 flX0_12 rfl ?_
  obtain ⟨r9, h8, eh8, H⟩ := bd_x H
  refine j_callV (pc := 22) dX0_findSums_22 mlX0_126 wyX4_tanksMoment (tX4_tanksMoment eh8) (by decide) rfl rfl rfl rfl (by simp [Value.category]) rfl ?_
  refine j_isub (pc := 25) dX0_findSums_25 ?_
  obtain ⟨v3_10, ev3_10, H⟩ := nm_x H
  refine j_topi ev3_10 ?_
  refine j_istore_n (pc := 26) (L' := [some (.ref 1), some (.int p1), some (.int v2_5), some (.int v3_10)]) dX0_findSums_26 (by decide) rfl ?_
  refine j_aload_n (pc := 27) dX0_findSums_27 rfl ?_
  refine j_getR (pc := 28) (b := 11) dX0_findSums_28 flX0_53 rfl ?_
  refine j_lconst (pc := 31) (v := 0) dX0_findSums_31 (by decide) ?_
  refine j_ldc2 (pc := 32) dX0_findSums_32 wkX0_129 ?_
  obtain ⟨h11, eh11, H⟩ := bv_x H
  refine j_callV (pc := 35) dX0_findSums_35 mlX0_131 wyX7_reset (tX7_reset rfl eh11) (by decide) rfl rfl rfl rfl (by simp [Value.category]) rfl ?_
  refine j_aload_n (pc := 38) dX0_findSums_38 rfl ?_
  refine j_getR (pc := 39) (b := 11) dX0_findSums_39 flX0_53 rfl ?_
  refine j_iload_n (pc := 42) dX0_findSums_42 rfl ?_
  refine j_i2l (pc := 43) dX0_findSums_43 ?_
  refine j_lconst (pc := 44) (v := 1) dX0_findSums_44 (by decide) ?_
  refine j_aload_n (pc := 45) dX0_findSums_45 rfl ?_
  refine j_getR (pc := 46) (b := 17) dX0_findSums_46 flX0_25 rfl ?_
  refine j_iconst (pc := 49) (v := 0) dX0_findSums_49 (by decide) ?_
  refine j_iaload (pc := 50) (j := 0) dX0_findSums_50 rfl (by decide) (by decide) ?_
  refine j_ineg (pc := 51) dX0_findSums_51 ?_
  refine j_i2l (pc := 52) dX0_findSums_52 ?_
  refine j_aload_n (pc := 53) dX0_findSums_53 rfl ?_
  refine j_getR (pc := 54) (b := 17) dX0_findSums_54 flX0_25 rfl ?_
  refine j_iconst (pc := 57) (v := 0) dX0_findSums_57 (by decide) ?_
  refine j_iaload (pc := 58) (j := 0) dX0_findSums_58 rfl (by decide) (by decide) ?_
  refine j_i2l (pc := 59) dX0_findSums_59 ?_
  obtain ⟨h12, eh12, H⟩ := bv_x H
  refine j_callV (pc := 60) dX0_findSums_60 mlX0_135 wyX7_narrow (tX7_narrow rfl eh12) (by decide) rfl rfl rfl rfl (by simp [Value.category]) rfl ?_
  refine j_aload_n (pc := 63) dX0_findSums_63 rfl ?_
  refine j_iload_n (pc := 64) dX0_findSums_64 rfl ?_
  refine j_iconst (pc := 65) (v := 1) dX0_findSums_65 (by decide) ?_
  refine j_ldc2 (pc := 66) dX0_findSums_66 wkX0_139 ?_
  refine j_aload_n (pc := 69) dX0_findSums_69 rfl ?_
  refine j_getR (pc := 70) (b := 17) dX0_findSums_70 flX0_25 rfl ?_
  refine j_iconst (pc := 73) (v := 1) dX0_findSums_73 (by decide) ?_
  refine j_iaload (pc := 74) (j := 1) dX0_findSums_74 rfl (by decide) (by decide) ?_
  refine j_i2l (pc := 75) dX0_findSums_75 ?_
  obtain ⟨h13, eh13, H⟩ := bv_x H
  refine j_callV (pc := 76) dX0_findSums_76 mlX0_141 wyX0_keepSums (tX0_keepSums eh13) (by decide) rfl rfl rfl rfl (by simp [Value.category]) rfl ?_
  refine j_aload_n (pc := 79) dX0_findSums_79 rfl ?_
  refine j_iload_n (pc := 80) dX0_findSums_80 rfl ?_
  refine j_iconst (pc := 81) (v := 0) dX0_findSums_81 (by decide) ?_
  refine j_aload_n (pc := 82) dX0_findSums_82 rfl ?_
  refine j_getR (pc := 83) (b := 17) dX0_findSums_83 flX0_25 rfl ?_
  refine j_iconst (pc := 86) (v := 1) dX0_findSums_86 (by decide) ?_
  refine j_iaload (pc := 87) (j := 1) dX0_findSums_87 rfl (by decide) (by decide) ?_
  refine j_ineg (pc := 88) dX0_findSums_88 ?_
  refine j_i2l (pc := 89) dX0_findSums_89 ?_
  refine j_ldc2 (pc := 90) dX0_findSums_90 wkX0_129 ?_
  obtain ⟨h14, eh14, H⟩ := bv_x H
  refine j_callV (pc := 93) dX0_findSums_93 mlX0_141 wyX0_keepSums (tX0_keepSums eh14) (by decide) rfl rfl rfl rfl (by simp [Value.category]) rfl ?_
  refine j_aload_n (pc := 96) dX0_findSums_96 rfl ?_
  refine j_getR (pc := 97) (b := 11) dX0_findSums_97 flX0_53 rfl ?_
  obtain ⟨r16, h15, eh15, H⟩ := bd_x H
  refine j_callV (pc := 100) dX0_findSums_100 mlX0_145 wyX7_isEmpty (tX7_isEmpty rfl eh15) (by decide) rfl rfl rfl rfl (by simp [Value.category]) rfl ?_
  refine j_if_ne (pc := 103) (tgt := 110) dX0_findSums_103 (by decide) (fun c17 => ?_) (fun c17 => ?_)
  · rw [if_neg c17] at H
    refine j_iconst (pc := 110) (v := 0) dX0_findSums_110 (by decide) ?_
    exact j_zreturn (pc := 111) dX0_findSums_111 rfl (rz0 H) (ri_2 H)
  · rw [if_pos c17] at H
    refine j_iconst (pc := 106) (v := 1) dX0_findSums_106 (by decide) ?_
    refine j_goto (pc := 107) (tgt := 111) dX0_findSums_107 (by decide) ?_
    exact j_zreturn (pc := 111) dX0_findSums_111 rfl (rz1 H) (ri_2 H)

noncomputable def fX0_numberNow (p1 : Int32) (p2 : Int32) (h : HS) : Option (Int32 × HS) := if p1 = 0 then (bd (fX0_heavyAt p2 h) (fun r8 h7 => some (r8, h7))) else (if p1 = (1 : Int32) then (bd (fX0_momentNow h) (fun r6 h5 => some (r6, h5))) else (bd (fX0_listNow h) (fun r4 h3 => some (r4, h3))))
set_option maxRecDepth 100000 in
theorem tX0_numberNow {p1 : Int32} {p2 : Int32} {r : Int32} {h h0 : HS} (H : fX0_numberNow p1 p2 h = some (r, h0)) : Cn skC yX0_numberNow cX0_numberNow 3 (some .int) 3 [.ref 1, .int p1, .int p2] h (some (.int r)) h0 := by
  refine Cn_of (L := [some (.ref 1), some (.int p1), some (.int p2)]) (by decide +kernel) (by simp [lg_sl, Value.category]) (fun ad => by simp [lg_sl, tv, Value.category]) (⟨rfl, ⟨rfl, ⟨rfl, trivial⟩⟩⟩) ?_
  unfold fX0_numberNow at H
  refine j_iload_n (pc := 0) dX0_numberNow_0 rfl ?_
  refine j_if_ne (pc := 1) (tgt := 10) dX0_numberNow_1 (by decide) (fun c1 => ?_) (fun c1 => ?_)
  · rw [if_neg c1] at H
    refine j_iload_n (pc := 10) dX0_numberNow_10 rfl ?_
    refine j_iconst (pc := 11) (v := 1) dX0_numberNow_11 (by decide) ?_
    refine j_icmp_ne (pc := 12) (tgt := 22) dX0_numberNow_12 (by decide) (fun c2 => ?_) (fun c2 => ?_)
    · rw [if_neg c2] at H
      refine j_aload_n (pc := 22) dX0_numberNow_22 rfl ?_
      obtain ⟨r4, h3, eh3, H⟩ := bd_x H
      refine j_callV (pc := 23) dX0_numberNow_23 mlX0_94 wyX0_listNow (tX0_listNow eh3) (by decide) rfl rfl rfl rfl (by simp [Value.category]) rfl ?_
      exact j_ireturn (pc := 26) dX0_numberNow_26 rfl (ri_1 H) (ri_2 H)
    · rw [if_pos c2] at H
      refine j_aload_n (pc := 15) dX0_numberNow_15 rfl ?_
      obtain ⟨r6, h5, eh5, H⟩ := bd_x H
      refine j_callV (pc := 16) dX0_numberNow_16 mlX0_86 wyX0_momentNow (tX0_momentNow eh5) (by decide) rfl rfl rfl rfl (by simp [Value.category]) rfl ?_
      refine j_goto (pc := 19) (tgt := 26) dX0_numberNow_19 (by decide) ?_
      exact j_ireturn (pc := 26) dX0_numberNow_26 rfl (ri_1 H) (ri_2 H)
  · rw [if_pos c1] at H
    refine j_aload_n (pc := 4) dX0_numberNow_4 rfl ?_
    refine j_iload_n (pc := 5) dX0_numberNow_5 rfl ?_
    obtain ⟨r8, h7, eh7, H⟩ := bd_x H
    refine j_callV (pc := 6) dX0_numberNow_6 mlX0_97 wyX0_heavyAt (tX0_heavyAt eh7) (by decide) rfl rfl rfl rfl (by simp [Value.category]) rfl ?_
    exact j_ireturn (pc := 9) dX0_numberNow_9 rfl (ri_1 H) (ri_2 H)

noncomputable def fX0_keepUnder (p1 : Int32) (h : HS) : Option HS := ck (inb p1 3) (ck (cpok (0 : Int32) (0 : Int32) (15 : Int32) 15 15) (nm (cpI h 30 (19 + p1.toNatClampNeg) (0 : Int32).toNatClampNeg (0 : Int32).toNatClampNeg (15 : Int32).toNatClampNeg) (fun h3 => ck (inb p1 3) (nm (pI h3 22 p1.toNatClampNeg (gI h3 2 8)) (fun h4 => ck (inb p1 3) (nm (pI h4 23 p1.toNatClampNeg (gI h4 1 6)) (fun h6 => ck (inb p1 3) (nm (pI h6 24 p1.toNatClampNeg (gI h6 1 7)) (fun h8 => ck (inb p1 3) (nm (pI h8 25 p1.toNatClampNeg (gI h8 1 8)) (fun h10 => some h10)))))))))))
set_option maxRecDepth 100000 in
theorem tX0_keepUnder {p1 : Int32} {h h0 : HS} (H : fX0_keepUnder p1 h = some h0) : Cn skC yX0_keepUnder cX0_keepUnder 2 none 0 [.ref 1, .int p1] h none h0 := by
  refine Cn_of (L := [some (.ref 1), some (.int p1)]) (by decide +kernel) (by simp [lg_sl, Value.category]) (fun ad => by simp [lg_sl, tv, Value.category]) (⟨rfl, ⟨rfl, trivial⟩⟩) ?_
  unfold fX0_keepUnder at H
  refine j_aload_n (pc := 0) dX0_keepUnder_0 rfl ?_
  refine j_getR (pc := 1) (b := 2) dX0_keepUnder_1 flX0_12 rfl ?_
  refine j_getR (pc := 4) (b := 30) dX0_keepUnder_4 flX0_105 rfl ?_
  refine j_iconst (pc := 7) (v := 0) dX0_keepUnder_7 (by decide) ?_
  refine j_aload_n (pc := 8) dX0_keepUnder_8 rfl ?_
  refine j_getR (pc := 9) (b := 18) dX0_keepUnder_9 flX0_35 rfl ?_
  refine j_iload_n (pc := 12) dX0_keepUnder_12 rfl ?_
  obtain ⟨b1, H⟩ := ck_x H
  refine j_aaload (pc := 13) dX0_keepUnder_13 rfl b1 ?_
  refine j_iconst (pc := 14) (v := 0) dX0_keepUnder_14 (by decide) ?_
  refine j_bipush (pc := 15) (v := 15) dX0_keepUnder_15 (by decide) ?_
  obtain ⟨b2, H⟩ := ck_x H
  obtain ⟨h3, eh3, H⟩ := nm_x H
  refine j_copyB (pc := 17) dX0_keepUnder_17 wcX0_108 rfl (row_18 b1) b2 (by decide) h3 eh3 ?_
  refine j_aload_n (pc := 20) dX0_keepUnder_20 rfl ?_
  refine j_getR (pc := 21) (b := 22) dX0_keepUnder_21 flX0_38 rfl ?_
  refine j_iload_n (pc := 24) dX0_keepUnder_24 rfl ?_
  refine j_aload_n (pc := 25) dX0_keepUnder_25 rfl ?_
  refine j_getR (pc := 26) (b := 2) dX0_keepUnder_26 flX0_12 rfl ?_
  refine j_getI (pc := 29) dX0_keepUnder_29 flX0_114 rfl ?_
  obtain ⟨b5, H⟩ := ck_x H
  obtain ⟨h4, eh4, H⟩ := nm_x H
  refine j_iastore (pc := 32) dX0_keepUnder_32 rfl b5 rfl h4 eh4 ?_
  refine j_aload_n (pc := 33) dX0_keepUnder_33 rfl ?_
  refine j_getR (pc := 34) (b := 23) dX0_keepUnder_34 flX0_41 rfl ?_
  refine j_iload_n (pc := 37) dX0_keepUnder_37 rfl ?_
  refine j_aload_n (pc := 38) dX0_keepUnder_38 rfl ?_
  refine j_getI (pc := 39) dX0_keepUnder_39 flX0_117 rfl ?_
  obtain ⟨b7, H⟩ := ck_x H
  obtain ⟨h6, eh6, H⟩ := nm_x H
  refine j_iastore (pc := 42) dX0_keepUnder_42 rfl b7 rfl h6 eh6 ?_
  refine j_aload_n (pc := 43) dX0_keepUnder_43 rfl ?_
  refine j_getR (pc := 44) (b := 24) dX0_keepUnder_44 flX0_44 rfl ?_
  refine j_iload_n (pc := 47) dX0_keepUnder_47 rfl ?_
  refine j_aload_n (pc := 48) dX0_keepUnder_48 rfl ?_
  refine j_getI (pc := 49) dX0_keepUnder_49 flX0_120 rfl ?_
  obtain ⟨b9, H⟩ := ck_x H
  obtain ⟨h8, eh8, H⟩ := nm_x H
  refine j_iastore (pc := 52) dX0_keepUnder_52 rfl b9 rfl h8 eh8 ?_
  refine j_aload_n (pc := 53) dX0_keepUnder_53 rfl ?_
  refine j_getR (pc := 54) (b := 25) dX0_keepUnder_54 flX0_47 rfl ?_
  refine j_iload_n (pc := 57) dX0_keepUnder_57 rfl ?_
  refine j_aload_n (pc := 58) dX0_keepUnder_58 rfl ?_
  refine j_getI (pc := 59) dX0_keepUnder_59 flX0_29 rfl ?_
  obtain ⟨b11, H⟩ := ck_x H
  obtain ⟨h10, eh10, H⟩ := nm_x H
  refine j_iastore (pc := 62) dX0_keepUnder_62 rfl b11 rfl h10 eh10 ?_
  exact j_return (pc := 63) dX0_keepUnder_63 rfl rfl (rv_2 H)

noncomputable def fX0_takeAgain (p1 : Int32) (h : HS) : Option HS := ck (inb p1 3) (ck (inb p1 3) (ck (cpok (0 : Int32) (0 : Int32) (gI h 22 p1.toNatClampNeg) 15 15) (nm (cpI h (19 + p1.toNatClampNeg) 30 (0 : Int32).toNatClampNeg (0 : Int32).toNatClampNeg (gI h 22 p1.toNatClampNeg).toNatClampNeg) (fun h4 => ck (inb p1 3) (nm (pI h4 1 6 (gI h4 23 p1.toNatClampNeg)) (fun h6 => ck (inb p1 3) (nm (pI h6 1 7 (gI h6 24 p1.toNatClampNeg)) (fun h8 => ck (inb p1 3) (nm (pI h8 1 8 (gI h8 25 p1.toNatClampNeg)) (fun h10 => some h10))))))))))
set_option maxRecDepth 100000 in
theorem tX0_takeAgain {p1 : Int32} {h h0 : HS} (H : fX0_takeAgain p1 h = some h0) : Cn skC yX0_takeAgain cX0_takeAgain 2 none 0 [.ref 1, .int p1] h none h0 := by
  refine Cn_of (L := [some (.ref 1), some (.int p1)]) (by decide +kernel) (by simp [lg_sl, Value.category]) (fun ad => by simp [lg_sl, tv, Value.category]) (⟨rfl, ⟨rfl, trivial⟩⟩) ?_
  unfold fX0_takeAgain at H
  refine j_aload_n (pc := 0) dX0_takeAgain_0 rfl ?_
  refine j_getR (pc := 1) (b := 18) dX0_takeAgain_1 flX0_35 rfl ?_
  refine j_iload_n (pc := 4) dX0_takeAgain_4 rfl ?_
  obtain ⟨b1, H⟩ := ck_x H
  refine j_aaload (pc := 5) dX0_takeAgain_5 rfl b1 ?_
  refine j_iconst (pc := 6) (v := 0) dX0_takeAgain_6 (by decide) ?_
  refine j_aload_n (pc := 7) dX0_takeAgain_7 rfl ?_
  refine j_getR (pc := 8) (b := 2) dX0_takeAgain_8 flX0_12 rfl ?_
  refine j_getR (pc := 11) (b := 30) dX0_takeAgain_11 flX0_105 rfl ?_
  refine j_iconst (pc := 14) (v := 0) dX0_takeAgain_14 (by decide) ?_
  refine j_aload_n (pc := 15) dX0_takeAgain_15 rfl ?_
  refine j_getR (pc := 16) (b := 22) dX0_takeAgain_16 flX0_38 rfl ?_
  refine j_iload_n (pc := 19) dX0_takeAgain_19 rfl ?_
  obtain ⟨b2, H⟩ := ck_x H
  refine j_iaload (pc := 20) dX0_takeAgain_20 rfl b2 rfl ?_
  obtain ⟨b3, H⟩ := ck_x H
  obtain ⟨h4, eh4, H⟩ := nm_x H
  refine j_copyB (pc := 21) dX0_takeAgain_21 wcX0_108 (row_18 b1) rfl b3 (by decide) h4 eh4 ?_
  refine j_aload_n (pc := 24) dX0_takeAgain_24 rfl ?_
  refine j_aload_n (pc := 25) dX0_takeAgain_25 rfl ?_
  refine j_getR (pc := 26) (b := 23) dX0_takeAgain_26 flX0_41 rfl ?_
  refine j_iload_n (pc := 29) dX0_takeAgain_29 rfl ?_
  obtain ⟨b5, H⟩ := ck_x H
  refine j_iaload (pc := 30) dX0_takeAgain_30 rfl b5 rfl ?_
  obtain ⟨h6, eh6, H⟩ := nm_x H
  refine j_putI (pc := 31) dX0_takeAgain_31 fpX0_117 rfl h6 eh6 ?_
  refine j_aload_n (pc := 34) dX0_takeAgain_34 rfl ?_
  refine j_aload_n (pc := 35) dX0_takeAgain_35 rfl ?_
  refine j_getR (pc := 36) (b := 24) dX0_takeAgain_36 flX0_44 rfl ?_
  refine j_iload_n (pc := 39) dX0_takeAgain_39 rfl ?_
  obtain ⟨b7, H⟩ := ck_x H
  refine j_iaload (pc := 40) dX0_takeAgain_40 rfl b7 rfl ?_
  obtain ⟨h8, eh8, H⟩ := nm_x H
  refine j_putI (pc := 41) dX0_takeAgain_41 fpX0_120 rfl h8 eh8 ?_
  refine j_aload_n (pc := 44) dX0_takeAgain_44 rfl ?_
  refine j_aload_n (pc := 45) dX0_takeAgain_45 rfl ?_
  refine j_getR (pc := 46) (b := 25) dX0_takeAgain_46 flX0_47 rfl ?_
  refine j_iload_n (pc := 49) dX0_takeAgain_49 rfl ?_
  obtain ⟨b9, H⟩ := ck_x H
  refine j_iaload (pc := 50) dX0_takeAgain_50 rfl b9 rfl ?_
  obtain ⟨h10, eh10, H⟩ := nm_x H
  refine j_putI (pc := 51) dX0_takeAgain_51 fpX0_29 rfl h10 eh10 ?_
  exact j_return (pc := 54) dX0_takeAgain_54 rfl rfl (rv_2 H)

noncomputable def fX0_draw (p1 : Int32) (h : HS) : Option (Int32 × HS) := nm (pI h 1 8 (((gI h 1 8) * (1103515245 : Int32)) + (12345 : Int32))) (fun h1 => if p1 ≤ 0 then (some ((0 : Int32), h1)) else (ck (nz p1) (some ((irm (iush (gI h1 1 8) (16 : Int32)) p1), h1))))
set_option maxRecDepth 100000 in
theorem tX0_draw {p1 : Int32} {r : Int32} {h h0 : HS} (H : fX0_draw p1 h = some (r, h0)) : Cn skC yX0_draw cX0_draw 2 (some .int) 0 [.ref 1, .int p1] h (some (.int r)) h0 := by
  refine Cn_of (L := [some (.ref 1), some (.int p1)]) (by decide +kernel) (by simp [lg_sl, Value.category]) (fun ad => by simp [lg_sl, tv, Value.category]) (⟨rfl, ⟨rfl, trivial⟩⟩) ?_
  unfold fX0_draw at H
  refine j_aload_n (pc := 0) dX0_draw_0 rfl ?_
  refine j_aload_n (pc := 1) dX0_draw_1 rfl ?_
  refine j_getI (pc := 2) dX0_draw_2 flX0_29 rfl ?_
  refine j_ldc (pc := 5) dX0_draw_5 wkX0_104 ?_
  refine j_imul (pc := 7) dX0_draw_7 ?_
  refine j_sipush (pc := 8) (v := 12345) dX0_draw_8 (by decide) ?_
  refine j_iadd (pc := 11) dX0_draw_11 ?_
  obtain ⟨h1, eh1, H⟩ := nm_x H
  refine j_putI (pc := 12) dX0_draw_12 fpX0_29 rfl h1 eh1 ?_
  refine j_iload_n (pc := 15) dX0_draw_15 rfl ?_
  refine j_if_le (pc := 16) (tgt := 31) dX0_draw_16 (by decide) (fun c2 => ?_) (fun c2 => ?_)
  · rw [if_pos c2] at H
    refine j_iconst (pc := 31) (v := 0) dX0_draw_31 (by decide) ?_
    exact j_ireturn (pc := 32) dX0_draw_32 rfl (ri_1 H) (ri_2 H)
  · rw [if_neg c2] at H
    refine j_aload_n (pc := 19) dX0_draw_19 rfl ?_
    refine j_getI (pc := 20) dX0_draw_20 flX0_29 rfl ?_
    refine j_bipush (pc := 23) (v := 16) dX0_draw_23 (by decide) ?_
    refine j_iushr (pc := 25) dX0_draw_25 ?_
    refine j_iload_n (pc := 26) dX0_draw_26 rfl ?_
    obtain ⟨b3, H⟩ := ck_x H
    refine j_irem (pc := 27) dX0_draw_27 (nz_x b3) ?_
    refine j_goto (pc := 28) (tgt := 32) dX0_draw_28 (by decide) ?_
    exact j_ireturn (pc := 32) dX0_draw_32 rfl (ri_1 H) (ri_2 H)
