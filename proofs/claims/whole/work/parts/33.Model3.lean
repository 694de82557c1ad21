theorem dX12_canReach_0 : decode cX12_canReach 0 = .ok (.aload_n 0, 1) := by decide +kernel
theorem dX12_canReach_1 : decode cX12_canReach 1 = .ok (.invokevirtual 316, 3) := by decide +kernel
theorem dX12_canReach_4 : decode cX12_canReach 4 = .ok (.iconst 0, 1) := by decide +kernel
theorem dX12_canReach_5 : decode cX12_canReach 5 = .ok (.istore_n 2, 1) := by decide +kernel
theorem dX12_canReach_6 : decode cX12_canReach 6 = .ok (.aload_n 0, 1) := by decide +kernel
theorem dX12_canReach_7 : decode cX12_canReach 7 = .ok (.iload_n 1, 1) := by decide +kernel
theorem dX12_canReach_8 : decode cX12_canReach 8 = .ok (.invokevirtual 198, 3) := by decide +kernel
theorem dX12_canReach_11 : decode cX12_canReach 11 = .ok (.istore_n 3, 1) := by decide +kernel
theorem dX12_canReach_12 : decode cX12_canReach 12 = .ok (.aload_n 0, 1) := by decide +kernel
theorem dX12_canReach_13 : decode cX12_canReach 13 = .ok (.iconst 0, 1) := by decide +kernel
theorem dX12_canReach_14 : decode cX12_canReach 14 = .ok (.invokevirtual 204, 3) := by decide +kernel
theorem dX12_canReach_17 : decode cX12_canReach 17 = .ok (.istore 4, 2) := by decide +kernel
theorem dX12_canReach_19 : decode cX12_canReach 19 = .ok (.iconst 0, 1) := by decide +kernel
theorem dX12_canReach_20 : decode cX12_canReach 20 = .ok (.istore 5, 2) := by decide +kernel
theorem dX12_canReach_22 : decode cX12_canReach 22 = .ok (.iload 5, 2) := by decide +kernel
theorem dX12_canReach_24 : decode cX12_canReach 24 = .ok (.aload_n 0, 1) := by decide +kernel
theorem dX12_canReach_25 : decode cX12_canReach 25 = .ok (.getfield 313, 3) := by decide +kernel
theorem dX12_canReach_28 : decode cX12_canReach 28 = .ok (.if_icmp .ge 69, 3) := by decide +kernel
theorem dX12_canReach_31 : decode cX12_canReach 31 = .ok (.iload_n 2, 1) := by decide +kernel
theorem dX12_canReach_32 : decode cX12_canReach 32 = .ok (.aload_n 0, 1) := by decide +kernel
theorem dX12_canReach_33 : decode cX12_canReach 33 = .ok (.getfield 19, 3) := by decide +kernel
theorem dX12_canReach_36 : decode cX12_canReach 36 = .ok (.aload_n 0, 1) := by decide +kernel
theorem dX12_canReach_37 : decode cX12_canReach 37 = .ok (.getfield 79, 3) := by decide +kernel
theorem dX12_canReach_40 : decode cX12_canReach 40 = .ok (.iload 5, 2) := by decide +kernel
theorem dX12_canReach_42 : decode cX12_canReach 42 = .ok (.iaload, 1) := by decide +kernel
theorem dX12_canReach_43 : decode cX12_canReach 43 = .ok (.iaload, 1) := by decide +kernel
theorem dX12_canReach_44 : decode cX12_canReach 44 = .ok (.iadd, 1) := by decide +kernel
theorem dX12_canReach_45 : decode cX12_canReach 45 = .ok (.istore_n 2, 1) := by decide +kernel
theorem dX12_canReach_46 : decode cX12_canReach 46 = .ok (.iload_n 3, 1) := by decide +kernel
theorem dX12_canReach_47 : decode cX12_canReach 47 = .ok (.aload_n 0, 1) := by decide +kernel
theorem dX12_canReach_48 : decode cX12_canReach 48 = .ok (.getfield 22, 3) := by decide +kernel
theorem dX12_canReach_51 : decode cX12_canReach 51 = .ok (.aload_n 0, 1) := by decide +kernel
theorem dX12_canReach_52 : decode cX12_canReach 52 = .ok (.getfield 79, 3) := by decide +kernel
theorem dX12_canReach_55 : decode cX12_canReach 55 = .ok (.iload 5, 2) := by decide +kernel
theorem dX12_canReach_57 : decode cX12_canReach 57 = .ok (.iaload, 1) := by decide +kernel
theorem dX12_canReach_58 : decode cX12_canReach 58 = .ok (.iaload, 1) := by decide +kernel
theorem dX12_canReach_59 : decode cX12_canReach 59 = .ok (.isub, 1) := by decide +kernel
theorem dX12_canReach_60 : decode cX12_canReach 60 = .ok (.istore_n 3, 1) := by decide +kernel
theorem dX12_canReach_61 : decode cX12_canReach 61 = .ok (.iload 4, 2) := by decide +kernel
theorem dX12_canReach_63 : decode cX12_canReach 63 = .ok (.aload_n 0, 1) := by decide +kernel
theorem dX12_canReach_64 : decode cX12_canReach 64 = .ok (.getfield 13, 3) := by decide +kernel
theorem dX12_canReach_67 : decode cX12_canReach 67 = .ok (.aload_n 0, 1) := by decide +kernel
theorem dX12_canReach_68 : decode cX12_canReach 68 = .ok (.getfield 79, 3) := by decide +kernel
theorem dX12_canReach_71 : decode cX12_canReach 71 = .ok (.iload 5, 2) := by decide +kernel
theorem dX12_canReach_73 : decode cX12_canReach 73 = .ok (.iaload, 1) := by decide +kernel
theorem dX12_canReach_74 : decode cX12_canReach 74 = .ok (.iaload, 1) := by decide +kernel
theorem dX12_canReach_75 : decode cX12_canReach 75 = .ok (.aload_n 0, 1) := by decide +kernel
theorem dX12_canReach_76 : decode cX12_canReach 76 = .ok (.getfield 22, 3) := by decide +kernel
theorem dX12_canReach_79 : decode cX12_canReach 79 = .ok (.aload_n 0, 1) := by decide +kernel
theorem dX12_canReach_80 : decode cX12_canReach 80 = .ok (.getfield 79, 3) := by decide +kernel
theorem dX12_canReach_83 : decode cX12_canReach 83 = .ok (.iload 5, 2) := by decide +kernel
theorem dX12_canReach_85 : decode cX12_canReach 85 = .ok (.iaload, 1) := by decide +kernel
theorem dX12_canReach_86 : decode cX12_canReach 86 = .ok (.iaload, 1) := by decide +kernel
theorem dX12_canReach_87 : decode cX12_canReach 87 = .ok (.imul, 1) := by decide +kernel
theorem dX12_canReach_88 : decode cX12_canReach 88 = .ok (.isub, 1) := by decide +kernel
theorem dX12_canReach_89 : decode cX12_canReach 89 = .ok (.istore 4, 2) := by decide +kernel
theorem dX12_canReach_91 : decode cX12_canReach 91 = .ok (.iinc 5 1, 3) := by decide +kernel
theorem dX12_canReach_94 : decode cX12_canReach 94 = .ok (.goto (-72), 3) := by decide +kernel
theorem dX12_canReach_97 : decode cX12_canReach 97 = .ok (.aload_n 0, 1) := by decide +kernel
theorem dX12_canReach_98 : decode cX12_canReach 98 = .ok (.iconst (-1), 1) := by decide +kernel
theorem dX12_canReach_99 : decode cX12_canReach 99 = .ok (.putfield 319, 3) := by decide +kernel
theorem dX12_canReach_102 : decode cX12_canReach 102 = .ok (.aload_n 0, 1) := by decide +kernel
theorem dX12_canReach_103 : decode cX12_canReach 103 = .ok (.iconst (-1), 1) := by decide +kernel
theorem dX12_canReach_104 : decode cX12_canReach 104 = .ok (.putfield 322, 3) := by decide +kernel
theorem dX12_canReach_107 : decode cX12_canReach 107 = .ok (.iconst 0, 1) := by decide +kernel
theorem dX12_canReach_108 : decode cX12_canReach 108 = .ok (.aload_n 0, 1) := by decide +kernel
theorem dX12_canReach_109 : decode cX12_canReach 109 = .ok (.getfield 35, 3) := by decide +kernel
theorem dX12_canReach_112 : decode cX12_canReach 112 = .ok (.iconst 0, 1) := by decide +kernel
theorem dX12_canReach_113 : decode cX12_canReach 113 = .ok (.iaload, 1) := by decide +kernel
theorem dX12_canReach_114 : decode cX12_canReach 114 = .ok (.ineg, 1) := by decide +kernel
theorem dX12_canReach_115 : decode cX12_canReach 115 = .ok (.iload_n 3, 1) := by decide +kernel
theorem dX12_canReach_116 : decode cX12_canReach 116 = .ok (.isub, 1) := by decide +kernel
theorem dX12_canReach_117 : decode cX12_canReach 117 = .ok (.invokestatic 159, 3) := by decide +kernel
theorem dX12_canReach_120 : decode cX12_canReach 120 = .ok (.istore 5, 2) := by decide +kernel
theorem dX12_canReach_122 : decode cX12_canReach 122 = .ok (.iload 5, 2) := by decide +kernel
theorem dX12_canReach_124 : decode cX12_canReach 124 = .ok (.iload_n 2, 1) := by decide +kernel
theorem dX12_canReach_125 : decode cX12_canReach 125 = .ok (.if_icmp .gt 91, 3) := by decide +kernel
theorem dX12_canReach_128 : decode cX12_canReach 128 = .ok (.iload 5, 2) := by decide +kernel
theorem dX12_canReach_130 : decode cX12_canReach 130 = .ok (.aload_n 0, 1) := by decide +kernel
theorem dX12_canReach_131 : decode cX12_canReach 131 = .ok (.getfield 35, 3) := by decide +kernel
theorem dX12_canReach_134 : decode cX12_canReach 134 = .ok (.iconst 0, 1) := by decide +kernel
theorem dX12_canReach_135 : decode cX12_canReach 135 = .ok (.iaload, 1) := by decide +kernel
theorem dX12_canReach_136 : decode cX12_canReach 136 = .ok (.iload_n 3, 1) := by decide +kernel
theorem dX12_canReach_137 : decode cX12_canReach 137 = .ok (.isub, 1) := by decide +kernel
theorem dX12_canReach_138 : decode cX12_canReach 138 = .ok (.if_icmp .gt 78, 3) := by decide +kernel
theorem dX12_canReach_141 : decode cX12_canReach 141 = .ok (.iload 4, 2) := by decide +kernel
theorem dX12_canReach_143 : decode cX12_canReach 143 = .ok (.aload_n 0, 1) := by decide +kernel
theorem dX12_canReach_144 : decode cX12_canReach 144 = .ok (.iload 5, 2) := by decide +kernel
theorem dX12_canReach_146 : decode cX12_canReach 146 = .ok (.iconst 1, 1) := by decide +kernel
theorem dX12_canReach_147 : decode cX12_canReach 147 = .ok (.invokevirtual 325, 3) := by decide +kernel
theorem dX12_canReach_150 : decode cX12_canReach 150 = .ok (.iadd, 1) := by decide +kernel
theorem dX12_canReach_151 : decode cX12_canReach 151 = .ok (.aload_n 0, 1) := by decide +kernel
theorem dX12_canReach_152 : decode cX12_canReach 152 = .ok (.getfield 35, 3) := by decide +kernel
theorem dX12_canReach_155 : decode cX12_canReach 155 = .ok (.iconst 1, 1) := by decide +kernel
theorem dX12_canReach_156 : decode cX12_canReach 156 = .ok (.iaload, 1) := by decide +kernel
theorem dX12_canReach_157 : decode cX12_canReach 157 = .ok (.if_icmp .gt 53, 3) := by decide +kernel
theorem dX12_canReach_160 : decode cX12_canReach 160 = .ok (.iload 4, 2) := by decide +kernel
theorem dX12_canReach_162 : decode cX12_canReach 162 = .ok (.aload_n 0, 1) := by decide +kernel
theorem dX12_canReach_163 : decode cX12_canReach 163 = .ok (.iload 5, 2) := by decide +kernel
theorem dX12_canReach_165 : decode cX12_canReach 165 = .ok (.iconst 0, 1) := by decide +kernel
theorem dX12_canReach_166 : decode cX12_canReach 166 = .ok (.invokevirtual 325, 3) := by decide +kernel
theorem dX12_canReach_169 : decode cX12_canReach 169 = .ok (.iadd, 1) := by decide +kernel
theorem dX12_canReach_170 : decode cX12_canReach 170 = .ok (.aload_n 0, 1) := by decide +kernel
theorem dX12_canReach_171 : decode cX12_canReach 171 = .ok (.getfield 35, 3) := by decide +kernel
theorem dX12_canReach_174 : decode cX12_canReach 174 = .ok (.iconst 1, 1) := by decide +kernel
theorem dX12_canReach_175 : decode cX12_canReach 175 = .ok (.iaload, 1) := by decide +kernel
theorem dX12_canReach_176 : decode cX12_canReach 176 = .ok (.ineg, 1) := by decide +kernel
theorem dX12_canReach_177 : decode cX12_canReach 177 = .ok (.if_icmp .ge 6, 3) := by decide +kernel
theorem dX12_canReach_180 : decode cX12_canReach 180 = .ok (.goto 30, 3) := by decide +kernel
theorem dX12_canReach_183 : decode cX12_canReach 183 = .ok (.aload_n 0, 1) := by decide +kernel
theorem dX12_canReach_184 : decode cX12_canReach 184 = .ok (.aload_n 0, 1) := by decide +kernel
theorem dX12_canReach_185 : decode cX12_canReach 185 = .ok (.getfield 319, 3) := by decide +kernel
theorem dX12_canReach_188 : decode cX12_canReach 188 = .ok (.iconst (-1), 1) := by decide +kernel
theorem dX12_canReach_189 : decode cX12_canReach 189 = .ok (.if_icmp .ne 8, 3) := by decide +kernel
theorem dX12_canReach_192 : decode cX12_canReach 192 = .ok (.iload 5, 2) := by decide +kernel
theorem dX12_canReach_194 : decode cX12_canReach 194 = .ok (.goto 7, 3) := by decide +kernel
theorem dX12_canReach_197 : decode cX12_canReach 197 = .ok (.aload_n 0, 1) := by decide +kernel
theorem dX12_canReach_198 : decode cX12_canReach 198 = .ok (.getfield 319, 3) := by decide +kernel
theorem dX12_canReach_201 : decode cX12_canReach 201 = .ok (.putfield 319, 3) := by decide +kernel
theorem dX12_canReach_204 : decode cX12_canReach 204 = .ok (.aload_n 0, 1) := by decide +kernel
theorem dX12_canReach_205 : decode cX12_canReach 205 = .ok (.iload 5, 2) := by decide +kernel
theorem dX12_canReach_207 : decode cX12_canReach 207 = .ok (.putfield 322, 3) := by decide +kernel
theorem dX12_canReach_210 : decode cX12_canReach 210 = .ok (.iinc 5 1, 3) := by decide +kernel
theorem dX12_canReach_213 : decode cX12_canReach 213 = .ok (.goto (-91), 3) := by decide +kernel
theorem dX12_canReach_216 : decode cX12_canReach 216 = .ok (.aload_n 0, 1) := by decide +kernel
theorem dX12_canReach_217 : decode cX12_canReach 217 = .ok (.getfield 319, 3) := by decide +kernel
theorem dX12_canReach_220 : decode cX12_canReach 220 = .ok (.iconst (-1), 1) := by decide +kernel
theorem dX12_canReach_221 : decode cX12_canReach 221 = .ok (.if_icmp .eq 7, 3) := by decide +kernel
theorem dX12_canReach_224 : decode cX12_canReach 224 = .ok (.iconst 1, 1) := by decide +kernel
theorem dX12_canReach_225 : decode cX12_canReach 225 = .ok (.goto 4, 3) := by decide +kernel
theorem dX12_canReach_228 : decode cX12_canReach 228 = .ok (.iconst 0, 1) := by decide +kernel
theorem dX12_canReach_229 : decode cX12_canReach 229 = .ok (.ireturn, 1) := by decide +kernel
theorem dX12_reach_0 : decode cX12_reach 0 = .ok (.aload_n 0, 1) := by decide +kernel
theorem dX12_reach_1 : decode cX12_reach 1 = .ok (.iconst 0, 1) := by decide +kernel
theorem dX12_reach_2 : decode cX12_reach 2 = .ok (.putfield 133, 3) := by decide +kernel
theorem dX12_reach_5 : decode cX12_reach 5 = .ok (.iload_n 1, 1) := by decide +kernel
theorem dX12_reach_6 : decode cX12_reach 6 = .ok (.invokestatic 178, 3) := by decide +kernel
theorem dX12_reach_9 : decode cX12_reach 9 = .ok (.ifCond .ne 5, 3) := by decide +kernel
theorem dX12_reach_12 : decode cX12_reach 12 = .ok (.iconst (-1), 1) := by decide +kernel
theorem dX12_reach_13 : decode cX12_reach 13 = .ok (.ireturn, 1) := by decide +kernel
theorem dX12_reach_14 : decode cX12_reach 14 = .ok (.aload_n 0, 1) := by decide +kernel
theorem dX12_reach_15 : decode cX12_reach 15 = .ok (.iload_n 1, 1) := by decide +kernel
theorem dX12_reach_16 : decode cX12_reach 16 = .ok (.invokevirtual 329, 3) := by decide +kernel
theorem dX12_reach_19 : decode cX12_reach 19 = .ok (.istore_n 2, 1) := by decide +kernel
theorem dX12_reach_20 : decode cX12_reach 20 = .ok (.aload_n 0, 1) := by decide +kernel
theorem dX12_reach_21 : decode cX12_reach 21 = .ok (.iconst 0, 1) := by decide +kernel
theorem dX12_reach_22 : decode cX12_reach 22 = .ok (.putfield 136, 3) := by decide +kernel
theorem dX12_reach_25 : decode cX12_reach 25 = .ok (.iload_n 2, 1) := by decide +kernel
theorem dX12_reach_26 : decode cX12_reach 26 = .ok (.ifCond .eq 19, 3) := by decide +kernel
theorem dX12_reach_29 : decode cX12_reach 29 = .ok (.aload_n 0, 1) := by decide +kernel
theorem dX12_reach_30 : decode cX12_reach 30 = .ok (.aload_n 0, 1) := by decide +kernel
theorem dX12_reach_31 : decode cX12_reach 31 = .ok (.getfield 319, 3) := by decide +kernel
theorem dX12_reach_34 : decode cX12_reach 34 = .ok (.invokevirtual 210, 3) := by decide +kernel
theorem dX12_reach_37 : decode cX12_reach 37 = .ok (.aload_n 0, 1) := by decide +kernel
theorem dX12_reach_38 : decode cX12_reach 38 = .ok (.aload_n 0, 1) := by decide +kernel
theorem dX12_reach_39 : decode cX12_reach 39 = .ok (.getfield 322, 3) := by decide +kernel
theorem dX12_reach_42 : decode cX12_reach 42 = .ok (.invokevirtual 210, 3) := by decide +kernel
theorem dX12_reach_45 : decode cX12_reach 45 = .ok (.iload_n 2, 1) := by decide +kernel
theorem dX12_reach_46 : decode cX12_reach 46 = .ok (.ifCond .eq 7, 3) := by decide +kernel
theorem dX12_reach_49 : decode cX12_reach 49 = .ok (.iconst 1, 1) := by decide +kernel
theorem dX12_reach_50 : decode cX12_reach 50 = .ok (.goto 4, 3) := by decide +kernel
theorem dX12_reach_53 : decode cX12_reach 53 = .ok (.iconst 0, 1) := by decide +kernel
theorem dX12_reach_54 : decode cX12_reach 54 = .ok (.ireturn, 1) := by decide +kernel
theorem dX12_shot_0 : decode cX12_shot 0 = .ok (.aload_n 0, 1) := by decide +kernel
theorem dX12_shot_1 : decode cX12_shot 1 = .ok (.iconst 0, 1) := by decide +kernel
theorem dX12_shot_2 : decode cX12_shot 2 = .ok (.putfield 133, 3) := by decide +kernel
theorem dX12_shot_5 : decode cX12_shot 5 = .ok (.aload_n 0, 1) := by decide +kernel
theorem dX12_shot_6 : decode cX12_shot 6 = .ok (.iload_n 1, 1) := by decide +kernel
theorem dX12_shot_7 : decode cX12_shot 7 = .ok (.iconst 3, 1) := by decide +kernel
theorem dX12_shot_8 : decode cX12_shot 8 = .ok (.invokevirtual 284, 3) := by decide +kernel
theorem dX12_shot_11 : decode cX12_shot 11 = .ok (.ifCond .eq 48, 3) := by decide +kernel
theorem dX12_shot_14 : decode cX12_shot 14 = .ok (.iload_n 2, 1) := by decide +kernel
theorem dX12_shot_15 : decode cX12_shot 15 = .ok (.iconst 1, 1) := by decide +kernel
theorem dX12_shot_16 : decode cX12_shot 16 = .ok (.aload_n 0, 1) := by decide +kernel
theorem dX12_shot_17 : decode cX12_shot 17 = .ok (.getfield 22, 3) := by decide +kernel
theorem dX12_shot_20 : decode cX12_shot 20 = .ok (.iload_n 1, 1) := by decide +kernel
theorem dX12_shot_21 : decode cX12_shot 21 = .ok (.iaload, 1) := by decide +kernel
theorem dX12_shot_22 : decode cX12_shot 22 = .ok (.invokestatic 142, 3) := by decide +kernel
theorem dX12_shot_25 : decode cX12_shot 25 = .ok (.ifCond .eq 34, 3) := by decide +kernel
theorem dX12_shot_28 : decode cX12_shot 28 = .ok (.iload_n 3, 1) := by decide +kernel
theorem dX12_shot_29 : decode cX12_shot 29 = .ok (.iconst 0, 1) := by decide +kernel
theorem dX12_shot_30 : decode cX12_shot 30 = .ok (.bipush 60, 2) := by decide +kernel
theorem dX12_shot_32 : decode cX12_shot 32 = .ok (.invokestatic 142, 3) := by decide +kernel
theorem dX12_shot_35 : decode cX12_shot 35 = .ok (.ifCond .eq 24, 3) := by decide +kernel
theorem dX12_shot_38 : decode cX12_shot 38 = .ok (.iload 4, 2) := by decide +kernel
theorem dX12_shot_40 : decode cX12_shot 40 = .ok (.iconst 1, 1) := by decide +kernel
theorem dX12_shot_41 : decode cX12_shot 41 = .ok (.bipush 99, 2) := by decide +kernel
theorem dX12_shot_43 : decode cX12_shot 43 = .ok (.invokestatic 142, 3) := by decide +kernel
theorem dX12_shot_46 : decode cX12_shot 46 = .ok (.ifCond .eq 13, 3) := by decide +kernel
theorem dX12_shot_49 : decode cX12_shot 49 = .ok (.aload_n 0, 1) := by decide +kernel
theorem dX12_shot_50 : decode cX12_shot 50 = .ok (.iload 5, 2) := by decide +kernel
theorem dX12_shot_52 : decode cX12_shot 52 = .ok (.iconst 0, 1) := by decide +kernel
theorem dX12_shot_53 : decode cX12_shot 53 = .ok (.invokevirtual 284, 3) := by decide +kernel
theorem dX12_shot_56 : decode cX12_shot 56 = .ok (.ifCond .ne 5, 3) := by decide +kernel
theorem dX12_shot_59 : decode cX12_shot 59 = .ok (.iconst (-1), 1) := by decide +kernel
theorem dX12_shot_60 : decode cX12_shot 60 = .ok (.ireturn, 1) := by decide +kernel
theorem dX12_shot_61 : decode cX12_shot 61 = .ok (.aload_n 0, 1) := by decide +kernel
theorem dX12_shot_62 : decode cX12_shot 62 = .ok (.iload 5, 2) := by decide +kernel
theorem dX12_shot_64 : decode cX12_shot 64 = .ok (.invokevirtual 307, 3) := by decide +kernel
theorem dX12_shot_67 : decode cX12_shot 67 = .ok (.iload_n 2, 1) := by decide +kernel
theorem dX12_shot_68 : decode cX12_shot 68 = .ok (.if_icmp .ge 6, 3) := by decide +kernel
theorem dX12_shot_71 : decode cX12_shot 71 = .ok (.bipush (-2), 2) := by decide +kernel
theorem dX12_shot_73 : decode cX12_shot 73 = .ok (.ireturn, 1) := by decide +kernel
theorem dX12_shot_74 : decode cX12_shot 74 = .ok (.iconst 0, 1) := by decide +kernel
theorem dX12_shot_75 : decode cX12_shot 75 = .ok (.istore 6, 2) := by decide +kernel
theorem dX12_shot_77 : decode cX12_shot 77 = .ok (.iconst 0, 1) := by decide +kernel
theorem dX12_shot_78 : decode cX12_shot 78 = .ok (.istore 7, 2) := by decide +kernel
theorem dX12_shot_80 : decode cX12_shot 80 = .ok (.iconst 0, 1) := by decide +kernel
theorem dX12_shot_81 : decode cX12_shot 81 = .ok (.istore 8, 2) := by decide +kernel
theorem dX12_shot_83 : decode cX12_shot 83 = .ok (.iconst 0, 1) := by decide +kernel
theorem dX12_shot_84 : decode cX12_shot 84 = .ok (.istore 9, 2) := by decide +kernel
theorem dX12_shot_86 : decode cX12_shot 86 = .ok (.iload 9, 2) := by decide +kernel
theorem dX12_shot_88 : decode cX12_shot 88 = .ok (.iload_n 2, 1) := by decide +kernel
theorem dX12_shot_89 : decode cX12_shot 89 = .ok (.if_icmp .ge 59, 3) := by decide +kernel
theorem dX12_shot_92 : decode cX12_shot 92 = .ok (.iload 6, 2) := by decide +kernel
theorem dX12_shot_94 : decode cX12_shot 94 = .ok (.iload_n 2, 1) := by decide +kernel
theorem dX12_shot_95 : decode cX12_shot 95 = .ok (.iload 9, 2) := by decide +kernel
theorem dX12_shot_97 : decode cX12_shot 97 = .ok (.isub, 1) := by decide +kernel
theorem dX12_shot_98 : decode cX12_shot 98 = .ok (.iadd, 1) := by decide +kernel
theorem dX12_shot_99 : decode cX12_shot 99 = .ok (.istore 6, 2) := by decide +kernel
theorem dX12_shot_101 : decode cX12_shot 101 = .ok (.iload 7, 2) := by decide +kernel
theorem dX12_shot_103 : decode cX12_shot 103 = .ok (.aload_n 0, 1) := by decide +kernel
theorem dX12_shot_104 : decode cX12_shot 104 = .ok (.getfield 13, 3) := by decide +kernel
theorem dX12_shot_107 : decode cX12_shot 107 = .ok (.iload 5, 2) := by decide +kernel
theorem dX12_shot_109 : decode cX12_shot 109 = .ok (.iaload, 1) := by decide +kernel
theorem dX12_shot_110 : decode cX12_shot 110 = .ok (.iload 9, 2) := by decide +kernel
theorem dX12_shot_112 : decode cX12_shot 112 = .ok (.imul, 1) := by decide +kernel
theorem dX12_shot_113 : decode cX12_shot 113 = .ok (.aload_n 0, 1) := by decide +kernel
theorem dX12_shot_114 : decode cX12_shot 114 = .ok (.getfield 13, 3) := by decide +kernel
theorem dX12_shot_117 : decode cX12_shot 117 = .ok (.iload_n 1, 1) := by decide +kernel
theorem dX12_shot_118 : decode cX12_shot 118 = .ok (.iaload, 1) := by decide +kernel
theorem dX12_shot_119 : decode cX12_shot 119 = .ok (.iload_n 2, 1) := by decide +kernel
theorem dX12_shot_120 : decode cX12_shot 120 = .ok (.imul, 1) := by decide +kernel
theorem dX12_shot_121 : decode cX12_shot 121 = .ok (.isub, 1) := by decide +kernel
theorem dX12_shot_122 : decode cX12_shot 122 = .ok (.iadd, 1) := by decide +kernel
theorem dX12_shot_123 : decode cX12_shot 123 = .ok (.istore 7, 2) := by decide +kernel
theorem dX12_shot_125 : decode cX12_shot 125 = .ok (.iinc 8 1, 3) := by decide +kernel
theorem dX12_shot_128 : decode cX12_shot 128 = .ok (.iload_n 2, 1) := by decide +kernel
theorem dX12_shot_129 : decode cX12_shot 129 = .ok (.iload 4, 2) := by decide +kernel
theorem dX12_shot_131 : decode cX12_shot 131 = .ok (.iconst 0, 1) := by decide +kernel
theorem dX12_shot_132 : decode cX12_shot 132 = .ok (.iload 8, 2) := by decide +kernel
theorem dX12_shot_134 : decode cX12_shot 134 = .ok (.iload_n 3, 1) := by decide +kernel
theorem dX12_shot_135 : decode cX12_shot 135 = .ok (.isub, 1) := by decide +kernel
theorem dX12_shot_136 : decode cX12_shot 136 = .ok (.invokestatic 159, 3) := by decide +kernel
theorem dX12_shot_139 : decode cX12_shot 139 = .ok (.imul, 1) := by decide +kernel
theorem dX12_shot_140 : decode cX12_shot 140 = .ok (.invokestatic 153, 3) := by decide +kernel
theorem dX12_shot_143 : decode cX12_shot 143 = .ok (.istore 9, 2) := by decide +kernel
theorem dX12_shot_145 : decode cX12_shot 145 = .ok (.goto (-59), 3) := by decide +kernel
theorem dX12_shot_148 : decode cX12_shot 148 = .ok (.aload_n 0, 1) := by decide +kernel
theorem dX12_shot_149 : decode cX12_shot 149 = .ok (.getfield 22, 3) := by decide +kernel
theorem dX12_shot_152 : decode cX12_shot 152 = .ok (.iload_n 1, 1) := by decide +kernel
theorem dX12_shot_153 : decode cX12_shot 153 = .ok (.dup2, 1) := by decide +kernel
theorem dX12_shot_154 : decode cX12_shot 154 = .ok (.iaload, 1) := by decide +kernel
theorem dX12_shot_155 : decode cX12_shot 155 = .ok (.iload_n 2, 1) := by decide +kernel
theorem dX12_shot_156 : decode cX12_shot 156 = .ok (.isub, 1) := by decide +kernel
theorem dX12_shot_157 : decode cX12_shot 157 = .ok (.iastore, 1) := by decide +kernel
theorem dX12_shot_158 : decode cX12_shot 158 = .ok (.aload_n 0, 1) := by decide +kernel
theorem dX12_shot_159 : decode cX12_shot 159 = .ok (.getfield 22, 3) := by decide +kernel
theorem dX12_shot_162 : decode cX12_shot 162 = .ok (.iload 5, 2) := by decide +kernel
theorem dX12_shot_164 : decode cX12_shot 164 = .ok (.dup2, 1) := by decide +kernel
theorem dX12_shot_165 : decode cX12_shot 165 = .ok (.iaload, 1) := by decide +kernel
theorem dX12_shot_166 : decode cX12_shot 166 = .ok (.iload_n 2, 1) := by decide +kernel
theorem dX12_shot_167 : decode cX12_shot 167 = .ok (.iadd, 1) := by decide +kernel
theorem dX12_shot_168 : decode cX12_shot 168 = .ok (.iastore, 1) := by decide +kernel
theorem dX12_shot_169 : decode cX12_shot 169 = .ok (.aload_n 0, 1) := by decide +kernel
theorem dX12_shot_170 : decode cX12_shot 170 = .ok (.iconst 0, 1) := by decide +kernel
theorem dX12_shot_171 : decode cX12_shot 171 = .ok (.putfield 136, 3) := by decide +kernel
theorem dX12_shot_174 : decode cX12_shot 174 = .ok (.aload_n 0, 1) := by decide +kernel
theorem dX12_shot_175 : decode cX12_shot 175 = .ok (.iload 6, 2) := by decide +kernel
theorem dX12_shot_177 : decode cX12_shot 177 = .ok (.invokevirtual 210, 3) := by decide +kernel
theorem dX12_shot_180 : decode cX12_shot 180 = .ok (.aload_n 0, 1) := by decide +kernel
theorem dX12_shot_181 : decode cX12_shot 181 = .ok (.iload 7, 2) := by decide +kernel
theorem dX12_shot_183 : decode cX12_shot 183 = .ok (.invokevirtual 210, 3) := by decide +kernel
theorem dX12_shot_186 : decode cX12_shot 186 = .ok (.iload 8, 2) := by decide +kernel
theorem dX12_shot_188 : decode cX12_shot 188 = .ok (.ireturn, 1) := by decide +kernel
theorem dX12_second_0 : decode cX12_second 0 = .ok (.aload_n 0, 1) := by decide +kernel
theorem dX12_second_1 : decode cX12_second 1 = .ok (.dup, 1) := by decide +kernel
theorem dX12_second_2 : decode cX12_second 2 = .ok (.getfield 332, 3) := by decide +kernel
theorem dX12_second_5 : decode cX12_second 5 = .ok (.aload_n 0, 1) := by decide +kernel
theorem dX12_second_6 : decode cX12_second 6 = .ok (.aload_n 0, 1) := by decide +kernel
theorem dX12_second_7 : decode cX12_second 7 = .ok (.getfield 335, 3) := by decide +kernel
theorem dX12_second_10 : decode cX12_second 10 = .ok (.bipush 10, 2) := by decide +kernel
theorem dX12_second_12 : decode cX12_second 12 = .ok (.idiv, 1) := by decide +kernel
theorem dX12_second_13 : decode cX12_second 13 = .ok (.invokevirtual 198, 3) := by decide +kernel
theorem dX12_second_16 : decode cX12_second 16 = .ok (.bipush 20, 2) := by decide +kernel
theorem dX12_second_18 : decode cX12_second 18 = .ok (.idiv, 1) := by decide +kernel
theorem dX12_second_19 : decode cX12_second 19 = .ok (.aload_n 0, 1) := by decide +kernel
theorem dX12_second_20 : decode cX12_second 20 = .ok (.iconst 0, 1) := by decide +kernel
theorem dX12_second_21 : decode cX12_second 21 = .ok (.invokevirtual 204, 3) := by decide +kernel
theorem dX12_second_24 : decode cX12_second 24 = .ok (.sipush 2000, 3) := by decide +kernel
theorem dX12_second_27 : decode cX12_second 27 = .ok (.idiv, 1) := by decide +kernel
theorem dX12_second_28 : decode cX12_second 28 = .ok (.iadd, 1) := by decide +kernel
theorem dX12_second_29 : decode cX12_second 29 = .ok (.iadd, 1) := by decide +kernel
theorem dX12_second_30 : decode cX12_second 30 = .ok (.putfield 332, 3) := by decide +kernel
theorem dX12_second_33 : decode cX12_second 33 = .ok (.aload_n 0, 1) := by decide +kernel
theorem dX12_second_34 : decode cX12_second 34 = .ok (.bipush (-30), 2) := by decide +kernel
theorem dX12_second_36 : decode cX12_second 36 = .ok (.bipush 30, 2) := by decide +kernel
theorem dX12_second_38 : decode cX12_second 38 = .ok (.aload_n 0, 1) := by decide +kernel
theorem dX12_second_39 : decode cX12_second 39 = .ok (.getfield 332, 3) := by decide +kernel
theorem dX12_second_42 : decode cX12_second 42 = .ok (.invokestatic 153, 3) := by decide +kernel
theorem dX12_second_45 : decode cX12_second 45 = .ok (.invokestatic 159, 3) := by decide +kernel
theorem dX12_second_48 : decode cX12_second 48 = .ok (.putfield 332, 3) := by decide +kernel
theorem dX12_second_51 : decode cX12_second 51 = .ok (.aload_n 0, 1) := by decide +kernel
theorem dX12_second_52 : decode cX12_second 52 = .ok (.dup, 1) := by decide +kernel
theorem dX12_second_53 : decode cX12_second 53 = .ok (.getfield 335, 3) := by decide +kernel
theorem dX12_second_56 : decode cX12_second 56 = .ok (.aload_n 0, 1) := by decide +kernel
theorem dX12_second_57 : decode cX12_second 57 = .ok (.getfield 332, 3) := by decide +kernel
theorem dX12_second_60 : decode cX12_second 60 = .ok (.iadd, 1) := by decide +kernel
theorem dX12_second_61 : decode cX12_second 61 = .ok (.putfield 335, 3) := by decide +kernel
theorem dX12_second_64 : decode cX12_second 64 = .ok (.aload_n 0, 1) := by decide +kernel
theorem dX12_second_65 : decode cX12_second 65 = .ok (.getfield 335, 3) := by decide +kernel
theorem dX12_second_68 : decode cX12_second 68 = .ok (.iconst 0, 1) := by decide +kernel
theorem dX12_second_69 : decode cX12_second 69 = .ok (.sipush 6000, 3) := by decide +kernel
theorem dX12_second_72 : decode cX12_second 72 = .ok (.invokestatic 142, 3) := by decide +kernel
theorem dX12_second_75 : decode cX12_second 75 = .ok (.ifCond .eq 4, 3) := by decide +kernel
theorem dX12_second_78 : decode cX12_second 78 = .ok (.return_, 1) := by decide +kernel
theorem dX12_second_79 : decode cX12_second 79 = .ok (.aload_n 0, 1) := by decide +kernel
theorem dX12_second_80 : decode cX12_second 80 = .ok (.aload_n 0, 1) := by decide +kernel
theorem dX12_second_81 : decode cX12_second 81 = .ok (.getfield 335, 3) := by decide +kernel
theorem dX12_second_84 : decode cX12_second 84 = .ok (.ifCond .ge 7, 3) := by decide +kernel
theorem dX12_second_87 : decode cX12_second 87 = .ok (.iconst 0, 1) := by decide +kernel
theorem dX12_second_88 : decode cX12_second 88 = .ok (.goto 6, 3) := by decide +kernel
theorem dX12_second_91 : decode cX12_second 91 = .ok (.sipush 6000, 3) := by decide +kernel
theorem dX12_second_94 : decode cX12_second 94 = .ok (.putfield 335, 3) := by decide +kernel
theorem dX12_second_97 : decode cX12_second 97 = .ok (.aload_n 0, 1) := by decide +kernel
theorem dX12_second_98 : decode cX12_second 98 = .ok (.iconst 0, 1) := by decide +kernel
theorem dX12_second_99 : decode cX12_second 99 = .ok (.putfield 332, 3) := by decide +kernel
theorem dX12_second_102 : decode cX12_second 102 = .ok (.return_, 1) := by decide +kernel
theorem dX12_dives_0 : decode cX12_dives 0 = .ok (.aload_n 0, 1) := by decide +kernel
theorem dX12_dives_1 : decode cX12_dives 1 = .ok (.bipush 10, 2) := by decide +kernel
theorem dX12_dives_3 : decode cX12_dives 3 = .ok (.iload_n 1, 1) := by decide +kernel
theorem dX12_dives_4 : decode cX12_dives 4 = .ok (.imul, 1) := by decide +kernel
theorem dX12_dives_5 : decode cX12_dives 5 = .ok (.putfield 335, 3) := by decide +kernel
theorem dX12_dives_8 : decode cX12_dives 8 = .ok (.aload_n 0, 1) := by decide +kernel
theorem dX12_dives_9 : decode cX12_dives 9 = .ok (.iconst 0, 1) := by decide +kernel
theorem dX12_dives_10 : decode cX12_dives 10 = .ok (.putfield 332, 3) := by decide +kernel
theorem dX12_dives_13 : decode cX12_dives 13 = .ok (.aload_n 0, 1) := by decide +kernel
theorem dX12_dives_14 : decode cX12_dives 14 = .ok (.getfield 335, 3) := by decide +kernel
theorem dX12_dives_17 : decode cX12_dives 17 = .ok (.bipush 10, 2) := by decide +kernel
theorem dX12_dives_19 : decode cX12_dives 19 = .ok (.iload_n 2, 1) := by decide +kernel
theorem dX12_dives_20 : decode cX12_dives 20 = .ok (.imul, 1) := by decide +kernel
theorem dX12_dives_21 : decode cX12_dives 21 = .ok (.if_icmp .lt 7, 3) := by decide +kernel
theorem dX12_dives_24 : decode cX12_dives 24 = .ok (.iconst 0, 1) := by decide +kernel
theorem dX12_dives_25 : decode cX12_dives 25 = .ok (.goto 4, 3) := by decide +kernel
theorem dX12_dives_28 : decode cX12_dives 28 = .ok (.iconst (-1), 1) := by decide +kernel
theorem dX12_dives_29 : decode cX12_dives 29 = .ok (.istore 4, 2) := by decide +kernel
theorem dX12_dives_31 : decode cX12_dives 31 = .ok (.iconst 1, 1) := by decide +kernel
theorem dX12_dives_32 : decode cX12_dives 32 = .ok (.istore 5, 2) := by decide +kernel
theorem dX12_dives_34 : decode cX12_dives 34 = .ok (.iload 5, 2) := by decide +kernel
theorem dX12_dives_36 : decode cX12_dives 36 = .ok (.iload_n 3, 1) := by decide +kernel
theorem dX12_dives_37 : decode cX12_dives 37 = .ok (.if_icmp .gt 39, 3) := by decide +kernel
theorem dX12_dives_40 : decode cX12_dives 40 = .ok (.aload_n 0, 1) := by decide +kernel
theorem dX12_dives_41 : decode cX12_dives 41 = .ok (.invokevirtual 338, 3) := by decide +kernel
theorem dX12_dives_44 : decode cX12_dives 44 = .ok (.iload 4, 2) := by decide +kernel
theorem dX12_dives_46 : decode cX12_dives 46 = .ok (.iconst (-1), 1) := by decide +kernel
theorem dX12_dives_47 : decode cX12_dives 47 = .ok (.if_icmp .ne 19, 3) := by decide +kernel
theorem dX12_dives_50 : decode cX12_dives 50 = .ok (.aload_n 0, 1) := by decide +kernel
theorem dX12_dives_51 : decode cX12_dives 51 = .ok (.getfield 335, 3) := by decide +kernel
theorem dX12_dives_54 : decode cX12_dives 54 = .ok (.bipush 10, 2) := by decide +kernel
theorem dX12_dives_56 : decode cX12_dives 56 = .ok (.iload_n 2, 1) := by decide +kernel
theorem dX12_dives_57 : decode cX12_dives 57 = .ok (.imul, 1) := by decide +kernel
theorem dX12_dives_58 : decode cX12_dives 58 = .ok (.if_icmp .lt 8, 3) := by decide +kernel
theorem dX12_dives_61 : decode cX12_dives 61 = .ok (.iload 5, 2) := by decide +kernel
theorem dX12_dives_63 : decode cX12_dives 63 = .ok (.goto 5, 3) := by decide +kernel
theorem dX12_dives_66 : decode cX12_dives 66 = .ok (.iload 4, 2) := by decide +kernel
theorem dX12_dives_68 : decode cX12_dives 68 = .ok (.istore 4, 2) := by decide +kernel
theorem dX12_dives_70 : decode cX12_dives 70 = .ok (.iinc 5 1, 3) := by decide +kernel
theorem dX12_dives_73 : decode cX12_dives 73 = .ok (.goto (-39), 3) := by decide +kernel
theorem dX12_dives_76 : decode cX12_dives 76 = .ok (.iload 4, 2) := by decide +kernel
theorem dX12_dives_78 : decode cX12_dives 78 = .ok (.ireturn, 1) := by decide +kernel
theorem dX12_dive_0 : decode cX12_dive 0 = .ok (.aload_n 0, 1) := by decide +kernel
theorem dX12_dive_1 : decode cX12_dive 1 = .ok (.iconst 0, 1) := by decide +kernel
theorem dX12_dive_2 : decode cX12_dive 2 = .ok (.putfield 133, 3) := by decide +kernel
theorem dX12_dive_5 : decode cX12_dive 5 = .ok (.iload_n 1, 1) := by decide +kernel
theorem dX12_dive_6 : decode cX12_dive 6 = .ok (.invokestatic 178, 3) := by decide +kernel
theorem dX12_dive_9 : decode cX12_dive 9 = .ok (.ifCond .eq 21, 3) := by decide +kernel
theorem dX12_dive_12 : decode cX12_dive 12 = .ok (.iload_n 2, 1) := by decide +kernel
theorem dX12_dive_13 : decode cX12_dive 13 = .ok (.invokestatic 178, 3) := by decide +kernel
theorem dX12_dive_16 : decode cX12_dive 16 = .ok (.ifCond .eq 14, 3) := by decide +kernel
theorem dX12_dive_19 : decode cX12_dive 19 = .ok (.iload_n 3, 1) := by decide +kernel
theorem dX12_dive_20 : decode cX12_dive 20 = .ok (.iconst 0, 1) := by decide +kernel
theorem dX12_dive_21 : decode cX12_dive 21 = .ok (.sipush 600, 3) := by decide +kernel
theorem dX12_dive_24 : decode cX12_dive 24 = .ok (.invokestatic 142, 3) := by decide +kernel
theorem dX12_dive_27 : decode cX12_dive 27 = .ok (.ifCond .ne 5, 3) := by decide +kernel
theorem dX12_dive_30 : decode cX12_dive 30 = .ok (.iconst (-1), 1) := by decide +kernel
theorem dX12_dive_31 : decode cX12_dive 31 = .ok (.ireturn, 1) := by decide +kernel
theorem dX12_dive_32 : decode cX12_dive 32 = .ok (.aload_n 0, 1) := by decide +kernel
theorem dX12_dive_33 : decode cX12_dive 33 = .ok (.iload_n 1, 1) := by decide +kernel
theorem dX12_dive_34 : decode cX12_dive 34 = .ok (.iload_n 2, 1) := by decide +kernel
theorem dX12_dive_35 : decode cX12_dive 35 = .ok (.iload_n 3, 1) := by decide +kernel
theorem dX12_dive_36 : decode cX12_dive 36 = .ok (.invokevirtual 341, 3) := by decide +kernel
theorem dX12_dive_39 : decode cX12_dive 39 = .ok (.istore 4, 2) := by decide +kernel
theorem dX12_dive_41 : decode cX12_dive 41 = .ok (.aload_n 0, 1) := by decide +kernel
theorem dX12_dive_42 : decode cX12_dive 42 = .ok (.iconst 0, 1) := by decide +kernel
theorem dX12_dive_43 : decode cX12_dive 43 = .ok (.putfield 136, 3) := by decide +kernel
theorem dX12_dive_46 : decode cX12_dive 46 = .ok (.aload_n 0, 1) := by decide +kernel
theorem dX12_dive_47 : decode cX12_dive 47 = .ok (.aload_n 0, 1) := by decide +kernel
theorem dX12_dive_48 : decode cX12_dive 48 = .ok (.getfield 332, 3) := by decide +kernel
theorem dX12_dive_51 : decode cX12_dive 51 = .ok (.invokevirtual 210, 3) := by decide +kernel
theorem dX12_dive_54 : decode cX12_dive 54 = .ok (.aload_n 0, 1) := by decide +kernel
theorem dX12_dive_55 : decode cX12_dive 55 = .ok (.iload 4, 2) := by decide +kernel
theorem dX12_dive_57 : decode cX12_dive 57 = .ok (.invokevirtual 210, 3) := by decide +kernel
theorem dX12_dive_60 : decode cX12_dive 60 = .ok (.aload_n 0, 1) := by decide +kernel
theorem dX12_dive_61 : decode cX12_dive 61 = .ok (.getfield 335, 3) := by decide +kernel
theorem dX12_dive_64 : decode cX12_dive 64 = .ok (.ireturn, 1) := by decide +kernel
theorem dX12_forward_0 : decode cX12_forward 0 = .ok (.aload_n 0, 1) := by decide +kernel
theorem dX12_forward_1 : decode cX12_forward 1 = .ok (.iconst 0, 1) := by decide +kernel
theorem dX12_forward_2 : decode cX12_forward 2 = .ok (.putfield 133, 3) := by decide +kernel
theorem dX12_forward_5 : decode cX12_forward 5 = .ok (.aload_n 0, 1) := by decide +kernel
theorem dX12_forward_6 : decode cX12_forward 6 = .ok (.iload_n 1, 1) := by decide +kernel
theorem dX12_forward_7 : decode cX12_forward 7 = .ok (.iconst 2, 1) := by decide +kernel
theorem dX12_forward_8 : decode cX12_forward 8 = .ok (.invokevirtual 284, 3) := by decide +kernel
theorem dX12_forward_11 : decode cX12_forward 11 = .ok (.ifCond .eq 44, 3) := by decide +kernel
theorem dX12_forward_14 : decode cX12_forward 14 = .ok (.aload_n 0, 1) := by decide +kernel
theorem dX12_forward_15 : decode cX12_forward 15 = .ok (.iload_n 2, 1) := by decide +kernel
theorem dX12_forward_16 : decode cX12_forward 16 = .ok (.iconst 2, 1) := by decide +kernel
theorem dX12_forward_17 : decode cX12_forward 17 = .ok (.invokevirtual 284, 3) := by decide +kernel
theorem dX12_forward_20 : decode cX12_forward 20 = .ok (.ifCond .eq 35, 3) := by decide +kernel
theorem dX12_forward_23 : decode cX12_forward 23 = .ok (.iload_n 1, 1) := by decide +kernel
theorem dX12_forward_24 : decode cX12_forward 24 = .ok (.iload_n 2, 1) := by decide +kernel
theorem dX12_forward_25 : decode cX12_forward 25 = .ok (.if_icmp .eq 30, 3) := by decide +kernel
theorem dX12_forward_28 : decode cX12_forward 28 = .ok (.iload_n 3, 1) := by decide +kernel
theorem dX12_forward_29 : decode cX12_forward 29 = .ok (.invokestatic 178, 3) := by decide +kernel
theorem dX12_forward_32 : decode cX12_forward 32 = .ok (.ifCond .eq 23, 3) := by decide +kernel
theorem dX12_forward_35 : decode cX12_forward 35 = .ok (.iload 4, 2) := by decide +kernel
theorem dX12_forward_37 : decode cX12_forward 37 = .ok (.invokestatic 178, 3) := by decide +kernel
theorem dX12_forward_40 : decode cX12_forward 40 = .ok (.ifCond .eq 15, 3) := by decide +kernel
theorem dX12_forward_43 : decode cX12_forward 43 = .ok (.iload 5, 2) := by decide +kernel
theorem dX12_forward_45 : decode cX12_forward 45 = .ok (.iconst 0, 1) := by decide +kernel
theorem dX12_forward_46 : decode cX12_forward 46 = .ok (.sipush 600, 3) := by decide +kernel
theorem dX12_forward_49 : decode cX12_forward 49 = .ok (.invokestatic 142, 3) := by decide +kernel
theorem dX12_forward_52 : decode cX12_forward 52 = .ok (.ifCond .ne 5, 3) := by decide +kernel
theorem dX12_forward_55 : decode cX12_forward 55 = .ok (.iconst (-1), 1) := by decide +kernel
theorem dX12_forward_56 : decode cX12_forward 56 = .ok (.ireturn, 1) := by decide +kernel
theorem dX12_forward_57 : decode cX12_forward 57 = .ok (.aload_n 0, 1) := by decide +kernel
theorem dX12_forward_58 : decode cX12_forward 58 = .ok (.getfield 22, 3) := by decide +kernel
theorem dX12_forward_61 : decode cX12_forward 61 = .ok (.iload_n 1, 1) := by decide +kernel
theorem dX12_forward_62 : decode cX12_forward 62 = .ok (.iaload, 1) := by decide +kernel
theorem dX12_forward_63 : decode cX12_forward 63 = .ok (.aload_n 0, 1) := by decide +kernel
theorem dX12_forward_64 : decode cX12_forward 64 = .ok (.iload_n 2, 1) := by decide +kernel
theorem dX12_forward_65 : decode cX12_forward 65 = .ok (.invokevirtual 307, 3) := by decide +kernel
theorem dX12_forward_68 : decode cX12_forward 68 = .ok (.invokestatic 153, 3) := by decide +kernel
theorem dX12_forward_71 : decode cX12_forward 71 = .ok (.istore 6, 2) := by decide +kernel
theorem dX12_forward_73 : decode cX12_forward 73 = .ok (.iconst 0, 1) := by decide +kernel
theorem dX12_forward_74 : decode cX12_forward 74 = .ok (.istore 7, 2) := by decide +kernel
theorem dX12_forward_76 : decode cX12_forward 76 = .ok (.iload 7, 2) := by decide +kernel
theorem dX12_forward_78 : decode cX12_forward 78 = .ok (.iload 6, 2) := by decide +kernel
theorem dX12_forward_80 : decode cX12_forward 80 = .ok (.if_icmp .gt 73, 3) := by decide +kernel
theorem dX12_forward_83 : decode cX12_forward 83 = .ok (.aload_n 0, 1) := by decide +kernel
theorem dX12_forward_84 : decode cX12_forward 84 = .ok (.invokevirtual 292, 3) := by decide +kernel
theorem dX12_forward_87 : decode cX12_forward 87 = .ok (.aload_n 0, 1) := by decide +kernel
theorem dX12_forward_88 : decode cX12_forward 88 = .ok (.getfield 22, 3) := by decide +kernel
theorem dX12_forward_91 : decode cX12_forward 91 = .ok (.iload_n 1, 1) := by decide +kernel
theorem dX12_forward_92 : decode cX12_forward 92 = .ok (.dup2, 1) := by decide +kernel
theorem dX12_forward_93 : decode cX12_forward 93 = .ok (.iaload, 1) := by decide +kernel
theorem dX12_forward_94 : decode cX12_forward 94 = .ok (.iload 7, 2) := by decide +kernel
theorem dX12_forward_96 : decode cX12_forward 96 = .ok (.isub, 1) := by decide +kernel
theorem dX12_forward_97 : decode cX12_forward 97 = .ok (.iastore, 1) := by decide +kernel
theorem dX12_forward_98 : decode cX12_forward 98 = .ok (.aload_n 0, 1) := by decide +kernel
theorem dX12_forward_99 : decode cX12_forward 99 = .ok (.getfield 22, 3) := by decide +kernel
theorem dX12_forward_102 : decode cX12_forward 102 = .ok (.iload_n 2, 1) := by decide +kernel
theorem dX12_forward_103 : decode cX12_forward 103 = .ok (.dup2, 1) := by decide +kernel
theorem dX12_forward_104 : decode cX12_forward 104 = .ok (.iaload, 1) := by decide +kernel
theorem dX12_forward_105 : decode cX12_forward 105 = .ok (.iload 7, 2) := by decide +kernel
theorem dX12_forward_107 : decode cX12_forward 107 = .ok (.iadd, 1) := by decide +kernel
theorem dX12_forward_108 : decode cX12_forward 108 = .ok (.iastore, 1) := by decide +kernel
theorem dX12_forward_109 : decode cX12_forward 109 = .ok (.aload_n 0, 1) := by decide +kernel
theorem dX12_forward_110 : decode cX12_forward 110 = .ok (.iload_n 3, 1) := by decide +kernel
theorem dX12_forward_111 : decode cX12_forward 111 = .ok (.iload 4, 2) := by decide +kernel
theorem dX12_forward_113 : decode cX12_forward 113 = .ok (.iload 5, 2) := by decide +kernel
theorem dX12_forward_115 : decode cX12_forward 115 = .ok (.invokevirtual 341, 3) := by decide +kernel
theorem dX12_forward_118 : decode cX12_forward 118 = .ok (.istore 8, 2) := by decide +kernel
theorem dX12_forward_120 : decode cX12_forward 120 = .ok (.aload_n 0, 1) := by decide +kernel
theorem dX12_forward_121 : decode cX12_forward 121 = .ok (.invokevirtual 298, 3) := by decide +kernel
theorem dX12_forward_124 : decode cX12_forward 124 = .ok (.iload 8, 2) := by decide +kernel
theorem dX12_forward_126 : decode cX12_forward 126 = .ok (.iconst (-1), 1) := by decide +kernel
theorem dX12_forward_127 : decode cX12_forward 127 = .ok (.if_icmp .ne 6, 3) := by decide +kernel
theorem dX12_forward_130 : decode cX12_forward 130 = .ok (.goto 17, 3) := by decide +kernel
theorem dX12_forward_133 : decode cX12_forward 133 = .ok (.aload_n 0, 1) := by decide +kernel
theorem dX12_forward_134 : decode cX12_forward 134 = .ok (.iconst 0, 1) := by decide +kernel
theorem dX12_forward_135 : decode cX12_forward 135 = .ok (.putfield 136, 3) := by decide +kernel
theorem dX12_forward_138 : decode cX12_forward 138 = .ok (.aload_n 0, 1) := by decide +kernel
theorem dX12_forward_139 : decode cX12_forward 139 = .ok (.iload 8, 2) := by decide +kernel
theorem dX12_forward_141 : decode cX12_forward 141 = .ok (.invokevirtual 210, 3) := by decide +kernel
theorem dX12_forward_144 : decode cX12_forward 144 = .ok (.iload 7, 2) := by decide +kernel
theorem dX12_forward_146 : decode cX12_forward 146 = .ok (.ireturn, 1) := by decide +kernel
theorem dX12_forward_147 : decode cX12_forward 147 = .ok (.iinc 7 1, 3) := by decide +kernel
theorem dX12_forward_150 : decode cX12_forward 150 = .ok (.goto (-74), 3) := by decide +kernel
theorem dX12_forward_153 : decode cX12_forward 153 = .ok (.bipush (-2), 2) := by decide +kernel
theorem dX12_forward_155 : decode cX12_forward 155 = .ok (.ireturn, 1) := by decide +kernel
theorem dX12_carry_0 : decode cX12_carry 0 = .ok (.aload_n 0, 1) := by decide +kernel
theorem dX12_carry_1 : decode cX12_carry 1 = .ok (.iconst 0, 1) := by decide +kernel
theorem dX12_carry_2 : decode cX12_carry 2 = .ok (.putfield 133, 3) := by decide +kernel
theorem dX12_carry_5 : decode cX12_carry 5 = .ok (.aload_n 0, 1) := by decide +kernel
theorem dX12_carry_6 : decode cX12_carry 6 = .ok (.iload_n 1, 1) := by decide +kernel
theorem dX12_carry_7 : decode cX12_carry 7 = .ok (.invokevirtual 146, 3) := by decide +kernel
theorem dX12_carry_10 : decode cX12_carry 10 = .ok (.ifCond .eq 68, 3) := by decide +kernel
theorem dX12_carry_13 : decode cX12_carry 13 = .ok (.aload_n 0, 1) := by decide +kernel
theorem dX12_carry_14 : decode cX12_carry 14 = .ok (.iload_n 2, 1) := by decide +kernel
theorem dX12_carry_15 : decode cX12_carry 15 = .ok (.invokevirtual 146, 3) := by decide +kernel
theorem dX12_carry_18 : decode cX12_carry 18 = .ok (.ifCond .eq 60, 3) := by decide +kernel
theorem dX12_carry_21 : decode cX12_carry 21 = .ok (.iload_n 1, 1) := by decide +kernel
theorem dX12_carry_22 : decode cX12_carry 22 = .ok (.iload_n 2, 1) := by decide +kernel
theorem dX12_carry_23 : decode cX12_carry 23 = .ok (.if_icmp .eq 55, 3) := by decide +kernel
theorem dX12_carry_26 : decode cX12_carry 26 = .ok (.aload_n 0, 1) := by decide +kernel
theorem dX12_carry_27 : decode cX12_carry 27 = .ok (.getfield 9, 3) := by decide +kernel
theorem dX12_carry_30 : decode cX12_carry 30 = .ok (.iload_n 1, 1) := by decide +kernel
theorem dX12_carry_31 : decode cX12_carry 31 = .ok (.iaload, 1) := by decide +kernel
theorem dX12_carry_32 : decode cX12_carry 32 = .ok (.aload_n 0, 1) := by decide +kernel
theorem dX12_carry_33 : decode cX12_carry 33 = .ok (.getfield 9, 3) := by decide +kernel
theorem dX12_carry_36 : decode cX12_carry 36 = .ok (.iload_n 2, 1) := by decide +kernel
theorem dX12_carry_37 : decode cX12_carry 37 = .ok (.iaload, 1) := by decide +kernel
theorem dX12_carry_38 : decode cX12_carry 38 = .ok (.if_icmp .ne 40, 3) := by decide +kernel
theorem dX12_carry_41 : decode cX12_carry 41 = .ok (.aload_n 0, 1) := by decide +kernel
theorem dX12_carry_42 : decode cX12_carry 42 = .ok (.getfield 9, 3) := by decide +kernel
theorem dX12_carry_45 : decode cX12_carry 45 = .ok (.iload_n 1, 1) := by decide +kernel
theorem dX12_carry_46 : decode cX12_carry 46 = .ok (.iaload, 1) := by decide +kernel
theorem dX12_carry_47 : decode cX12_carry 47 = .ok (.iconst 1, 1) := by decide +kernel
theorem dX12_carry_48 : decode cX12_carry 48 = .ok (.iconst 2, 1) := by decide +kernel
theorem dX12_carry_49 : decode cX12_carry 49 = .ok (.invokestatic 142, 3) := by decide +kernel
theorem dX12_carry_52 : decode cX12_carry 52 = .ok (.ifCond .eq 26, 3) := by decide +kernel
theorem dX12_carry_55 : decode cX12_carry 55 = .ok (.iload_n 3, 1) := by decide +kernel
theorem dX12_carry_56 : decode cX12_carry 56 = .ok (.iconst 1, 1) := by decide +kernel
theorem dX12_carry_57 : decode cX12_carry 57 = .ok (.aload_n 0, 1) := by decide +kernel
theorem dX12_carry_58 : decode cX12_carry 58 = .ok (.getfield 22, 3) := by decide +kernel
theorem dX12_carry_61 : decode cX12_carry 61 = .ok (.iload_n 1, 1) := by decide +kernel
theorem dX12_carry_62 : decode cX12_carry 62 = .ok (.iaload, 1) := by decide +kernel
theorem dX12_carry_63 : decode cX12_carry 63 = .ok (.invokestatic 142, 3) := by decide +kernel
theorem dX12_carry_66 : decode cX12_carry 66 = .ok (.ifCond .eq 12, 3) := by decide +kernel
theorem dX12_carry_69 : decode cX12_carry 69 = .ok (.iload_n 3, 1) := by decide +kernel
theorem dX12_carry_70 : decode cX12_carry 70 = .ok (.aload_n 0, 1) := by decide +kernel
theorem dX12_carry_71 : decode cX12_carry 71 = .ok (.iload_n 2, 1) := by decide +kernel
theorem dX12_carry_72 : decode cX12_carry 72 = .ok (.invokevirtual 307, 3) := by decide +kernel
theorem dX12_carry_75 : decode cX12_carry 75 = .ok (.if_icmp .le 5, 3) := by decide +kernel
theorem dX12_carry_78 : decode cX12_carry 78 = .ok (.iconst 0, 1) := by decide +kernel
theorem dX12_carry_79 : decode cX12_carry 79 = .ok (.ireturn, 1) := by decide +kernel
theorem dX12_carry_80 : decode cX12_carry 80 = .ok (.aload_n 0, 1) := by decide +kernel
theorem dX12_carry_81 : decode cX12_carry 81 = .ok (.getfield 22, 3) := by decide +kernel
theorem dX12_carry_84 : decode cX12_carry 84 = .ok (.iload_n 1, 1) := by decide +kernel
theorem dX12_carry_85 : decode cX12_carry 85 = .ok (.dup2, 1) := by decide +kernel
theorem dX12_carry_86 : decode cX12_carry 86 = .ok (.iaload, 1) := by decide +kernel
theorem dX12_carry_87 : decode cX12_carry 87 = .ok (.iload_n 3, 1) := by decide +kernel
theorem dX12_carry_88 : decode cX12_carry 88 = .ok (.isub, 1) := by decide +kernel
theorem dX12_carry_89 : decode cX12_carry 89 = .ok (.iastore, 1) := by decide +kernel
theorem dX12_carry_90 : decode cX12_carry 90 = .ok (.aload_n 0, 1) := by decide +kernel
theorem dX12_carry_91 : decode cX12_carry 91 = .ok (.getfield 22, 3) := by decide +kernel
theorem dX12_carry_94 : decode cX12_carry 94 = .ok (.iload_n 2, 1) := by decide +kernel
theorem dX12_carry_95 : decode cX12_carry 95 = .ok (.dup2, 1) := by decide +kernel
theorem dX12_carry_96 : decode cX12_carry 96 = .ok (.iaload, 1) := by decide +kernel
theorem dX12_carry_97 : decode cX12_carry 97 = .ok (.iload_n 3, 1) := by decide +kernel
theorem dX12_carry_98 : decode cX12_carry 98 = .ok (.iadd, 1) := by decide +kernel
theorem dX12_carry_99 : decode cX12_carry 99 = .ok (.iastore, 1) := by decide +kernel
theorem dX12_carry_100 : decode cX12_carry 100 = .ok (.iconst 1, 1) := by decide +kernel
theorem dX12_carry_101 : decode cX12_carry 101 = .ok (.ireturn, 1) := by decide +kernel
theorem dX12_loadHere_0 : decode cX12_loadHere 0 = .ok (.aload_n 0, 1) := by decide +kernel
theorem dX12_loadHere_1 : decode cX12_loadHere 1 = .ok (.iconst 2, 1) := by decide +kernel
theorem dX12_loadHere_2 : decode cX12_loadHere 2 = .ok (.aload_n 0, 1) := by decide +kernel
theorem dX12_loadHere_3 : decode cX12_loadHere 3 = .ok (.getfield 139, 3) := by decide +kernel
theorem dX12_loadHere_6 : decode cX12_loadHere 6 = .ok (.iconst 1, 1) := by decide +kernel
theorem dX12_loadHere_7 : decode cX12_loadHere 7 = .ok (.isub, 1) := by decide +kernel
theorem dX12_loadHere_8 : decode cX12_loadHere 8 = .ok (.invokevirtual 259, 3) := by decide +kernel
theorem dX12_loadHere_11 : decode cX12_loadHere 11 = .ok (.ireturn, 1) := by decide +kernel
theorem dX12_telling_0 : decode cX12_telling 0 = .ok (.aload_n 0, 1) := by decide +kernel
theorem dX12_telling_1 : decode cX12_telling 1 = .ok (.iconst 0, 1) := by decide +kernel
theorem dX12_telling_2 : decode cX12_telling 2 = .ok (.putfield 133, 3) := by decide +kernel
theorem dX12_telling_5 : decode cX12_telling 5 = .ok (.aload_n 0, 1) := by decide +kernel
theorem dX12_telling_6 : decode cX12_telling 6 = .ok (.getfield 345, 3) := by decide +kernel
theorem dX12_telling_9 : decode cX12_telling 9 = .ok (.bipush 6, 2) := by decide +kernel
theorem dX12_telling_11 : decode cX12_telling 11 = .ok (.if_icmp .ne 7, 3) := by decide +kernel
theorem dX12_telling_14 : decode cX12_telling 14 = .ok (.iconst 1, 1) := by decide +kernel
theorem dX12_telling_15 : decode cX12_telling 15 = .ok (.goto 4, 3) := by decide +kernel
theorem dX12_telling_18 : decode cX12_telling 18 = .ok (.iconst 0, 1) := by decide +kernel
theorem dX12_telling_19 : decode cX12_telling 19 = .ok (.istore_n 1, 1) := by decide +kernel
theorem dX12_telling_20 : decode cX12_telling 20 = .ok (.aload_n 0, 1) := by decide +kernel
theorem dX12_telling_21 : decode cX12_telling 21 = .ok (.aload_n 0, 1) := by decide +kernel
theorem dX12_telling_22 : decode cX12_telling 22 = .ok (.getfield 41, 3) := by decide +kernel
theorem dX12_telling_25 : decode cX12_telling 25 = .ok (.aload_n 0, 1) := by decide +kernel
theorem dX12_telling_26 : decode cX12_telling 26 = .ok (.getfield 214, 3) := by decide +kernel
theorem dX12_telling_29 : decode cX12_telling 29 = .ok (.bipush 30, 2) := by decide +kernel
theorem dX12_telling_31 : decode cX12_telling 31 = .ok (.invokevirtual 265, 3) := by decide +kernel
theorem dX12_telling_34 : decode cX12_telling 34 = .ok (.aload_n 0, 1) := by decide +kernel
theorem dX12_telling_35 : decode cX12_telling 35 = .ok (.iconst 0, 1) := by decide +kernel
theorem dX12_telling_36 : decode cX12_telling 36 = .ok (.putfield 214, 3) := by decide +kernel
theorem dX12_telling_39 : decode cX12_telling 39 = .ok (.iload_n 1, 1) := by decide +kernel
theorem dX12_telling_40 : decode cX12_telling 40 = .ok (.ifCond .eq 6, 3) := by decide +kernel
theorem dX12_telling_43 : decode cX12_telling 43 = .ok (.bipush (-100), 2) := by decide +kernel
theorem dX12_telling_45 : decode cX12_telling 45 = .ok (.ireturn, 1) := by decide +kernel
theorem dX12_telling_46 : decode cX12_telling 46 = .ok (.iconst 0, 1) := by decide +kernel
theorem dX12_telling_47 : decode cX12_telling 47 = .ok (.istore_n 2, 1) := by decide +kernel
theorem dX12_telling_48 : decode cX12_telling 48 = .ok (.aload_n 0, 1) := by decide +kernel
theorem dX12_telling_49 : decode cX12_telling 49 = .ok (.getfield 220, 3) := by decide +kernel
theorem dX12_telling_52 : decode cX12_telling 52 = .ok (.ifCond .le 7, 3) := by decide +kernel
theorem dX12_telling_55 : decode cX12_telling 55 = .ok (.iconst 1, 1) := by decide +kernel
theorem dX12_telling_56 : decode cX12_telling 56 = .ok (.goto 4, 3) := by decide +kernel
theorem dX12_telling_59 : decode cX12_telling 59 = .ok (.iconst 0, 1) := by decide +kernel
theorem dX12_telling_60 : decode cX12_telling 60 = .ok (.istore_n 3, 1) := by decide +kernel
theorem dX12_telling_61 : decode cX12_telling 61 = .ok (.iload_n 3, 1) := by decide +kernel
theorem dX12_telling_62 : decode cX12_telling 62 = .ok (.ifCond .eq 225, 3) := by decide +kernel
theorem dX12_telling_65 : decode cX12_telling 65 = .ok (.aload_n 0, 1) := by decide +kernel
theorem dX12_telling_66 : decode cX12_telling 66 = .ok (.invokevirtual 236, 3) := by decide +kernel
theorem dX12_telling_69 : decode cX12_telling 69 = .ok (.istore 4, 2) := by decide +kernel
theorem dX12_telling_71 : decode cX12_telling 71 = .ok (.iload 4, 2) := by decide +kernel
theorem dX12_telling_73 : decode cX12_telling 73 = .ok (.bipush 108, 2) := by decide +kernel
theorem dX12_telling_75 : decode cX12_telling 75 = .ok (.if_icmp .eq 25, 3) := by decide +kernel
theorem dX12_telling_78 : decode cX12_telling 78 = .ok (.iload 4, 2) := by decide +kernel
theorem dX12_telling_80 : decode cX12_telling 80 = .ok (.bipush 118, 2) := by decide +kernel
theorem dX12_telling_82 : decode cX12_telling 82 = .ok (.if_icmp .eq 18, 3) := by decide +kernel
theorem dX12_telling_85 : decode cX12_telling 85 = .ok (.iload 4, 2) := by decide +kernel
theorem dX12_telling_87 : decode cX12_telling 87 = .ok (.bipush 98, 2) := by decide +kernel
theorem dX12_telling_89 : decode cX12_telling 89 = .ok (.if_icmp .eq 11, 3) := by decide +kernel
theorem dX12_telling_92 : decode cX12_telling 92 = .ok (.aload_n 0, 1) := by decide +kernel
theorem dX12_telling_93 : decode cX12_telling 93 = .ok (.aload_n 0, 1) := by decide +kernel
theorem dX12_telling_94 : decode cX12_telling 94 = .ok (.getfield 217, 3) := by decide +kernel
theorem dX12_telling_97 : decode cX12_telling 97 = .ok (.invokevirtual 243, 3) := by decide +kernel
theorem dX12_telling_100 : decode cX12_telling 100 = .ok (.aload_n 0, 1) := by decide +kernel
theorem dX12_telling_101 : decode cX12_telling 101 = .ok (.dup, 1) := by decide +kernel
theorem dX12_telling_102 : decode cX12_telling 102 = .ok (.getfield 217, 3) := by decide +kernel
theorem dX12_telling_105 : decode cX12_telling 105 = .ok (.iconst 1, 1) := by decide +kernel
theorem dX12_telling_106 : decode cX12_telling 106 = .ok (.iadd, 1) := by decide +kernel
theorem dX12_telling_107 : decode cX12_telling 107 = .ok (.putfield 217, 3) := by decide +kernel
theorem dX12_telling_110 : decode cX12_telling 110 = .ok (.aload_n 0, 1) := by decide +kernel
theorem dX12_telling_111 : decode cX12_telling 111 = .ok (.invokevirtual 348, 3) := by decide +kernel
theorem dX12_telling_114 : decode cX12_telling 114 = .ok (.istore 5, 2) := by decide +kernel
theorem dX12_telling_116 : decode cX12_telling 116 = .ok (.iconst (-1), 1) := by decide +kernel
theorem dX12_telling_117 : decode cX12_telling 117 = .ok (.istore 6, 2) := by decide +kernel
theorem dX12_telling_119 : decode cX12_telling 119 = .ok (.iload 4, 2) := by decide +kernel
theorem dX12_telling_121 : decode cX12_telling 121 = .ok (.bipush 118, 2) := by decide +kernel
theorem dX12_telling_123 : decode cX12_telling 123 = .ok (.if_icmp .ne 32, 3) := by decide +kernel
theorem dX12_telling_126 : decode cX12_telling 126 = .ok (.aload_n 0, 1) := by decide +kernel
theorem dX12_telling_127 : decode cX12_telling 127 = .ok (.bipush 45, 2) := by decide +kernel
theorem dX12_telling_129 : decode cX12_telling 129 = .ok (.invokevirtual 255, 3) := by decide +kernel
theorem dX12_telling_132 : decode cX12_telling 132 = .ok (.aload_n 0, 1) := by decide +kernel
theorem dX12_telling_133 : decode cX12_telling 133 = .ok (.invokevirtual 348, 3) := by decide +kernel
theorem dX12_telling_136 : decode cX12_telling 136 = .ok (.istore 6, 2) := by decide +kernel
theorem dX12_telling_138 : decode cX12_telling 138 = .ok (.iload 6, 2) := by decide +kernel
theorem dX12_telling_140 : decode cX12_telling 140 = .ok (.iload 5, 2) := by decide +kernel
theorem dX12_telling_142 : decode cX12_telling 142 = .ok (.if_icmp .ne 13, 3) := by decide +kernel
theorem dX12_telling_145 : decode cX12_telling 145 = .ok (.aload_n 0, 1) := by decide +kernel
theorem dX12_telling_146 : decode cX12_telling 146 = .ok (.aload_n 0, 1) := by decide +kernel
theorem dX12_telling_147 : decode cX12_telling 147 = .ok (.getfield 217, 3) := by decide +kernel
theorem dX12_telling_150 : decode cX12_telling 150 = .ok (.iconst 1, 1) := by decide +kernel
theorem dX12_telling_151 : decode cX12_telling 151 = .ok (.isub, 1) := by decide +kernel
theorem dX12_telling_152 : decode cX12_telling 152 = .ok (.invokevirtual 243, 3) := by decide +kernel
theorem dX12_telling_155 : decode cX12_telling 155 = .ok (.aload_n 0, 1) := by decide +kernel
theorem dX12_telling_156 : decode cX12_telling 156 = .ok (.bipush 44, 2) := by decide +kernel
theorem dX12_telling_158 : decode cX12_telling 158 = .ok (.invokevirtual 255, 3) := by decide +kernel
theorem dX12_telling_161 : decode cX12_telling 161 = .ok (.iload 4, 2) := by decide +kernel
theorem dX12_telling_163 : decode cX12_telling 163 = .ok (.bipush 98, 2) := by decide +kernel
theorem dX12_telling_165 : decode cX12_telling 165 = .ok (.if_icmp .ne 16, 3) := by decide +kernel
theorem dX12_telling_168 : decode cX12_telling 168 = .ok (.aload_n 0, 1) := by decide +kernel
theorem dX12_telling_169 : decode cX12_telling 169 = .ok (.bipush 45, 2) := by decide +kernel
theorem dX12_telling_171 : decode cX12_telling 171 = .ok (.invokevirtual 239, 3) := by decide +kernel
theorem dX12_telling_174 : decode cX12_telling 174 = .ok (.ifCond .eq 7, 3) := by decide +kernel
theorem dX12_telling_177 : decode cX12_telling 177 = .ok (.iconst 1, 1) := by decide +kernel
theorem dX12_telling_178 : decode cX12_telling 178 = .ok (.goto 4, 3) := by decide +kernel
theorem dX12_telling_181 : decode cX12_telling 181 = .ok (.iconst 0, 1) := by decide +kernel
theorem dX12_telling_182 : decode cX12_telling 182 = .ok (.istore 7, 2) := by decide +kernel
theorem dX12_telling_184 : decode cX12_telling 184 = .ok (.aload_n 0, 1) := by decide +kernel
theorem dX12_telling_185 : decode cX12_telling 185 = .ok (.iconst 3, 1) := by decide +kernel
theorem dX12_telling_186 : decode cX12_telling 186 = .ok (.sipush 999, 3) := by decide +kernel
theorem dX12_telling_189 : decode cX12_telling 189 = .ok (.invokevirtual 259, 3) := by decide +kernel
theorem dX12_telling_192 : decode cX12_telling 192 = .ok (.istore 8, 2) := by decide +kernel
theorem dX12_telling_194 : decode cX12_telling 194 = .ok (.aload_n 0, 1) := by decide +kernel
theorem dX12_telling_195 : decode cX12_telling 195 = .ok (.invokevirtual 232, 3) := by decide +kernel
theorem dX12_telling_198 : decode cX12_telling 198 = .ok (.ifCond .ne 10, 3) := by decide +kernel
theorem dX12_telling_201 : decode cX12_telling 201 = .ok (.iconst (-1), 1) := by decide +kernel
theorem dX12_telling_202 : decode cX12_telling 202 = .ok (.aload_n 0, 1) := by decide +kernel
theorem dX12_telling_203 : decode cX12_telling 203 = .ok (.getfield 229, 3) := by decide +kernel
theorem dX12_telling_206 : decode cX12_telling 206 = .ok (.isub, 1) := by decide +kernel
theorem dX12_telling_207 : decode cX12_telling 207 = .ok (.ireturn, 1) := by decide +kernel
theorem dX12_telling_208 : decode cX12_telling 208 = .ok (.iconst 4, 1) := by decide +kernel
theorem dX12_telling_209 : decode cX12_telling 209 = .ok (.bipush 16, 2) := by decide +kernel
theorem dX12_telling_211 : decode cX12_telling 211 = .ok (.aload_n 0, 1) := by decide +kernel
theorem dX12_telling_212 : decode cX12_telling 212 = .ok (.getfield 345, 3) := by decide +kernel
theorem dX12_telling_215 : decode cX12_telling 215 = .ok (.imul, 1) := by decide +kernel
theorem dX12_telling_216 : decode cX12_telling 216 = .ok (.iload_n 2, 1) := by decide +kernel
theorem dX12_telling_217 : decode cX12_telling 217 = .ok (.iadd, 1) := by decide +kernel
theorem dX12_telling_218 : decode cX12_telling 218 = .ok (.imul, 1) := by decide +kernel
theorem dX12_telling_219 : decode cX12_telling 219 = .ok (.istore 9, 2) := by decide +kernel
theorem dX12_telling_221 : decode cX12_telling 221 = .ok (.aload_n 0, 1) := by decide +kernel
theorem dX12_telling_222 : decode cX12_telling 222 = .ok (.getfield 85, 3) := by decide +kernel
theorem dX12_telling_225 : decode cX12_telling 225 = .ok (.iload 9, 2) := by decide +kernel
theorem dX12_telling_227 : decode cX12_telling 227 = .ok (.iload 4, 2) := by decide +kernel
theorem dX12_telling_229 : decode cX12_telling 229 = .ok (.iastore, 1) := by decide +kernel
theorem dX12_telling_230 : decode cX12_telling 230 = .ok (.aload_n 0, 1) := by decide +kernel
theorem dX12_telling_231 : decode cX12_telling 231 = .ok (.getfield 85, 3) := by decide +kernel
theorem dX12_telling_234 : decode cX12_telling 234 = .ok (.iload 9, 2) := by decide +kernel
theorem dX12_telling_236 : decode cX12_telling 236 = .ok (.iconst 1, 1) := by decide +kernel
theorem dX12_telling_237 : decode cX12_telling 237 = .ok (.iadd, 1) := by decide +kernel
theorem dX12_telling_238 : decode cX12_telling 238 = .ok (.iload 5, 2) := by decide +kernel
theorem dX12_telling_240 : decode cX12_telling 240 = .ok (.iastore, 1) := by decide +kernel
theorem dX12_telling_241 : decode cX12_telling 241 = .ok (.aload_n 0, 1) := by decide +kernel
theorem dX12_telling_242 : decode cX12_telling 242 = .ok (.getfield 85, 3) := by decide +kernel
theorem dX12_telling_245 : decode cX12_telling 245 = .ok (.iload 9, 2) := by decide +kernel
theorem dX12_telling_247 : decode cX12_telling 247 = .ok (.iconst 2, 1) := by decide +kernel
theorem dX12_telling_248 : decode cX12_telling 248 = .ok (.iadd, 1) := by decide +kernel
theorem dX12_telling_249 : decode cX12_telling 249 = .ok (.iload 6, 2) := by decide +kernel
theorem dX12_telling_251 : decode cX12_telling 251 = .ok (.iastore, 1) := by decide +kernel
theorem dX12_telling_252 : decode cX12_telling 252 = .ok (.aload_n 0, 1) := by decide +kernel
theorem dX12_telling_253 : decode cX12_telling 253 = .ok (.getfield 85, 3) := by decide +kernel
theorem dX12_telling_256 : decode cX12_telling 256 = .ok (.iload 9, 2) := by decide +kernel
theorem dX12_telling_258 : decode cX12_telling 258 = .ok (.iconst 3, 1) := by decide +kernel
theorem dX12_telling_259 : decode cX12_telling 259 = .ok (.iadd, 1) := by decide +kernel
theorem dX12_telling_260 : decode cX12_telling 260 = .ok (.iload 7, 2) := by decide +kernel
theorem dX12_telling_262 : decode cX12_telling 262 = .ok (.ifCond .eq 9, 3) := by decide +kernel
theorem dX12_telling_265 : decode cX12_telling 265 = .ok (.iload 8, 2) := by decide +kernel
theorem dX12_telling_267 : decode cX12_telling 267 = .ok (.ineg, 1) := by decide +kernel
theorem dX12_telling_268 : decode cX12_telling 268 = .ok (.goto 5, 3) := by decide +kernel
theorem dX12_telling_271 : decode cX12_telling 271 = .ok (.iload 8, 2) := by decide +kernel
theorem dX12_telling_273 : decode cX12_telling 273 = .ok (.iastore, 1) := by decide +kernel
theorem dX12_telling_274 : decode cX12_telling 274 = .ok (.iinc 2 1, 3) := by decide +kernel
theorem dX12_telling_277 : decode cX12_telling 277 = .ok (.aload_n 0, 1) := by decide +kernel
theorem dX12_telling_278 : decode cX12_telling 278 = .ok (.bipush 59, 2) := by decide +kernel
theorem dX12_telling_280 : decode cX12_telling 280 = .ok (.invokevirtual 239, 3) := by decide +kernel
theorem dX12_telling_283 : decode cX12_telling 283 = .ok (.istore_n 3, 1) := by decide +kernel
theorem dX12_telling_284 : decode cX12_telling 284 = .ok (.goto (-223), 3) := by decide +kernel
theorem dX12_telling_287 : decode cX12_telling 287 = .ok (.aload_n 0, 1) := by decide +kernel
theorem dX12_telling_288 : decode cX12_telling 288 = .ok (.getfield 217, 3) := by decide +kernel
theorem dX12_telling_291 : decode cX12_telling 291 = .ok (.aload_n 0, 1) := by decide +kernel
theorem dX12_telling_292 : decode cX12_telling 292 = .ok (.getfield 220, 3) := by decide +kernel
theorem dX12_telling_295 : decode cX12_telling 295 = .ok (.if_icmp .ge 10, 3) := by decide +kernel
theorem dX12_telling_298 : decode cX12_telling 298 = .ok (.iconst (-1), 1) := by decide +kernel
theorem dX12_telling_299 : decode cX12_telling 299 = .ok (.aload_n 0, 1) := by decide +kernel
theorem dX12_telling_300 : decode cX12_telling 300 = .ok (.getfield 217, 3) := by decide +kernel
theorem dX12_telling_303 : decode cX12_telling 303 = .ok (.isub, 1) := by decide +kernel
theorem dX12_telling_304 : decode cX12_telling 304 = .ok (.ireturn, 1) := by decide +kernel
theorem dX12_telling_305 : decode cX12_telling 305 = .ok (.aload_n 0, 1) := by decide +kernel
theorem dX12_telling_306 : decode cX12_telling 306 = .ok (.getfield 82, 3) := by decide +kernel
theorem dX12_telling_309 : decode cX12_telling 309 = .ok (.aload_n 0, 1) := by decide +kernel
theorem dX12_telling_310 : decode cX12_telling 310 = .ok (.getfield 345, 3) := by decide +kernel
theorem dX12_telling_313 : decode cX12_telling 313 = .ok (.iload_n 2, 1) := by decide +kernel
theorem dX12_telling_314 : decode cX12_telling 314 = .ok (.iastore, 1) := by decide +kernel
theorem dX12_telling_315 : decode cX12_telling 315 = .ok (.aload_n 0, 1) := by decide +kernel
theorem dX12_telling_316 : decode cX12_telling 316 = .ok (.dup, 1) := by decide +kernel
theorem dX12_telling_317 : decode cX12_telling 317 = .ok (.getfield 345, 3) := by decide +kernel
theorem dX12_telling_320 : decode cX12_telling 320 = .ok (.iconst 1, 1) := by decide +kernel
theorem dX12_telling_321 : decode cX12_telling 321 = .ok (.iadd, 1) := by decide +kernel
theorem dX12_telling_322 : decode cX12_telling 322 = .ok (.putfield 345, 3) := by decide +kernel
theorem dX12_telling_325 : decode cX12_telling 325 = .ok (.aload_n 0, 1) := by decide +kernel
theorem dX12_telling_326 : decode cX12_telling 326 = .ok (.getfield 345, 3) := by decide +kernel
theorem dX12_telling_329 : decode cX12_telling 329 = .ok (.iconst 1, 1) := by decide +kernel
theorem dX12_telling_330 : decode cX12_telling 330 = .ok (.isub, 1) := by decide +kernel
theorem dX12_telling_331 : decode cX12_telling 331 = .ok (.ireturn, 1) := by decide +kernel
theorem dX12_gauge_0 : decode cX12_gauge 0 = .ok (.aload_n 0, 1) := by decide +kernel
theorem dX12_gauge_1 : decode cX12_gauge 1 = .ok (.iconst 0, 1) := by decide +kernel
theorem dX12_gauge_2 : decode cX12_gauge 2 = .ok (.putfield 133, 3) := by decide +kernel
theorem dX12_gauge_5 : decode cX12_gauge 5 = .ok (.iload_n 1, 1) := by decide +kernel
theorem dX12_gauge_6 : decode cX12_gauge 6 = .ok (.iconst 0, 1) := by decide +kernel
theorem dX12_gauge_7 : decode cX12_gauge 7 = .ok (.sipush 200, 3) := by decide +kernel
theorem dX12_gauge_10 : decode cX12_gauge 10 = .ok (.invokestatic 142, 3) := by decide +kernel
theorem dX12_gauge_13 : decode cX12_gauge 13 = .ok (.ifCond .eq 40, 3) := by decide +kernel
theorem dX12_gauge_16 : decode cX12_gauge 16 = .ok (.iload_n 2, 1) := by decide +kernel
theorem dX12_gauge_17 : decode cX12_gauge 17 = .ok (.invokestatic 178, 3) := by decide +kernel
theorem dX12_gauge_20 : decode cX12_gauge 20 = .ok (.ifCond .eq 33, 3) := by decide +kernel
theorem dX12_gauge_23 : decode cX12_gauge 23 = .ok (.iload_n 3, 1) := by decide +kernel
theorem dX12_gauge_24 : decode cX12_gauge 24 = .ok (.iconst 0, 1) := by decide +kernel
theorem dX12_gauge_25 : decode cX12_gauge 25 = .ok (.iconst 2, 1) := by decide +kernel
theorem dX12_gauge_26 : decode cX12_gauge 26 = .ok (.invokestatic 142, 3) := by decide +kernel
theorem dX12_gauge_29 : decode cX12_gauge 29 = .ok (.ifCond .eq 24, 3) := by decide +kernel
theorem dX12_gauge_32 : decode cX12_gauge 32 = .ok (.iload 4, 2) := by decide +kernel
theorem dX12_gauge_34 : decode cX12_gauge 34 = .ok (.ldc 163, 2) := by decide +kernel
theorem dX12_gauge_36 : decode cX12_gauge 36 = .ok (.ldc 164, 2) := by decide +kernel
theorem dX12_gauge_38 : decode cX12_gauge 38 = .ok (.invokestatic 142, 3) := by decide +kernel
theorem dX12_gauge_41 : decode cX12_gauge 41 = .ok (.ifCond .eq 12, 3) := by decide +kernel
theorem dX12_gauge_44 : decode cX12_gauge 44 = .ok (.aload_n 0, 1) := by decide +kernel
theorem dX12_gauge_45 : decode cX12_gauge 45 = .ok (.getfield 351, 3) := by decide +kernel
theorem dX12_gauge_48 : decode cX12_gauge 48 = .ok (.bipush 12, 2) := by decide +kernel
theorem dX12_gauge_50 : decode cX12_gauge 50 = .ok (.if_icmp .ne 5, 3) := by decide +kernel
theorem dX12_gauge_53 : decode cX12_gauge 53 = .ok (.iconst (-1), 1) := by decide +kernel
theorem dX12_gauge_54 : decode cX12_gauge 54 = .ok (.ireturn, 1) := by decide +kernel
theorem dX12_gauge_55 : decode cX12_gauge 55 = .ok (.aload_n 0, 1) := by decide +kernel
theorem dX12_gauge_56 : decode cX12_gauge 56 = .ok (.getfield 88, 3) := by decide +kernel
theorem dX12_gauge_59 : decode cX12_gauge 59 = .ok (.aload_n 0, 1) := by decide +kernel
theorem dX12_gauge_60 : decode cX12_gauge 60 = .ok (.getfield 351, 3) := by decide +kernel
theorem dX12_gauge_63 : decode cX12_gauge 63 = .ok (.iload_n 1, 1) := by decide +kernel
theorem dX12_gauge_64 : decode cX12_gauge 64 = .ok (.iastore, 1) := by decide +kernel
theorem dX12_gauge_65 : decode cX12_gauge 65 = .ok (.aload_n 0, 1) := by decide +kernel
theorem dX12_gauge_66 : decode cX12_gauge 66 = .ok (.getfield 91, 3) := by decide +kernel
theorem dX12_gauge_69 : decode cX12_gauge 69 = .ok (.aload_n 0, 1) := by decide +kernel
theorem dX12_gauge_70 : decode cX12_gauge 70 = .ok (.getfield 351, 3) := by decide +kernel
theorem dX12_gauge_73 : decode cX12_gauge 73 = .ok (.iload_n 2, 1) := by decide +kernel
theorem dX12_gauge_74 : decode cX12_gauge 74 = .ok (.iastore, 1) := by decide +kernel
theorem dX12_gauge_75 : decode cX12_gauge 75 = .ok (.aload_n 0, 1) := by decide +kernel
theorem dX12_gauge_76 : decode cX12_gauge 76 = .ok (.getfield 94, 3) := by decide +kernel
theorem dX12_gauge_79 : decode cX12_gauge 79 = .ok (.aload_n 0, 1) := by decide +kernel
theorem dX12_gauge_80 : decode cX12_gauge 80 = .ok (.getfield 351, 3) := by decide +kernel
theorem dX12_gauge_83 : decode cX12_gauge 83 = .ok (.iload_n 3, 1) := by decide +kernel
theorem dX12_gauge_84 : decode cX12_gauge 84 = .ok (.iastore, 1) := by decide +kernel
theorem dX12_gauge_85 : decode cX12_gauge 85 = .ok (.aload_n 0, 1) := by decide +kernel
theorem dX12_gauge_86 : decode cX12_gauge 86 = .ok (.getfield 97, 3) := by decide +kernel
theorem dX12_gauge_89 : decode cX12_gauge 89 = .ok (.aload_n 0, 1) := by decide +kernel
theorem dX12_gauge_90 : decode cX12_gauge 90 = .ok (.getfield 351, 3) := by decide +kernel
theorem dX12_gauge_93 : decode cX12_gauge 93 = .ok (.iload 4, 2) := by decide +kernel
theorem dX12_gauge_95 : decode cX12_gauge 95 = .ok (.iastore, 1) := by decide +kernel
theorem dX12_gauge_96 : decode cX12_gauge 96 = .ok (.aload_n 0, 1) := by decide +kernel
theorem dX12_gauge_97 : decode cX12_gauge 97 = .ok (.dup, 1) := by decide +kernel
theorem dX12_gauge_98 : decode cX12_gauge 98 = .ok (.getfield 351, 3) := by decide +kernel
theorem dX12_gauge_101 : decode cX12_gauge 101 = .ok (.iconst 1, 1) := by decide +kernel
theorem dX12_gauge_102 : decode cX12_gauge 102 = .ok (.iadd, 1) := by decide +kernel
theorem dX12_gauge_103 : decode cX12_gauge 103 = .ok (.putfield 351, 3) := by decide +kernel
theorem dX12_gauge_106 : decode cX12_gauge 106 = .ok (.aload_n 0, 1) := by decide +kernel
theorem dX12_gauge_107 : decode cX12_gauge 107 = .ok (.getfield 351, 3) := by decide +kernel
theorem dX12_gauge_110 : decode cX12_gauge 110 = .ok (.ireturn, 1) := by decide +kernel
theorem dX12_toldBy_0 : decode cX12_toldBy 0 = .ok (.aload_n 0, 1) := by decide +kernel
theorem dX12_toldBy_1 : decode cX12_toldBy 1 = .ok (.invokevirtual 292, 3) := by decide +kernel
theorem dX12_toldBy_4 : decode cX12_toldBy 4 = .ok (.iconst 0, 1) := by decide +kernel
theorem dX12_toldBy_5 : decode cX12_toldBy 5 = .ok (.istore 5, 2) := by decide +kernel
theorem dX12_toldBy_7 : decode cX12_toldBy 7 = .ok (.iload 5, 2) := by decide +kernel
theorem dX12_toldBy_9 : decode cX12_toldBy 9 = .ok (.aload_n 0, 1) := by decide +kernel
theorem dX12_toldBy_10 : decode cX12_toldBy 10 = .ok (.getfield 82, 3) := by decide +kernel
theorem dX12_toldBy_13 : decode cX12_toldBy 13 = .ok (.iload_n 1, 1) := by decide +kernel
theorem dX12_toldBy_14 : decode cX12_toldBy 14 = .ok (.iaload, 1) := by decide +kernel
theorem dX12_toldBy_15 : decode cX12_toldBy 15 = .ok (.if_icmp .ge 125, 3) := by decide +kernel
theorem dX12_toldBy_18 : decode cX12_toldBy 18 = .ok (.iconst 4, 1) := by decide +kernel
theorem dX12_toldBy_19 : decode cX12_toldBy 19 = .ok (.bipush 16, 2) := by decide +kernel
theorem dX12_toldBy_21 : decode cX12_toldBy 21 = .ok (.iload_n 1, 1) := by decide +kernel
theorem dX12_toldBy_22 : decode cX12_toldBy 22 = .ok (.imul, 1) := by decide +kernel
theorem dX12_toldBy_23 : decode cX12_toldBy 23 = .ok (.iload 5, 2) := by decide +kernel
theorem dX12_toldBy_25 : decode cX12_toldBy 25 = .ok (.iadd, 1) := by decide +kernel
theorem dX12_toldBy_26 : decode cX12_toldBy 26 = .ok (.imul, 1) := by decide +kernel
theorem dX12_toldBy_27 : decode cX12_toldBy 27 = .ok (.istore 6, 2) := by decide +kernel
theorem dX12_toldBy_29 : decode cX12_toldBy 29 = .ok (.aload_n 0, 1) := by decide +kernel
theorem dX12_toldBy_30 : decode cX12_toldBy 30 = .ok (.getfield 85, 3) := by decide +kernel
theorem dX12_toldBy_33 : decode cX12_toldBy 33 = .ok (.iload 6, 2) := by decide +kernel
theorem dX12_toldBy_35 : decode cX12_toldBy 35 = .ok (.iaload, 1) := by decide +kernel
theorem dX12_toldBy_36 : decode cX12_toldBy 36 = .ok (.bipush 98, 2) := by decide +kernel
theorem dX12_toldBy_38 : decode cX12_toldBy 38 = .ok (.if_icmp .ne 15, 3) := by decide +kernel
theorem dX12_toldBy_41 : decode cX12_toldBy 41 = .ok (.aload_n 0, 1) := by decide +kernel
theorem dX12_toldBy_42 : decode cX12_toldBy 42 = .ok (.getfield 85, 3) := by decide +kernel
theorem dX12_toldBy_45 : decode cX12_toldBy 45 = .ok (.iload 6, 2) := by decide +kernel
theorem dX12_toldBy_47 : decode cX12_toldBy 47 = .ok (.iconst 3, 1) := by decide +kernel
theorem dX12_toldBy_48 : decode cX12_toldBy 48 = .ok (.iadd, 1) := by decide +kernel
theorem dX12_toldBy_49 : decode cX12_toldBy 49 = .ok (.iaload, 1) := by decide +kernel
theorem dX12_toldBy_50 : decode cX12_toldBy 50 = .ok (.goto 14, 3) := by decide +kernel
theorem dX12_toldBy_53 : decode cX12_toldBy 53 = .ok (.aload_n 0, 1) := by decide +kernel
theorem dX12_toldBy_54 : decode cX12_toldBy 54 = .ok (.getfield 85, 3) := by decide +kernel
theorem dX12_toldBy_57 : decode cX12_toldBy 57 = .ok (.iload 6, 2) := by decide +kernel
theorem dX12_toldBy_59 : decode cX12_toldBy 59 = .ok (.iconst 3, 1) := by decide +kernel
theorem dX12_toldBy_60 : decode cX12_toldBy 60 = .ok (.iadd, 1) := by decide +kernel
theorem dX12_toldBy_61 : decode cX12_toldBy 61 = .ok (.iaload, 1) := by decide +kernel
theorem dX12_toldBy_62 : decode cX12_toldBy 62 = .ok (.iload_n 2, 1) := by decide +kernel
theorem dX12_toldBy_63 : decode cX12_toldBy 63 = .ok (.imul, 1) := by decide +kernel
theorem dX12_toldBy_64 : decode cX12_toldBy 64 = .ok (.istore 7, 2) := by decide +kernel
theorem dX12_toldBy_66 : decode cX12_toldBy 66 = .ok (.aload_n 0, 1) := by decide +kernel
theorem dX12_toldBy_67 : decode cX12_toldBy 67 = .ok (.getfield 22, 3) := by decide +kernel
theorem dX12_toldBy_70 : decode cX12_toldBy 70 = .ok (.aload_n 0, 1) := by decide +kernel
theorem dX12_toldBy_71 : decode cX12_toldBy 71 = .ok (.getfield 85, 3) := by decide +kernel
theorem dX12_toldBy_74 : decode cX12_toldBy 74 = .ok (.iload 6, 2) := by decide +kernel
theorem dX12_toldBy_76 : decode cX12_toldBy 76 = .ok (.iconst 1, 1) := by decide +kernel
theorem dX12_toldBy_77 : decode cX12_toldBy 77 = .ok (.iadd, 1) := by decide +kernel
theorem dX12_toldBy_78 : decode cX12_toldBy 78 = .ok (.iaload, 1) := by decide +kernel
theorem dX12_toldBy_79 : decode cX12_toldBy 79 = .ok (.dup2, 1) := by decide +kernel
theorem dX12_toldBy_80 : decode cX12_toldBy 80 = .ok (.iaload, 1) := by decide +kernel
theorem dX12_toldBy_81 : decode cX12_toldBy 81 = .ok (.aload_n 0, 1) := by decide +kernel
theorem dX12_toldBy_82 : decode cX12_toldBy 82 = .ok (.getfield 85, 3) := by decide +kernel
theorem dX12_toldBy_85 : decode cX12_toldBy 85 = .ok (.iload 6, 2) := by decide +kernel
theorem dX12_toldBy_87 : decode cX12_toldBy 87 = .ok (.iaload, 1) := by decide +kernel
theorem dX12_toldBy_88 : decode cX12_toldBy 88 = .ok (.bipush 118, 2) := by decide +kernel
theorem dX12_toldBy_90 : decode cX12_toldBy 90 = .ok (.if_icmp .ne 9, 3) := by decide +kernel
theorem dX12_toldBy_93 : decode cX12_toldBy 93 = .ok (.iload 7, 2) := by decide +kernel
theorem dX12_toldBy_95 : decode cX12_toldBy 95 = .ok (.ineg, 1) := by decide +kernel
theorem dX12_toldBy_96 : decode cX12_toldBy 96 = .ok (.goto 5, 3) := by decide +kernel
theorem dX12_toldBy_99 : decode cX12_toldBy 99 = .ok (.iload 7, 2) := by decide +kernel
theorem dX12_toldBy_101 : decode cX12_toldBy 101 = .ok (.iadd, 1) := by decide +kernel
theorem dX12_toldBy_102 : decode cX12_toldBy 102 = .ok (.iastore, 1) := by decide +kernel
theorem dX12_toldBy_103 : decode cX12_toldBy 103 = .ok (.aload_n 0, 1) := by decide +kernel
theorem dX12_toldBy_104 : decode cX12_toldBy 104 = .ok (.getfield 85, 3) := by decide +kernel
theorem dX12_toldBy_107 : decode cX12_toldBy 107 = .ok (.iload 6, 2) := by decide +kernel
theorem dX12_toldBy_109 : decode cX12_toldBy 109 = .ok (.iaload, 1) := by decide +kernel
theorem dX12_toldBy_110 : decode cX12_toldBy 110 = .ok (.bipush 118, 2) := by decide +kernel
theorem dX12_toldBy_112 : decode cX12_toldBy 112 = .ok (.if_icmp .ne 22, 3) := by decide +kernel
theorem dX12_toldBy_115 : decode cX12_toldBy 115 = .ok (.aload_n 0, 1) := by decide +kernel
theorem dX12_toldBy_116 : decode cX12_toldBy 116 = .ok (.getfield 22, 3) := by decide +kernel
theorem dX12_toldBy_119 : decode cX12_toldBy 119 = .ok (.aload_n 0, 1) := by decide +kernel
theorem dX12_toldBy_120 : decode cX12_toldBy 120 = .ok (.getfield 85, 3) := by decide +kernel
theorem dX12_toldBy_123 : decode cX12_toldBy 123 = .ok (.iload 6, 2) := by decide +kernel
theorem dX12_toldBy_125 : decode cX12_toldBy 125 = .ok (.iconst 2, 1) := by decide +kernel
theorem dX12_toldBy_126 : decode cX12_toldBy 126 = .ok (.iadd, 1) := by decide +kernel
theorem dX12_toldBy_127 : decode cX12_toldBy 127 = .ok (.iaload, 1) := by decide +kernel
theorem dX12_toldBy_128 : decode cX12_toldBy 128 = .ok (.dup2, 1) := by decide +kernel
theorem dX12_toldBy_129 : decode cX12_toldBy 129 = .ok (.iaload, 1) := by decide +kernel
theorem dX12_toldBy_130 : decode cX12_toldBy 130 = .ok (.iload 7, 2) := by decide +kernel
theorem dX12_toldBy_132 : decode cX12_toldBy 132 = .ok (.iadd, 1) := by decide +kernel
theorem dX12_toldBy_133 : decode cX12_toldBy 133 = .ok (.iastore, 1) := by decide +kernel
theorem dX12_toldBy_134 : decode cX12_toldBy 134 = .ok (.iinc 5 1, 3) := by decide +kernel
theorem dX12_toldBy_137 : decode cX12_toldBy 137 = .ok (.goto (-130), 3) := by decide +kernel
theorem dX12_toldBy_140 : decode cX12_toldBy 140 = .ok (.iload 4, 2) := by decide +kernel
theorem dX12_toldBy_142 : decode cX12_toldBy 142 = .ok (.ifCond .ne 11, 3) := by decide +kernel
theorem dX12_toldBy_145 : decode cX12_toldBy 145 = .ok (.aload_n 0, 1) := by decide +kernel
theorem dX12_toldBy_146 : decode cX12_toldBy 146 = .ok (.iload_n 3, 1) := by decide +kernel
theorem dX12_toldBy_147 : decode cX12_toldBy 147 = .ok (.invokevirtual 198, 3) := by decide +kernel
theorem dX12_toldBy_150 : decode cX12_toldBy 150 = .ok (.goto 11, 3) := by decide +kernel
theorem dX12_toldBy_153 : decode cX12_toldBy 153 = .ok (.aload_n 0, 1) := by decide +kernel
theorem dX12_toldBy_154 : decode cX12_toldBy 154 = .ok (.iload 4, 2) := by decide +kernel
theorem dX12_toldBy_156 : decode cX12_toldBy 156 = .ok (.iconst 1, 1) := by decide +kernel
theorem dX12_toldBy_157 : decode cX12_toldBy 157 = .ok (.isub, 1) := by decide +kernel
theorem dX12_toldBy_158 : decode cX12_toldBy 158 = .ok (.invokevirtual 204, 3) := by decide +kernel
theorem dX12_toldBy_161 : decode cX12_toldBy 161 = .ok (.istore 5, 2) := by decide +kernel
theorem dX12_toldBy_163 : decode cX12_toldBy 163 = .ok (.aload_n 0, 1) := by decide +kernel
theorem dX12_toldBy_164 : decode cX12_toldBy 164 = .ok (.invokevirtual 298, 3) := by decide +kernel
theorem dX12_toldBy_167 : decode cX12_toldBy 167 = .ok (.iload 5, 2) := by decide +kernel
theorem dX12_toldBy_169 : decode cX12_toldBy 169 = .ok (.ireturn, 1) := by decide +kernel
theorem dX12_tells_0 : decode cX12_tells 0 = .ok (.aload_n 0, 1) := by decide +kernel
theorem dX12_tells_1 : decode cX12_tells 1 = .ok (.iconst 0, 1) := by decide +kernel
theorem dX12_tells_2 : decode cX12_tells 2 = .ok (.putfield 133, 3) := by decide +kernel
theorem dX12_tells_5 : decode cX12_tells 5 = .ok (.iload_n 1, 1) := by decide +kernel
theorem dX12_tells_6 : decode cX12_tells 6 = .ok (.iconst 0, 1) := by decide +kernel
theorem dX12_tells_7 : decode cX12_tells 7 = .ok (.aload_n 0, 1) := by decide +kernel
theorem dX12_tells_8 : decode cX12_tells 8 = .ok (.getfield 345, 3) := by decide +kernel
theorem dX12_tells_11 : decode cX12_tells 11 = .ok (.iconst 1, 1) := by decide +kernel
theorem dX12_tells_12 : decode cX12_tells 12 = .ok (.isub, 1) := by decide +kernel
theorem dX12_tells_13 : decode cX12_tells 13 = .ok (.invokestatic 142, 3) := by decide +kernel
theorem dX12_tells_16 : decode cX12_tells 16 = .ok (.ifCond .eq 43, 3) := by decide +kernel
theorem dX12_tells_19 : decode cX12_tells 19 = .ok (.iload_n 2, 1) := by decide +kernel
theorem dX12_tells_20 : decode cX12_tells 20 = .ok (.iconst 0, 1) := by decide +kernel
theorem dX12_tells_21 : decode cX12_tells 21 = .ok (.sipush 200, 3) := by decide +kernel
theorem dX12_tells_24 : decode cX12_tells 24 = .ok (.invokestatic 142, 3) := by decide +kernel
theorem dX12_tells_27 : decode cX12_tells 27 = .ok (.ifCond .eq 32, 3) := by decide +kernel
theorem dX12_tells_30 : decode cX12_tells 30 = .ok (.iload_n 3, 1) := by decide +kernel
theorem dX12_tells_31 : decode cX12_tells 31 = .ok (.invokestatic 178, 3) := by decide +kernel
theorem dX12_tells_34 : decode cX12_tells 34 = .ok (.ifCond .eq 25, 3) := by decide +kernel
theorem dX12_tells_37 : decode cX12_tells 37 = .ok (.iload 4, 2) := by decide +kernel
theorem dX12_tells_39 : decode cX12_tells 39 = .ok (.iconst 0, 1) := by decide +kernel
theorem dX12_tells_40 : decode cX12_tells 40 = .ok (.iconst 2, 1) := by decide +kernel
theorem dX12_tells_41 : decode cX12_tells 41 = .ok (.invokestatic 142, 3) := by decide +kernel
theorem dX12_tells_44 : decode cX12_tells 44 = .ok (.ifCond .eq 15, 3) := by decide +kernel
theorem dX12_tells_47 : decode cX12_tells 47 = .ok (.aload_n 0, 1) := by decide +kernel
theorem dX12_tells_48 : decode cX12_tells 48 = .ok (.iload_n 1, 1) := by decide +kernel
theorem dX12_tells_49 : decode cX12_tells 49 = .ok (.iload_n 2, 1) := by decide +kernel
theorem dX12_tells_50 : decode cX12_tells 50 = .ok (.iload_n 3, 1) := by decide +kernel
theorem dX12_tells_51 : decode cX12_tells 51 = .ok (.iload 4, 2) := by decide +kernel
theorem dX12_tells_53 : decode cX12_tells 53 = .ok (.invokevirtual 354, 3) := by decide +kernel
theorem dX12_tells_56 : decode cX12_tells 56 = .ok (.goto 7, 3) := by decide +kernel
theorem dX12_tells_59 : decode cX12_tells 59 = .ok (.aload_n 0, 1) := by decide +kernel
theorem dX12_tells_60 : decode cX12_tells 60 = .ok (.invokevirtual 184, 3) := by decide +kernel
theorem dX12_tells_63 : decode cX12_tells 63 = .ok (.ireturn, 1) := by decide +kernel
theorem dX12_letting_0 : decode cX12_letting 0 = .ok (.iconst 0, 1) := by decide +kernel
theorem dX12_letting_1 : decode cX12_letting 1 = .ok (.istore_n 2, 1) := by decide +kernel
theorem dX12_letting_2 : decode cX12_letting 2 = .ok (.iconst 0, 1) := by decide +kernel
theorem dX12_letting_3 : decode cX12_letting 3 = .ok (.istore_n 3, 1) := by decide +kernel
theorem dX12_letting_4 : decode cX12_letting 4 = .ok (.iload_n 3, 1) := by decide +kernel
theorem dX12_letting_5 : decode cX12_letting 5 = .ok (.aload_n 0, 1) := by decide +kernel
theorem dX12_letting_6 : decode cX12_letting 6 = .ok (.getfield 345, 3) := by decide +kernel
theorem dX12_letting_9 : decode cX12_letting 9 = .ok (.if_icmp .ge 120, 3) := by decide +kernel
theorem dX12_letting_12 : decode cX12_letting 12 = .ok (.aload_n 0, 1) := by decide +kernel
theorem dX12_letting_13 : decode cX12_letting 13 = .ok (.getfield 100, 3) := by decide +kernel
theorem dX12_letting_16 : decode cX12_letting 16 = .ok (.iload_n 3, 1) := by decide +kernel
theorem dX12_letting_17 : decode cX12_letting 17 = .ok (.iconst 0, 1) := by decide +kernel
theorem dX12_letting_18 : decode cX12_letting 18 = .ok (.iastore, 1) := by decide +kernel
theorem dX12_letting_19 : decode cX12_letting 19 = .ok (.iconst 1, 1) := by decide +kernel
theorem dX12_letting_20 : decode cX12_letting 20 = .ok (.istore 4, 2) := by decide +kernel
theorem dX12_letting_22 : decode cX12_letting 22 = .ok (.iconst 0, 1) := by decide +kernel
theorem dX12_letting_23 : decode cX12_letting 23 = .ok (.istore 5, 2) := by decide +kernel
theorem dX12_letting_25 : decode cX12_letting 25 = .ok (.iload 5, 2) := by decide +kernel
theorem dX12_letting_27 : decode cX12_letting 27 = .ok (.aload_n 0, 1) := by decide +kernel
theorem dX12_letting_28 : decode cX12_letting 28 = .ok (.getfield 351, 3) := by decide +kernel
theorem dX12_letting_31 : decode cX12_letting 31 = .ok (.if_icmp .ge 77, 3) := by decide +kernel
theorem dX12_letting_34 : decode cX12_letting 34 = .ok (.aload_n 0, 1) := by decide +kernel
theorem dX12_letting_35 : decode cX12_letting 35 = .ok (.iload_n 3, 1) := by decide +kernel
theorem dX12_letting_36 : decode cX12_letting 36 = .ok (.aload_n 0, 1) := by decide +kernel
theorem dX12_letting_37 : decode cX12_letting 37 = .ok (.getfield 88, 3) := by decide +kernel
theorem dX12_letting_40 : decode cX12_letting 40 = .ok (.iload 5, 2) := by decide +kernel
theorem dX12_letting_42 : decode cX12_letting 42 = .ok (.iaload, 1) := by decide +kernel
theorem dX12_letting_43 : decode cX12_letting 43 = .ok (.aload_n 0, 1) := by decide +kernel
theorem dX12_letting_44 : decode cX12_letting 44 = .ok (.getfield 91, 3) := by decide +kernel
theorem dX12_letting_47 : decode cX12_letting 47 = .ok (.iload 5, 2) := by decide +kernel
theorem dX12_letting_49 : decode cX12_letting 49 = .ok (.iaload, 1) := by decide +kernel
theorem dX12_letting_50 : decode cX12_letting 50 = .ok (.aload_n 0, 1) := by decide +kernel
theorem dX12_letting_51 : decode cX12_letting 51 = .ok (.getfield 94, 3) := by decide +kernel
theorem dX12_letting_54 : decode cX12_letting 54 = .ok (.iload 5, 2) := by decide +kernel
theorem dX12_letting_56 : decode cX12_letting 56 = .ok (.iaload, 1) := by decide +kernel
theorem dX12_letting_57 : decode cX12_letting 57 = .ok (.invokevirtual 354, 3) := by decide +kernel
theorem dX12_letting_60 : decode cX12_letting 60 = .ok (.aload_n 0, 1) := by decide +kernel
theorem dX12_letting_61 : decode cX12_letting 61 = .ok (.getfield 97, 3) := by decide +kernel
theorem dX12_letting_64 : decode cX12_letting 64 = .ok (.iload 5, 2) := by decide +kernel
theorem dX12_letting_66 : decode cX12_letting 66 = .ok (.iaload, 1) := by decide +kernel
theorem dX12_letting_67 : decode cX12_letting 67 = .ok (.isub, 1) := by decide +kernel
theorem dX12_letting_68 : decode cX12_letting 68 = .ok (.invokestatic 201, 3) := by decide +kernel
theorem dX12_letting_71 : decode cX12_letting 71 = .ok (.istore 6, 2) := by decide +kernel
theorem dX12_letting_73 : decode cX12_letting 73 = .ok (.aload_n 0, 1) := by decide +kernel
theorem dX12_letting_74 : decode cX12_letting 74 = .ok (.getfield 100, 3) := by decide +kernel
theorem dX12_letting_77 : decode cX12_letting 77 = .ok (.iload_n 3, 1) := by decide +kernel
theorem dX12_letting_78 : decode cX12_letting 78 = .ok (.dup2, 1) := by decide +kernel
theorem dX12_letting_79 : decode cX12_letting 79 = .ok (.iaload, 1) := by decide +kernel
theorem dX12_letting_80 : decode cX12_letting 80 = .ok (.iload 6, 2) := by decide +kernel
theorem dX12_letting_82 : decode cX12_letting 82 = .ok (.iadd, 1) := by decide +kernel
theorem dX12_letting_83 : decode cX12_letting 83 = .ok (.iastore, 1) := by decide +kernel
theorem dX12_letting_84 : decode cX12_letting 84 = .ok (.iload 4, 2) := by decide +kernel
theorem dX12_letting_86 : decode cX12_letting 86 = .ok (.ifCond .eq 13, 3) := by decide +kernel
theorem dX12_letting_89 : decode cX12_letting 89 = .ok (.iload 6, 2) := by decide +kernel
theorem dX12_letting_91 : decode cX12_letting 91 = .ok (.iload_n 1, 1) := by decide +kernel
theorem dX12_letting_92 : decode cX12_letting 92 = .ok (.if_icmp .gt 7, 3) := by decide +kernel
theorem dX12_letting_95 : decode cX12_letting 95 = .ok (.iconst 1, 1) := by decide +kernel
theorem dX12_letting_96 : decode cX12_letting 96 = .ok (.goto 4, 3) := by decide +kernel
theorem dX12_letting_99 : decode cX12_letting 99 = .ok (.iconst 0, 1) := by decide +kernel
theorem dX12_letting_100 : decode cX12_letting 100 = .ok (.istore 4, 2) := by decide +kernel
theorem dX12_letting_102 : decode cX12_letting 102 = .ok (.iinc 5 1, 3) := by decide +kernel
theorem dX12_letting_105 : decode cX12_letting 105 = .ok (.goto (-80), 3) := by decide +kernel
theorem dX12_letting_108 : decode cX12_letting 108 = .ok (.iload_n 2, 1) := by decide +kernel
theorem dX12_letting_109 : decode cX12_letting 109 = .ok (.iload 4, 2) := by decide +kernel
theorem dX12_letting_111 : decode cX12_letting 111 = .ok (.ifCond .eq 9, 3) := by decide +kernel
theorem dX12_letting_114 : decode cX12_letting 114 = .ok (.iconst 1, 1) := by decide +kernel
theorem dX12_letting_115 : decode cX12_letting 115 = .ok (.iload_n 3, 1) := by decide +kernel
theorem dX12_letting_116 : decode cX12_letting 116 = .ok (.ishl, 1) := by decide +kernel
theorem dX12_letting_117 : decode cX12_letting 117 = .ok (.goto 4, 3) := by decide +kernel
theorem dX12_letting_120 : decode cX12_letting 120 = .ok (.iconst 0, 1) := by decide +kernel
theorem dX12_letting_121 : decode cX12_letting 121 = .ok (.ior, 1) := by decide +kernel
theorem dX12_letting_122 : decode cX12_letting 122 = .ok (.istore_n 2, 1) := by decide +kernel
theorem dX12_letting_123 : decode cX12_letting 123 = .ok (.iinc 3 1, 3) := by decide +kernel
theorem dX12_letting_126 : decode cX12_letting 126 = .ok (.goto (-122), 3) := by decide +kernel
theorem dX12_letting_129 : decode cX12_letting 129 = .ok (.iload_n 2, 1) := by decide +kernel
theorem dX12_letting_130 : decode cX12_letting 130 = .ok (.ireturn, 1) := by decide +kernel
theorem dX12_fits_0 : decode cX12_fits 0 = .ok (.aload_n 0, 1) := by decide +kernel
theorem dX12_fits_1 : decode cX12_fits 1 = .ok (.iconst 0, 1) := by decide +kernel
theorem dX12_fits_2 : decode cX12_fits 2 = .ok (.putfield 133, 3) := by decide +kernel
theorem dX12_fits_5 : decode cX12_fits 5 = .ok (.iload_n 1, 1) := by decide +kernel
theorem dX12_fits_6 : decode cX12_fits 6 = .ok (.iconst 0, 1) := by decide +kernel
theorem dX12_fits_7 : decode cX12_fits 7 = .ok (.bipush 99, 2) := by decide +kernel
theorem dX12_fits_9 : decode cX12_fits 9 = .ok (.invokestatic 142, 3) := by decide +kernel
theorem dX12_fits_12 : decode cX12_fits 12 = .ok (.ifCond .ne 5, 3) := by decide +kernel
theorem dX12_fits_15 : decode cX12_fits 15 = .ok (.iconst (-1), 1) := by decide +kernel
theorem dX12_fits_16 : decode cX12_fits 16 = .ok (.ireturn, 1) := by decide +kernel
theorem dX12_fits_17 : decode cX12_fits 17 = .ok (.aload_n 0, 1) := by decide +kernel
theorem dX12_fits_18 : decode cX12_fits 18 = .ok (.iload_n 1, 1) := by decide +kernel
theorem dX12_fits_19 : decode cX12_fits 19 = .ok (.invokevirtual 358, 3) := by decide +kernel
theorem dX12_fits_22 : decode cX12_fits 22 = .ok (.istore_n 2, 1) := by decide +kernel
theorem dX12_fits_23 : decode cX12_fits 23 = .ok (.aload_n 0, 1) := by decide +kernel
theorem dX12_fits_24 : decode cX12_fits 24 = .ok (.iconst 0, 1) := by decide +kernel
theorem dX12_fits_25 : decode cX12_fits 25 = .ok (.putfield 136, 3) := by decide +kernel
theorem dX12_fits_28 : decode cX12_fits 28 = .ok (.iconst 0, 1) := by decide +kernel
theorem dX12_fits_29 : decode cX12_fits 29 = .ok (.istore_n 3, 1) := by decide +kernel
theorem dX12_fits_30 : decode cX12_fits 30 = .ok (.iload_n 3, 1) := by decide +kernel
theorem dX12_fits_31 : decode cX12_fits 31 = .ok (.aload_n 0, 1) := by decide +kernel
theorem dX12_fits_32 : decode cX12_fits 32 = .ok (.getfield 345, 3) := by decide +kernel
theorem dX12_fits_35 : decode cX12_fits 35 = .ok (.if_icmp .ge 19, 3) := by decide +kernel
theorem dX12_fits_38 : decode cX12_fits 38 = .ok (.aload_n 0, 1) := by decide +kernel
theorem dX12_fits_39 : decode cX12_fits 39 = .ok (.aload_n 0, 1) := by decide +kernel
theorem dX12_fits_40 : decode cX12_fits 40 = .ok (.getfield 100, 3) := by decide +kernel
theorem dX12_fits_43 : decode cX12_fits 43 = .ok (.iload_n 3, 1) := by decide +kernel
theorem dX12_fits_44 : decode cX12_fits 44 = .ok (.iaload, 1) := by decide +kernel
theorem dX12_fits_45 : decode cX12_fits 45 = .ok (.invokevirtual 210, 3) := by decide +kernel
theorem dX12_fits_48 : decode cX12_fits 48 = .ok (.iinc 3 1, 3) := by decide +kernel
theorem dX12_fits_51 : decode cX12_fits 51 = .ok (.goto (-21), 3) := by decide +kernel
theorem dX12_fits_54 : decode cX12_fits 54 = .ok (.iload_n 2, 1) := by decide +kernel
theorem dX12_fits_55 : decode cX12_fits 55 = .ok (.ireturn, 1) := by decide +kernel
theorem dX12_look_0 : decode cX12_look 0 = .ok (.aload_n 0, 1) := by decide +kernel
theorem dX12_look_1 : decode cX12_look 1 = .ok (.iconst 0, 1) := by decide +kernel
theorem dX12_look_2 : decode cX12_look 2 = .ok (.putfield 133, 3) := by decide +kernel
theorem dX12_look_5 : decode cX12_look 5 = .ok (.iload_n 1, 1) := by decide +kernel
theorem dX12_look_6 : decode cX12_look 6 = .ok (.iconst 0, 1) := by decide +kernel
theorem dX12_look_7 : decode cX12_look 7 = .ok (.bipush 99, 2) := by decide +kernel
theorem dX12_look_9 : decode cX12_look 9 = .ok (.invokestatic 142, 3) := by decide +kernel
theorem dX12_look_12 : decode cX12_look 12 = .ok (.ifCond .eq 10, 3) := by decide +kernel
theorem dX12_look_15 : decode cX12_look 15 = .ok (.iload_n 2, 1) := by decide +kernel
theorem dX12_look_16 : decode cX12_look 16 = .ok (.invokestatic 178, 3) := by decide +kernel
theorem dX12_look_19 : decode cX12_look 19 = .ok (.ifCond .ne 5, 3) := by decide +kernel
theorem dX12_look_22 : decode cX12_look 22 = .ok (.iconst (-1), 1) := by decide +kernel
theorem dX12_look_23 : decode cX12_look 23 = .ok (.ireturn, 1) := by decide +kernel
theorem dX12_look_24 : decode cX12_look 24 = .ok (.aload_n 0, 1) := by decide +kernel
theorem dX12_look_25 : decode cX12_look 25 = .ok (.iload_n 1, 1) := by decide +kernel
theorem dX12_look_26 : decode cX12_look 26 = .ok (.invokevirtual 358, 3) := by decide +kernel
theorem dX12_look_29 : decode cX12_look 29 = .ok (.istore_n 3, 1) := by decide +kernel
theorem dX12_look_30 : decode cX12_look 30 = .ok (.iload_n 3, 1) := by decide +kernel
theorem dX12_look_31 : decode cX12_look 31 = .ok (.invokestatic 361, 3) := by decide +kernel
theorem dX12_look_34 : decode cX12_look 34 = .ok (.iconst 2, 1) := by decide +kernel
theorem dX12_look_35 : decode cX12_look 35 = .ok (.if_icmp .ge 6, 3) := by decide +kernel
theorem dX12_look_38 : decode cX12_look 38 = .ok (.bipush (-2), 2) := by decide +kernel
theorem dX12_look_40 : decode cX12_look 40 = .ok (.ireturn, 1) := by decide +kernel
theorem dX12_look_41 : decode cX12_look 41 = .ok (.iconst 0, 1) := by decide +kernel
theorem dX12_look_42 : decode cX12_look 42 = .ok (.istore 4, 2) := by decide +kernel
theorem dX12_look_44 : decode cX12_look 44 = .ok (.iconst (-1), 1) := by decide +kernel
theorem dX12_look_45 : decode cX12_look 45 = .ok (.istore 5, 2) := by decide +kernel
theorem dX12_look_47 : decode cX12_look 47 = .ok (.iconst 0, 1) := by decide +kernel
theorem dX12_look_48 : decode cX12_look 48 = .ok (.istore 6, 2) := by decide +kernel
theorem dX12_look_50 : decode cX12_look 50 = .ok (.iconst 0, 1) := by decide +kernel
theorem dX12_look_51 : decode cX12_look 51 = .ok (.istore 7, 2) := by decide +kernel
theorem dX12_look_53 : decode cX12_look 53 = .ok (.iload 7, 2) := by decide +kernel
theorem dX12_look_55 : decode cX12_look 55 = .ok (.bipush 24, 2) := by decide +kernel
theorem dX12_look_57 : decode cX12_look 57 = .ok (.if_icmp .gt 189, 3) := by decide +kernel
theorem dX12_look_60 : decode cX12_look 60 = .ok (.iconst 0, 1) := by decide +kernel
theorem dX12_look_61 : decode cX12_look 61 = .ok (.istore 8, 2) := by decide +kernel
theorem dX12_look_63 : decode cX12_look 63 = .ok (.iload 8, 2) := by decide +kernel
theorem dX12_look_65 : decode cX12_look 65 = .ok (.iconst 3, 1) := by decide +kernel
theorem dX12_look_66 : decode cX12_look 66 = .ok (.if_icmp .ge 174, 3) := by decide +kernel
theorem dX12_look_69 : decode cX12_look 69 = .ok (.iconst 0, 1) := by decide +kernel
theorem dX12_look_70 : decode cX12_look 70 = .ok (.istore 9, 2) := by decide +kernel
theorem dX12_look_72 : decode cX12_look 72 = .ok (.iload 9, 2) := by decide +kernel
theorem dX12_look_74 : decode cX12_look 74 = .ok (.aload_n 0, 1) := by decide +kernel
theorem dX12_look_75 : decode cX12_look 75 = .ok (.getfield 345, 3) := by decide +kernel
theorem dX12_look_78 : decode cX12_look 78 = .ok (.if_icmp .ge 27, 3) := by decide +kernel
theorem dX12_look_81 : decode cX12_look 81 = .ok (.aload_n 0, 1) := by decide +kernel
theorem dX12_look_82 : decode cX12_look 82 = .ok (.getfield 103, 3) := by decide +kernel
theorem dX12_look_85 : decode cX12_look 85 = .ok (.iload 9, 2) := by decide +kernel
theorem dX12_look_87 : decode cX12_look 87 = .ok (.aload_n 0, 1) := by decide +kernel
theorem dX12_look_88 : decode cX12_look 88 = .ok (.iload 9, 2) := by decide +kernel
theorem dX12_look_90 : decode cX12_look 90 = .ok (.iload 7, 2) := by decide +kernel
theorem dX12_look_92 : decode cX12_look 92 = .ok (.iload_n 2, 1) := by decide +kernel
theorem dX12_look_93 : decode cX12_look 93 = .ok (.iload 8, 2) := by decide +kernel
theorem dX12_look_95 : decode cX12_look 95 = .ok (.invokevirtual 354, 3) := by decide +kernel
theorem dX12_look_98 : decode cX12_look 98 = .ok (.iastore, 1) := by decide +kernel
theorem dX12_look_99 : decode cX12_look 99 = .ok (.iinc 9 1, 3) := by decide +kernel
theorem dX12_look_102 : decode cX12_look 102 = .ok (.goto (-30), 3) := by decide +kernel
theorem dX12_look_105 : decode cX12_look 105 = .ok (.iconst 0, 1) := by decide +kernel
theorem dX12_look_106 : decode cX12_look 106 = .ok (.istore 9, 2) := by decide +kernel
theorem dX12_look_108 : decode cX12_look 108 = .ok (.iconst 0, 1) := by decide +kernel
theorem dX12_look_109 : decode cX12_look 109 = .ok (.istore 10, 2) := by decide +kernel
theorem dX12_look_111 : decode cX12_look 111 = .ok (.iload 10, 2) := by decide +kernel
theorem dX12_look_113 : decode cX12_look 113 = .ok (.aload_n 0, 1) := by decide +kernel
theorem dX12_look_114 : decode cX12_look 114 = .ok (.getfield 345, 3) := by decide +kernel
theorem dX12_look_117 : decode cX12_look 117 = .ok (.if_icmp .ge 89, 3) := by decide +kernel
theorem dX12_look_120 : decode cX12_look 120 = .ok (.iconst 0, 1) := by decide +kernel
theorem dX12_look_121 : decode cX12_look 121 = .ok (.istore 11, 2) := by decide +kernel
theorem dX12_look_123 : decode cX12_look 123 = .ok (.iconst 0, 1) := by decide +kernel
theorem dX12_look_124 : decode cX12_look 124 = .ok (.istore 12, 2) := by decide +kernel
theorem dX12_look_126 : decode cX12_look 126 = .ok (.iload 12, 2) := by decide +kernel
theorem dX12_look_128 : decode cX12_look 128 = .ok (.aload_n 0, 1) := by decide +kernel
theorem dX12_look_129 : decode cX12_look 129 = .ok (.getfield 345, 3) := by decide +kernel
theorem dX12_look_132 : decode cX12_look 132 = .ok (.if_icmp .ge 59, 3) := by decide +kernel
theorem dX12_look_135 : decode cX12_look 135 = .ok (.iload 11, 2) := by decide +kernel
theorem dX12_look_137 : decode cX12_look 137 = .ok (.iload_n 3, 1) := by decide +kernel
theorem dX12_look_138 : decode cX12_look 138 = .ok (.iload 10, 2) := by decide +kernel
theorem dX12_look_140 : decode cX12_look 140 = .ok (.invokestatic 366, 3) := by decide +kernel
theorem dX12_look_143 : decode cX12_look 143 = .ok (.ifCond .eq 38, 3) := by decide +kernel
theorem dX12_look_146 : decode cX12_look 146 = .ok (.iload_n 3, 1) := by decide +kernel
theorem dX12_look_147 : decode cX12_look 147 = .ok (.iload 12, 2) := by decide +kernel
theorem dX12_look_149 : decode cX12_look 149 = .ok (.invokestatic 366, 3) := by decide +kernel
theorem dX12_look_152 : decode cX12_look 152 = .ok (.ifCond .eq 29, 3) := by decide +kernel
theorem dX12_look_155 : decode cX12_look 155 = .ok (.aload_n 0, 1) := by decide +kernel
theorem dX12_look_156 : decode cX12_look 156 = .ok (.getfield 103, 3) := by decide +kernel
theorem dX12_look_159 : decode cX12_look 159 = .ok (.iload 10, 2) := by decide +kernel
theorem dX12_look_161 : decode cX12_look 161 = .ok (.iaload, 1) := by decide +kernel
theorem dX12_look_162 : decode cX12_look 162 = .ok (.aload_n 0, 1) := by decide +kernel
theorem dX12_look_163 : decode cX12_look 163 = .ok (.getfield 103, 3) := by decide +kernel
theorem dX12_look_166 : decode cX12_look 166 = .ok (.iload 12, 2) := by decide +kernel
theorem dX12_look_168 : decode cX12_look 168 = .ok (.iaload, 1) := by decide +kernel
theorem dX12_look_169 : decode cX12_look 169 = .ok (.isub, 1) := by decide +kernel
theorem dX12_look_170 : decode cX12_look 170 = .ok (.invokestatic 201, 3) := by decide +kernel
theorem dX12_look_173 : decode cX12_look 173 = .ok (.iload_n 1, 1) := by decide +kernel
theorem dX12_look_174 : decode cX12_look 174 = .ok (.if_icmp .gt 7, 3) := by decide +kernel
theorem dX12_look_177 : decode cX12_look 177 = .ok (.iconst 1, 1) := by decide +kernel
theorem dX12_look_178 : decode cX12_look 178 = .ok (.goto 4, 3) := by decide +kernel
theorem dX12_look_181 : decode cX12_look 181 = .ok (.iconst 0, 1) := by decide +kernel
theorem dX12_look_182 : decode cX12_look 182 = .ok (.iadd, 1) := by decide +kernel
theorem dX12_look_183 : decode cX12_look 183 = .ok (.istore 11, 2) := by decide +kernel
theorem dX12_look_185 : decode cX12_look 185 = .ok (.iinc 12 1, 3) := by decide +kernel
theorem dX12_look_188 : decode cX12_look 188 = .ok (.goto (-62), 3) := by decide +kernel
theorem dX12_look_191 : decode cX12_look 191 = .ok (.iload 9, 2) := by decide +kernel
theorem dX12_look_193 : decode cX12_look 193 = .ok (.iload 11, 2) := by decide +kernel
theorem dX12_look_195 : decode cX12_look 195 = .ok (.invokestatic 159, 3) := by decide +kernel
theorem dX12_look_198 : decode cX12_look 198 = .ok (.istore 9, 2) := by decide +kernel
theorem dX12_look_200 : decode cX12_look 200 = .ok (.iinc 10 1, 3) := by decide +kernel
theorem dX12_look_203 : decode cX12_look 203 = .ok (.goto (-92), 3) := by decide +kernel
theorem dX12_look_206 : decode cX12_look 206 = .ok (.iload 5, 2) := by decide +kernel
theorem dX12_look_208 : decode cX12_look 208 = .ok (.iconst (-1), 1) := by decide +kernel
theorem dX12_look_209 : decode cX12_look 209 = .ok (.if_icmp .eq 13, 3) := by decide +kernel
theorem dX12_look_212 : decode cX12_look 212 = .ok (.iload 9, 2) := by decide +kernel
theorem dX12_look_214 : decode cX12_look 214 = .ok (.iload 4, 2) := by decide +kernel
theorem dX12_look_216 : decode cX12_look 216 = .ok (.if_icmp .lt 6, 3) := by decide +kernel
theorem dX12_look_219 : decode cX12_look 219 = .ok (.goto 15, 3) := by decide +kernel
theorem dX12_look_222 : decode cX12_look 222 = .ok (.iload 9, 2) := by decide +kernel
theorem dX12_look_224 : decode cX12_look 224 = .ok (.istore 4, 2) := by decide +kernel
theorem dX12_look_226 : decode cX12_look 226 = .ok (.iload 7, 2) := by decide +kernel
theorem dX12_look_228 : decode cX12_look 228 = .ok (.istore 5, 2) := by decide +kernel
theorem dX12_look_230 : decode cX12_look 230 = .ok (.iload 8, 2) := by decide +kernel
theorem dX12_look_232 : decode cX12_look 232 = .ok (.istore 6, 2) := by decide +kernel
theorem dX12_look_234 : decode cX12_look 234 = .ok (.iinc 8 1, 3) := by decide +kernel
theorem dX12_look_237 : decode cX12_look 237 = .ok (.goto (-174), 3) := by decide +kernel
theorem dX12_look_240 : decode cX12_look 240 = .ok (.iinc 7 1, 3) := by decide +kernel
theorem dX12_look_243 : decode cX12_look 243 = .ok (.goto (-190), 3) := by decide +kernel
theorem dX12_look_246 : decode cX12_look 246 = .ok (.aload_n 0, 1) := by decide +kernel
theorem dX12_look_247 : decode cX12_look 247 = .ok (.iconst 0, 1) := by decide +kernel
theorem dX12_look_248 : decode cX12_look 248 = .ok (.putfield 136, 3) := by decide +kernel
theorem dX12_look_251 : decode cX12_look 251 = .ok (.aload_n 0, 1) := by decide +kernel
theorem dX12_look_252 : decode cX12_look 252 = .ok (.iload 5, 2) := by decide +kernel
theorem dX12_look_254 : decode cX12_look 254 = .ok (.invokevirtual 210, 3) := by decide +kernel
theorem dX12_look_257 : decode cX12_look 257 = .ok (.aload_n 0, 1) := by decide +kernel
theorem dX12_look_258 : decode cX12_look 258 = .ok (.iload 6, 2) := by decide +kernel
theorem dX12_look_260 : decode cX12_look 260 = .ok (.invokevirtual 210, 3) := by decide +kernel
theorem dX12_look_263 : decode cX12_look 263 = .ok (.iload 4, 2) := by decide +kernel
theorem dX12_look_265 : decode cX12_look 265 = .ok (.ireturn, 1) := by decide +kernel
theorem dX12_air_0 : decode cX12_air 0 = .ok (.aload_n 0, 1) := by decide +kernel
theorem dX12_air_1 : decode cX12_air 1 = .ok (.iconst 0, 1) := by decide +kernel
theorem dX12_air_2 : decode cX12_air 2 = .ok (.putfield 133, 3) := by decide +kernel
theorem dX12_air_5 : decode cX12_air 5 = .ok (.iload_n 1, 1) := by decide +kernel
theorem dX12_air_6 : decode cX12_air 6 = .ok (.iconst 0, 1) := by decide +kernel
theorem dX12_air_7 : decode cX12_air 7 = .ok (.ldc 162, 2) := by decide +kernel
theorem dX12_air_9 : decode cX12_air 9 = .ok (.invokestatic 142, 3) := by decide +kernel
theorem dX12_air_12 : decode cX12_air 12 = .ok (.ifCond .ne 5, 3) := by decide +kernel
theorem dX12_air_15 : decode cX12_air 15 = .ok (.iconst (-1), 1) := by decide +kernel
theorem dX12_air_16 : decode cX12_air 16 = .ok (.ireturn, 1) := by decide +kernel
theorem dX12_air_17 : decode cX12_air 17 = .ok (.aload_n 0, 1) := by decide +kernel
theorem dX12_air_18 : decode cX12_air 18 = .ok (.getfield 368, 3) := by decide +kernel
theorem dX12_air_21 : decode cX12_air 21 = .ok (.istore_n 2, 1) := by decide +kernel
theorem dX12_air_22 : decode cX12_air 22 = .ok (.aload_n 0, 1) := by decide +kernel
theorem dX12_air_23 : decode cX12_air 23 = .ok (.iload_n 1, 1) := by decide +kernel
theorem dX12_air_24 : decode cX12_air 24 = .ok (.putfield 368, 3) := by decide +kernel
theorem dX12_air_27 : decode cX12_air 27 = .ok (.iload_n 2, 1) := by decide +kernel
theorem dX12_air_28 : decode cX12_air 28 = .ok (.ireturn, 1) := by decide +kernel
theorem dX12_airFor_0 : decode cX12_airFor 0 = .ok (.iload_n 0, 1) := by decide +kernel
theorem dX12_airFor_1 : decode cX12_airFor 1 = .ok (.iload_n 1, 1) := by decide +kernel
theorem dX12_airFor_2 : decode cX12_airFor 2 = .ok (.bipush 10, 2) := by decide +kernel
theorem dX12_airFor_4 : decode cX12_airFor 4 = .ok (.iadd, 1) := by decide +kernel
theorem dX12_airFor_5 : decode cX12_airFor 5 = .ok (.imul, 1) := by decide +kernel
theorem dX12_airFor_6 : decode cX12_airFor 6 = .ok (.bipush 9, 2) := by decide +kernel
theorem dX12_airFor_8 : decode cX12_airFor 8 = .ok (.iadd, 1) := by decide +kernel
theorem dX12_airFor_9 : decode cX12_airFor 9 = .ok (.bipush 10, 2) := by decide +kernel
theorem dX12_airFor_11 : decode cX12_airFor 11 = .ok (.idiv, 1) := by decide +kernel
theorem dX12_airFor_12 : decode cX12_airFor 12 = .ok (.ireturn, 1) := by decide +kernel
theorem dX12_blow_0 : decode cX12_blow 0 = .ok (.aload_n 0, 1) := by decide +kernel
theorem dX12_blow_1 : decode cX12_blow 1 = .ok (.iconst 0, 1) := by decide +kernel
theorem dX12_blow_2 : decode cX12_blow 2 = .ok (.putfield 133, 3) := by decide +kernel
theorem dX12_blow_5 : decode cX12_blow 5 = .ok (.aload_n 0, 1) := by decide +kernel
theorem dX12_blow_6 : decode cX12_blow 6 = .ok (.iload_n 1, 1) := by decide +kernel
theorem dX12_blow_7 : decode cX12_blow 7 = .ok (.iconst 0, 1) := by decide +kernel
theorem dX12_blow_8 : decode cX12_blow 8 = .ok (.invokevirtual 284, 3) := by decide +kernel
theorem dX12_blow_11 : decode cX12_blow 11 = .ok (.ifCond .eq 10, 3) := by decide +kernel
theorem dX12_blow_14 : decode cX12_blow 14 = .ok (.iload_n 2, 1) := by decide +kernel
theorem dX12_blow_15 : decode cX12_blow 15 = .ok (.invokestatic 178, 3) := by decide +kernel
theorem dX12_blow_18 : decode cX12_blow 18 = .ok (.ifCond .ne 5, 3) := by decide +kernel
theorem dX12_blow_21 : decode cX12_blow 21 = .ok (.iconst (-1), 1) := by decide +kernel
theorem dX12_blow_22 : decode cX12_blow 22 = .ok (.ireturn, 1) := by decide +kernel
theorem dX12_blow_23 : decode cX12_blow 23 = .ok (.aload_n 0, 1) := by decide +kernel
theorem dX12_blow_24 : decode cX12_blow 24 = .ok (.getfield 22, 3) := by decide +kernel
theorem dX12_blow_27 : decode cX12_blow 27 = .ok (.iload_n 1, 1) := by decide +kernel
theorem dX12_blow_28 : decode cX12_blow 28 = .ok (.iaload, 1) := by decide +kernel
theorem dX12_blow_29 : decode cX12_blow 29 = .ok (.iload_n 2, 1) := by decide +kernel
theorem dX12_blow_30 : decode cX12_blow 30 = .ok (.invokestatic 371, 3) := by decide +kernel
theorem dX12_blow_33 : decode cX12_blow 33 = .ok (.istore_n 3, 1) := by decide +kernel
theorem dX12_blow_34 : decode cX12_blow 34 = .ok (.iload_n 3, 1) := by decide +kernel
theorem dX12_blow_35 : decode cX12_blow 35 = .ok (.aload_n 0, 1) := by decide +kernel
theorem dX12_blow_36 : decode cX12_blow 36 = .ok (.getfield 368, 3) := by decide +kernel
theorem dX12_blow_39 : decode cX12_blow 39 = .ok (.if_icmp .le 6, 3) := by decide +kernel
theorem dX12_blow_42 : decode cX12_blow 42 = .ok (.bipush (-2), 2) := by decide +kernel
theorem dX12_blow_44 : decode cX12_blow 44 = .ok (.ireturn, 1) := by decide +kernel
theorem dX12_blow_45 : decode cX12_blow 45 = .ok (.aload_n 0, 1) := by decide +kernel
theorem dX12_blow_46 : decode cX12_blow 46 = .ok (.dup, 1) := by decide +kernel
theorem dX12_blow_47 : decode cX12_blow 47 = .ok (.getfield 368, 3) := by decide +kernel
theorem dX12_blow_50 : decode cX12_blow 50 = .ok (.iload_n 3, 1) := by decide +kernel
theorem dX12_blow_51 : decode cX12_blow 51 = .ok (.isub, 1) := by decide +kernel
theorem dX12_blow_52 : decode cX12_blow 52 = .ok (.putfield 368, 3) := by decide +kernel
theorem dX12_blow_55 : decode cX12_blow 55 = .ok (.aload_n 0, 1) := by decide +kernel
theorem dX12_blow_56 : decode cX12_blow 56 = .ok (.getfield 22, 3) := by decide +kernel
theorem dX12_blow_59 : decode cX12_blow 59 = .ok (.iload_n 1, 1) := by decide +kernel
theorem dX12_blow_60 : decode cX12_blow 60 = .ok (.iconst 0, 1) := by decide +kernel
theorem dX12_blow_61 : decode cX12_blow 61 = .ok (.iastore, 1) := by decide +kernel
theorem dX12_blow_62 : decode cX12_blow 62 = .ok (.aload_n 0, 1) := by decide +kernel
theorem dX12_blow_63 : decode cX12_blow 63 = .ok (.getfield 368, 3) := by decide +kernel
theorem dX12_blow_66 : decode cX12_blow 66 = .ok (.ireturn, 1) := by decide +kernel
theorem dX12_areTanks_0 : decode cX12_areTanks 0 = .ok (.iload_n 1, 1) := by decide +kernel
theorem dX12_areTanks_1 : decode cX12_areTanks 1 = .ok (.ifCond .le 21, 3) := by decide +kernel
theorem dX12_areTanks_4 : decode cX12_areTanks 4 = .ok (.iload_n 1, 1) := by decide +kernel
theorem dX12_areTanks_5 : decode cX12_areTanks 5 = .ok (.iconst 1, 1) := by decide +kernel
theorem dX12_areTanks_6 : decode cX12_areTanks 6 = .ok (.aload_n 0, 1) := by decide +kernel
theorem dX12_areTanks_7 : decode cX12_areTanks 7 = .ok (.getfield 139, 3) := by decide +kernel
theorem dX12_areTanks_10 : decode cX12_areTanks 10 = .ok (.ishl, 1) := by decide +kernel
theorem dX12_areTanks_11 : decode cX12_areTanks 11 = .ok (.if_icmp .ge 11, 3) := by decide +kernel
theorem dX12_areTanks_14 : decode cX12_areTanks 14 = .ok (.iload_n 1, 1) := by decide +kernel
theorem dX12_areTanks_15 : decode cX12_areTanks 15 = .ok (.invokestatic 361, 3) := by decide +kernel
theorem dX12_areTanks_18 : decode cX12_areTanks 18 = .ok (.iload_n 2, 1) := by decide +kernel
theorem dX12_areTanks_19 : decode cX12_areTanks 19 = .ok (.if_icmp .le 5, 3) := by decide +kernel
theorem dX12_areTanks_22 : decode cX12_areTanks 22 = .ok (.iconst 0, 1) := by decide +kernel
theorem dX12_areTanks_23 : decode cX12_areTanks 23 = .ok (.ireturn, 1) := by decide +kernel
theorem dX12_areTanks_24 : decode cX12_areTanks 24 = .ok (.iconst 0, 1) := by decide +kernel
theorem dX12_areTanks_25 : decode cX12_areTanks 25 = .ok (.istore_n 3, 1) := by decide +kernel
theorem dX12_areTanks_26 : decode cX12_areTanks 26 = .ok (.iload_n 3, 1) := by decide +kernel
theorem dX12_areTanks_27 : decode cX12_areTanks 27 = .ok (.aload_n 0, 1) := by decide +kernel
theorem dX12_areTanks_28 : decode cX12_areTanks 28 = .ok (.getfield 139, 3) := by decide +kernel
theorem dX12_areTanks_31 : decode cX12_areTanks 31 = .ok (.if_icmp .ge 28, 3) := by decide +kernel
theorem dX12_areTanks_34 : decode cX12_areTanks 34 = .ok (.iload_n 1, 1) := by decide +kernel
theorem dX12_areTanks_35 : decode cX12_areTanks 35 = .ok (.iload_n 3, 1) := by decide +kernel
theorem dX12_areTanks_36 : decode cX12_areTanks 36 = .ok (.invokestatic 366, 3) := by decide +kernel
theorem dX12_areTanks_39 : decode cX12_areTanks 39 = .ok (.ifCond .eq 14, 3) := by decide +kernel
theorem dX12_areTanks_42 : decode cX12_areTanks 42 = .ok (.aload_n 0, 1) := by decide +kernel
theorem dX12_areTanks_43 : decode cX12_areTanks 43 = .ok (.getfield 9, 3) := by decide +kernel
theorem dX12_areTanks_46 : decode cX12_areTanks 46 = .ok (.iload_n 3, 1) := by decide +kernel
theorem dX12_areTanks_47 : decode cX12_areTanks 47 = .ok (.iaload, 1) := by decide +kernel
theorem dX12_areTanks_48 : decode cX12_areTanks 48 = .ok (.ifCond .eq 5, 3) := by decide +kernel
theorem dX12_areTanks_51 : decode cX12_areTanks 51 = .ok (.iconst 0, 1) := by decide +kernel
theorem dX12_areTanks_52 : decode cX12_areTanks 52 = .ok (.ireturn, 1) := by decide +kernel
theorem dX12_areTanks_53 : decode cX12_areTanks 53 = .ok (.iinc 3 1, 3) := by decide +kernel
theorem dX12_areTanks_56 : decode cX12_areTanks 56 = .ok (.goto (-30), 3) := by decide +kernel
theorem dX12_areTanks_59 : decode cX12_areTanks 59 = .ok (.iconst 1, 1) := by decide +kernel
theorem dX12_areTanks_60 : decode cX12_areTanks 60 = .ok (.ireturn, 1) := by decide +kernel
noncomputable def fX12_canReach_216 (h : HS) : Option (Int32 × HS) := if (gI h 0 46) = (-1 : Int32) then (some ((0 : Int32), h)) else (some ((1 : Int32), h))
set_option maxRecDepth 100000 in
theorem jX12_canReach_216 {r : Int32} {h0 : HS} (h : HS) (H : fX12_canReach_216 h = some (r, h0)) : Jx skM RX12 cX12_canReach 6 (some .boolean) 3 (some (.int r)) h0 216 [some (.ref 0), none, none, none, none, none] [] h := by
  unfold fX12_canReach_216 at H
  refine j_aload_n (pc := 216) dX12_canReach_216 rfl ?_
  refine j_getI (pc := 217) dX12_canReach_217 flX12_319 rfl ?_
  refine j_iconst (pc := 220) (v := -1) dX12_canReach_220 (by decide) ?_
  refine j_icmp_eq (pc := 221) (tgt := 228) dX12_canReach_221 (by decide) (fun c33 => ?_) (fun c33 => ?_)
  · rw [if_pos c33] at H
    refine j_iconst (pc := 228) (v := 0) dX12_canReach_228 (by decide) ?_
    exact j_zreturn (pc := 229) dX12_canReach_229 rfl (rz0 H) (ri_2 H)
  · rw [if_neg c33] at H
    refine j_iconst (pc := 224) (v := 1) dX12_canReach_224 (by decide) ?_
    refine j_goto (pc := 225) (tgt := 229) dX12_canReach_225 (by decide) ?_
    exact j_zreturn (pc := 229) dX12_canReach_229 rfl (rz1 H) (ri_2 H)
noncomputable def fX12_canReach_201 (k122 : Int32 → Int32 → Int32 → Int32 → HS → Option (Int32 × HS)) (v2 : Int32) (v3 : Int32) (v4 : Int32) (v5 : Int32) (s1 : Int32) (h : HS) : Option (Int32 × HS) := nm (pI h 0 46 s1) (fun h34 => nm (pI h34 0 47 v5) (fun h35 => nm (v5 + (1 : Int32)) (fun v5_36 => k122 v2 v3 v4 v5_36 h35)))
set_option maxRecDepth 100000 in
theorem jX12_canReach_201 {r : Int32} {h0 : HS} (k122 : Int32 → Int32 → Int32 → Int32 → HS → Option (Int32 × HS)) (hk122 : ∀ (v2 : Int32) (v3 : Int32) (v4 : Int32) (v5 : Int32) (h : HS), k122 v2 v3 v4 v5 h = some (r, h0) → Jx skM RX12 cX12_canReach 6 (some .boolean) 3 (some (.int r)) h0 122 [some (.ref 0), none, some (.int v2), some (.int v3), some (.int v4), some (.int v5)] [] h) (v2 : Int32) (v3 : Int32) (v4 : Int32) (v5 : Int32) (s1 : Int32) (h : HS) (H : fX12_canReach_201 k122 v2 v3 v4 v5 s1 h = some (r, h0)) : Jx skM RX12 cX12_canReach 6 (some .boolean) 3 (some (.int r)) h0 201 [some (.ref 0), none, some (.int v2), some (.int v3), some (.int v4), some (.int v5)] [.int s1, .ref 0] h := by
  unfold fX12_canReach_201 at H
  obtain ⟨h34, eh34, H⟩ := nm_x H
  refine j_putI (pc := 201) dX12_canReach_201 fpX12_319 rfl h34 eh34 ?_
  refine j_aload_n (pc := 204) dX12_canReach_204 rfl ?_
  refine j_iload (pc := 205) dX12_canReach_205 rfl ?_
  obtain ⟨h35, eh35, H⟩ := nm_x H
  refine j_putI (pc := 207) dX12_canReach_207 fpX12_322 rfl h35 eh35 ?_
  obtain ⟨v5_36, ev5_36, H⟩ := nm_x H
  refine j_iinc (pc := 210) (L' := [some (.ref 0), none, some (.int v2), some (.int v3), some (.int v4), some (.int v5_36)]) (w := 1) dX12_canReach_210 rfl (by decide) (by decide) v5_36 ev5_36 rfl ?_
  refine j_goto (pc := 213) (tgt := 122) dX12_canReach_213 (by decide) ?_
  refine Jx.sub (L' := [some (.ref 0), none, some (.int v2), some (.int v3), some (.int v4), some (.int v5_36)]) (⟨rfl, ⟨rfl, ⟨rfl, ⟨rfl, ⟨rfl, trivial⟩⟩⟩⟩⟩) ?_
  exact hk122 v2 v3 v4 v5_36 h35 H
noncomputable def fX12_canReach_122 : Nat → Int32 → Int32 → Int32 → Int32 → HS → Option (Int32 × HS)
  | 0, _, _, _, _, _ => none
  | n + 1, v2, v3, v4, v5, h => if v2 < v5 then (fX12_canReach_216 h) else (if ((gI h 8 0) - v3) < v5 then (fX12_canReach_216 h) else (bd (fX12_momentWith v5 (1 : Int32) h) (fun r25 h24 => if (gI h24 8 1) < (v4 + r25) then (nm (v5 + (1 : Int32)) (fun v5_27 => fX12_canReach_122 n v2 v3 v4 v5_27 h24)) else (bd (fX12_momentWith v5 (0 : Int32) h24) (fun r29 h28 => if (-(gI h28 8 1)) ≤ (v4 + r29) then (if (gI h28 0 46) = (-1 : Int32) then (fX12_canReach_201 (fX12_canReach_122 n) v2 v3 v4 v5 v5 h28) else (fX12_canReach_201 (fX12_canReach_122 n) v2 v3 v4 v5 ((gI h28 0 46)) h28)) else (nm (v5 + (1 : Int32)) (fun v5_32 => fX12_canReach_122 n v2 v3 v4 v5_32 h28)))))))
set_option maxRecDepth 100000 in
theorem jX12_canReach_122 {r : Int32} {h0 : HS} : ∀ (n : Nat) (v2 : Int32) (v3 : Int32) (v4 : Int32) (v5 : Int32) (h : HS), fX12_canReach_122 n v2 v3 v4 v5 h = some (r, h0) → Jx skM RX12 cX12_canReach 6 (some .boolean) 3 (some (.int r)) h0 122 [some (.ref 0), none, some (.int v2), some (.int v3), some (.int v4), some (.int v5)] [] h := by
  intro n
  induction n with
  | zero => intro v2 v3 v4 v5  h H; cases H
  | succ n ih =>
    intro v2 v3 v4 v5  h H
    rw [fX12_canReach_122] at H
    refine j_iload (pc := 122) dX12_canReach_122 rfl ?_
    refine j_iload_n (pc := 124) dX12_canReach_124 rfl ?_
    refine j_icmp_gt (pc := 125) (tgt := 216) dX12_canReach_125 (by decide) (fun c22 => ?_) (fun c22 => ?_)
    · rw [if_pos c22] at H
      refine Jx.sub (L' := [some (.ref 0), none, none, none, none, none]) (⟨rfl, trivial⟩) ?_
      exact jX12_canReach_216 h H
    · rw [if_neg c22] at H
      refine j_iload (pc := 128) dX12_canReach_128 rfl ?_
      refine j_aload_n (pc := 130) dX12_canReach_130 rfl ?_
      refine j_getR (pc := 131) (b := 8) dX12_canReach_131 flX12_35 rfl ?_
      refine j_iconst (pc := 134) (v := 0) dX12_canReach_134 (by decide) ?_
      refine j_iaload (pc := 135) (j := 0) dX12_canReach_135 rfl (by decide) (by decide) ?_
      refine j_iload_n (pc := 136) dX12_canReach_136 rfl ?_
      refine j_isub (pc := 137) dX12_canReach_137 ?_
      refine j_icmp_gt (pc := 138) (tgt := 216) dX12_canReach_138 (by decide) (fun c23 => ?_) (fun c23 => ?_)
      · rw [if_pos c23] at H
        refine Jx.sub (L' := [some (.ref 0), none, none, none, none, none]) (⟨rfl, trivial⟩) ?_
        exact jX12_canReach_216 h H
      · rw [if_neg c23] at H
        refine j_iload (pc := 141) dX12_canReach_141 rfl ?_
        refine j_aload_n (pc := 143) dX12_canReach_143 rfl ?_
        refine j_iload (pc := 144) dX12_canReach_144 rfl ?_
        refine j_iconst (pc := 146) (v := 1) dX12_canReach_146 (by decide) ?_
        obtain ⟨r25, h24, eh24, H⟩ := bd_x H
        refine j_callV (pc := 147) dX12_canReach_147 mlX12_325 wyX12_momentWith (tX12_momentWith eh24) (by decide) rfl rfl rfl rfl (by simp [Value.category]) rfl ?_
        refine j_iadd (pc := 150) dX12_canReach_150 ?_
        refine j_aload_n (pc := 151) dX12_canReach_151 rfl ?_
        refine j_getR (pc := 152) (b := 8) dX12_canReach_152 flX12_35 rfl ?_
        refine j_iconst (pc := 155) (v := 1) dX12_canReach_155 (by decide) ?_
        refine j_iaload (pc := 156) (j := 1) dX12_canReach_156 rfl (by decide) (by decide) ?_
        refine j_icmp_gt (pc := 157) (tgt := 210) dX12_canReach_157 (by decide) (fun c26 => ?_) (fun c26 => ?_)
        · rw [if_pos c26] at H
          obtain ⟨v5_27, ev5_27, H⟩ := nm_x H
          refine j_iinc (pc := 210) (L' := [some (.ref 0), none, some (.int v2), some (.int v3), some (.int v4), some (.int v5_27)]) (w := 1) dX12_canReach_210 rfl (by decide) (by decide) v5_27 ev5_27 rfl ?_
          refine j_goto (pc := 213) (tgt := 122) dX12_canReach_213 (by decide) ?_
          refine Jx.sub (L' := [some (.ref 0), none, some (.int v2), some (.int v3), some (.int v4), some (.int v5_27)]) (⟨rfl, ⟨rfl, ⟨rfl, ⟨rfl, ⟨rfl, trivial⟩⟩⟩⟩⟩) ?_
          exact ih v2 v3 v4 v5_27 h24 H
        · rw [if_neg c26] at H
          refine j_iload (pc := 160) dX12_canReach_160 rfl ?_
          refine j_aload_n (pc := 162) dX12_canReach_162 rfl ?_
          refine j_iload (pc := 163) dX12_canReach_163 rfl ?_
          refine j_iconst (pc := 165) (v := 0) dX12_canReach_165 (by decide) ?_
          obtain ⟨r29, h28, eh28, H⟩ := bd_x H
          refine j_callV (pc := 166) dX12_canReach_166 mlX12_325 wyX12_momentWith (tX12_momentWith eh28) (by decide) rfl rfl rfl rfl (by simp [Value.category]) rfl ?_
          refine j_iadd (pc := 169) dX12_canReach_169 ?_
          refine j_aload_n (pc := 170) dX12_canReach_170 rfl ?_
          refine j_getR (pc := 171) (b := 8) dX12_canReach_171 flX12_35 rfl ?_
          refine j_iconst (pc := 174) (v := 1) dX12_canReach_174 (by decide) ?_
          refine j_iaload (pc := 175) (j := 1) dX12_canReach_175 rfl (by decide) (by decide) ?_
          refine j_ineg (pc := 176) dX12_canReach_176 ?_
          refine j_icmp_ge (pc := 177) (tgt := 183) dX12_canReach_177 (by decide) (fun c30 => ?_) (fun c30 => ?_)
          · rw [if_pos c30] at H
            refine j_aload_n (pc := 183) dX12_canReach_183 rfl ?_
            refine j_aload_n (pc := 184) dX12_canReach_184 rfl ?_
            refine j_getI (pc := 185) dX12_canReach_185 flX12_319 rfl ?_
            refine j_iconst (pc := 188) (v := -1) dX12_canReach_188 (by decide) ?_
            refine j_icmp_ne (pc := 189) (tgt := 197) dX12_canReach_189 (by decide) (fun c31 => ?_) (fun c31 => ?_)
            · rw [if_neg c31] at H
              refine j_aload_n (pc := 197) dX12_canReach_197 rfl ?_
              refine j_getI (pc := 198) dX12_canReach_198 flX12_319 rfl ?_
              refine Jx.sub (L' := [some (.ref 0), none, some (.int v2), some (.int v3), some (.int v4), some (.int v5)]) (⟨rfl, ⟨rfl, ⟨rfl, ⟨rfl, ⟨rfl, trivial⟩⟩⟩⟩⟩) ?_
              exact jX12_canReach_201 _ ih v2 v3 v4 v5 ((gI h28 0 46)) h28 H
            · rw [if_pos c31] at H
              refine j_iload (pc := 192) dX12_canReach_192 rfl ?_
              refine j_goto (pc := 194) (tgt := 201) dX12_canReach_194 (by decide) ?_
              refine Jx.sub (L' := [some (.ref 0), none, some (.int v2), some (.int v3), some (.int v4), some (.int v5)]) (⟨rfl, ⟨rfl, ⟨rfl, ⟨rfl, ⟨rfl, trivial⟩⟩⟩⟩⟩) ?_
              exact jX12_canReach_201 _ ih v2 v3 v4 v5 v5 h28 H
          · rw [if_neg c30] at H
            refine j_goto (pc := 180) (tgt := 210) dX12_canReach_180 (by decide) ?_
            obtain ⟨v5_32, ev5_32, H⟩ := nm_x H
            refine j_iinc (pc := 210) (L' := [some (.ref 0), none, some (.int v2), some (.int v3), some (.int v4), some (.int v5_32)]) (w := 1) dX12_canReach_210 rfl (by decide) (by decide) v5_32 ev5_32 rfl ?_
            refine j_goto (pc := 213) (tgt := 122) dX12_canReach_213 (by decide) ?_
            refine Jx.sub (L' := [some (.ref 0), none, some (.int v2), some (.int v3), some (.int v4), some (.int v5_32)]) (⟨rfl, ⟨rfl, ⟨rfl, ⟨rfl, ⟨rfl, trivial⟩⟩⟩⟩⟩) ?_
            exact ih v2 v3 v4 v5_32 h28 H
noncomputable def fX12_canReach_22 : Nat → Int32 → Int32 → Int32 → Int32 → HS → Option (Int32 × HS)
  | 0, _, _, _, _, _ => none
  | n + 1, v2, v3, v4, v5, h => if (gI h 0 45) ≤ v5 then (nm (pI h 0 46 (-1 : Int32)) (fun h7 => nm (pI h7 0 47 (-1 : Int32)) (fun h8 => nm ((imax (0 : Int32) ((-(gI h8 8 0)) - v3))) (fun v5_9 => fX12_canReach_122 FU v2 v3 v4 v5_9 h8)))) else (ck (inb v5 15) (ck (inb (gI h 21 v5.toNatClampNeg) 15) (nm ((v2 + (gI h 4 (gI h 21 v5.toNatClampNeg).toNatClampNeg))) (fun v2_12 => ck (inb v5 15) (ck (inb (gI h 21 v5.toNatClampNeg) 15) (nm ((v3 - (gI h 5 (gI h 21 v5.toNatClampNeg).toNatClampNeg))) (fun v3_15 => ck (inb v5 15) (ck (inb (gI h 21 v5.toNatClampNeg) 15) (ck (inb v5 15) (ck (inb (gI h 21 v5.toNatClampNeg) 15) (nm ((v4 - ((gI h 2 (gI h 21 v5.toNatClampNeg).toNatClampNeg) * (gI h 5 (gI h 21 v5.toNatClampNeg).toNatClampNeg)))) (fun v4_20 => nm (v5 + (1 : Int32)) (fun v5_21 => fX12_canReach_22 n v2_12 v3_15 v4_20 v5_21 h)))))))))))))
set_option maxRecDepth 100000 in
theorem jX12_canReach_22 {r : Int32} {h0 : HS} : ∀ (n : Nat) (v2 : Int32) (v3 : Int32) (v4 : Int32) (v5 : Int32) (h : HS), fX12_canReach_22 n v2 v3 v4 v5 h = some (r, h0) → Jx skM RX12 cX12_canReach 6 (some .boolean) 3 (some (.int r)) h0 22 [some (.ref 0), none, some (.int v2), some (.int v3), some (.int v4), some (.int v5)] [] h := by
  intro n
  induction n with
  | zero => intro v2 v3 v4 v5  h H; cases H
  | succ n ih =>
    intro v2 v3 v4 v5  h H
    rw [fX12_canReach_22] at H
    refine j_iload (pc := 22) dX12_canReach_22 rfl ?_
    refine j_aload_n (pc := 24) dX12_canReach_24 rfl ?_
    refine j_getI (pc := 25) dX12_canReach_25 flX12_313 rfl ?_
    refine j_icmp_ge (pc := 28) (tgt := 97) dX12_canReach_28 (by decide) (fun c6 => ?_) (fun c6 => ?_)
    · rw [if_pos c6] at H
      refine j_aload_n (pc := 97) dX12_canReach_97 rfl ?_
      refine j_iconst (pc := 98) (v := -1) dX12_canReach_98 (by decide) ?_
      obtain ⟨h7, eh7, H⟩ := nm_x H
      refine j_putI (pc := 99) dX12_canReach_99 fpX12_319 rfl h7 eh7 ?_
      refine j_aload_n (pc := 102) dX12_canReach_102 rfl ?_
      refine j_iconst (pc := 103) (v := -1) dX12_canReach_103 (by decide) ?_
      obtain ⟨h8, eh8, H⟩ := nm_x H
      refine j_putI (pc := 104) dX12_canReach_104 fpX12_322 rfl h8 eh8 ?_
      refine j_iconst (pc := 107) (v := 0) dX12_canReach_107 (by decide) ?_
      refine j_aload_n (pc := 108) dX12_canReach_108 rfl ?_
      refine j_getR (pc := 109) (b := 8) dX12_canReach_109 flX12_35 rfl ?_
      refine j_iconst (pc := 112) (v := 0) dX12_canReach_112 (by decide) ?_
      refine j_iaload (pc := 113) (j := 0) dX12_canReach_113 rfl (by decide) (by decide) ?_
      refine j_ineg (pc := 114) dX12_canReach_114 ?_
      refine j_iload_n (pc := 115) dX12_canReach_115 rfl ?_
      refine j_isub (pc := 116) dX12_canReach_116 ?_
      refine j_mmax (pc := 117) dX12_canReach_117 wmX12_159 (by simp [Value.category]) ?_
      obtain ⟨v5_9, ev5_9, H⟩ := nm_x H
      refine j_topi ev5_9 ?_
      refine j_istore (pc := 120) (L' := [some (.ref 0), none, some (.int v2), some (.int v3), some (.int v4), some (.int v5_9)]) dX12_canReach_120 (by decide) rfl ?_
      refine Jx.sub (L' := [some (.ref 0), none, some (.int v2), some (.int v3), some (.int v4), some (.int v5_9)]) (⟨rfl, ⟨rfl, ⟨rfl, ⟨rfl, ⟨rfl, trivial⟩⟩⟩⟩⟩) ?_
      exact jX12_canReach_122 FU v2 v3 v4 v5_9 h8 H
    · rw [if_neg c6] at H
      refine j_iload_n (pc := 31) dX12_canReach_31 rfl ?_
      refine j_aload_n (pc := 32) dX12_canReach_32 rfl ?_
      refine j_getR (pc := 33) (b := 4) dX12_canReach_33 flX12_19 rfl ?_
      refine j_aload_n (pc := 36) dX12_canReach_36 rfl ?_
      refine j_getR (pc := 37) (b := 21) dX12_canReach_37 flX12_79 rfl ?_
      refine j_iload (pc := 40) dX12_canReach_40 rfl ?_
      obtain ⟨b10, H⟩ := ck_x H
      refine j_iaload (pc := 42) dX12_canReach_42 rfl b10 rfl ?_
      obtain ⟨b11, H⟩ := ck_x H
      refine j_iaload (pc := 43) dX12_canReach_43 rfl b11 rfl ?_
      refine j_iadd (pc := 44) dX12_canReach_44 ?_
      obtain ⟨v2_12, ev2_12, H⟩ := nm_x H
      refine j_topi ev2_12 ?_
      refine j_istore_n (pc := 45) (L' := [some (.ref 0), none, some (.int v2_12), some (.int v3), some (.int v4), some (.int v5)]) dX12_canReach_45 (by decide) rfl ?_
      refine j_iload_n (pc := 46) dX12_canReach_46 rfl ?_
      refine j_aload_n (pc := 47) dX12_canReach_47 rfl ?_
      refine j_getR (pc := 48) (b := 5) dX12_canReach_48 flX12_22 rfl ?_
      refine j_aload_n (pc := 51) dX12_canReach_51 rfl ?_
      refine j_getR (pc := 52) (b := 21) dX12_canReach_52 flX12_79 rfl ?_
      refine j_iload (pc := 55) dX12_canReach_55 rfl ?_
      obtain ⟨b13, H⟩ := ck_x H
      refine j_iaload (pc := 57) dX12_canReach_57 rfl b13 rfl ?_
      obtain ⟨b14, H⟩ := ck_x H
      refine j_iaload (pc := 58) dX12_canReach_58 rfl b14 rfl ?_
      refine j_isub (pc := 59) dX12_canReach_59 ?_
      obtain ⟨v3_15, ev3_15, H⟩ := nm_x H
      refine j_topi ev3_15 ?_
      refine j_istore_n (pc := 60) (L' := [some (.ref 0), none, some (.int v2_12), some (.int v3_15), some (.int v4), some (.int v5)]) dX12_canReach_60 (by decide) rfl ?_
      refine j_iload (pc := 61) dX12_canReach_61 rfl ?_
      refine j_aload_n (pc := 63) dX12_canReach_63 rfl ?_
      refine j_getR (pc := 64) (b := 2) dX12_canReach_64 flX12_13 rfl ?_
      refine j_aload_n (pc := 67) dX12_canReach_67 rfl ?_
      refine j_getR (pc := 68) (b := 21) dX12_canReach_68 flX12_79 rfl ?_
      refine j_iload (pc := 71) dX12_canReach_71 rfl ?_
      obtain ⟨b16, H⟩ := ck_x H
      refine j_iaload (pc := 73) dX12_canReach_73 rfl b16 rfl ?_
      obtain ⟨b17, H⟩ := ck_x H
      refine j_iaload (pc := 74) dX12_canReach_74 rfl b17 rfl ?_
      refine j_aload_n (pc := 75) dX12_canReach_75 rfl ?_
      refine j_getR (pc := 76) (b := 5) dX12_canReach_76 flX12_22 rfl ?_
      refine j_aload_n (pc := 79) dX12_canReach_79 rfl ?_
      refine j_getR (pc := 80) (b := 21) dX12_canReach_80 flX12_79 rfl ?_
      refine j_iload (pc := 83) dX12_canReach_83 rfl ?_
      obtain ⟨b18, H⟩ := ck_x H
      refine j_iaload (pc := 85) dX12_canReach_85 rfl b18 rfl ?_
      obtain ⟨b19, H⟩ := ck_x H
      refine j_iaload (pc := 86) dX12_canReach_86 rfl b19 rfl ?_
      refine j_imul (pc := 87) dX12_canReach_87 ?_
      refine j_isub (pc := 88) dX12_canReach_88 ?_
      obtain ⟨v4_20, ev4_20, H⟩ := nm_x H
      refine j_topi ev4_20 ?_
      refine j_istore (pc := 89) (L' := [some (.ref 0), none, some (.int v2_12), some (.int v3_15), some (.int v4_20), some (.int v5)]) dX12_canReach_89 (by decide) rfl ?_
      obtain ⟨v5_21, ev5_21, H⟩ := nm_x H
      refine j_iinc (pc := 91) (L' := [some (.ref 0), none, some (.int v2_12), some (.int v3_15), some (.int v4_20), some (.int v5_21)]) (w := 1) dX12_canReach_91 rfl (by decide) (by decide) v5_21 ev5_21 rfl ?_
      refine j_goto (pc := 94) (tgt := 22) dX12_canReach_94 (by decide) ?_
      refine Jx.sub (L' := [some (.ref 0), none, some (.int v2_12), some (.int v3_15), some (.int v4_20), some (.int v5_21)]) (⟨rfl, ⟨rfl, ⟨rfl, ⟨rfl, ⟨rfl, trivial⟩⟩⟩⟩⟩) ?_
      exact ih v2_12 v3_15 v4_20 v5_21 h H
noncomputable def fX12_canReach (p1 : Int32) (h : HS) : Option (Int32 × HS) := bv (fX12_orderTanks h) (fun h1 => bd (fX12_heavyAt p1 h1) (fun r3 h2 => bd (fX12_momentOf (0 : Int32) h2) (fun r5 h4 => fX12_canReach_22 FU (0 : Int32) r3 r5 (0 : Int32) h4)))
set_option maxRecDepth 100000 in
theorem tX12_canReach {p1 : Int32} {r : Int32} {h h0 : HS} (H : fX12_canReach p1 h = some (r, h0)) : Cn skM yX12_canReach cX12_canReach 6 (some .boolean) 3 [.ref 0, .int p1] h (some (.int r)) h0 := by
  refine Cn_of (L := [some (.ref 0), some (.int p1), none, none, none, none]) (by decide +kernel) (by simp [lg_sl, Value.category]) (fun ad => by simp [lg_sl, tv, Value.category]) (⟨rfl, ⟨rfl, trivial⟩⟩) ?_
  unfold fX12_canReach at H
  refine j_aload_n (pc := 0) dX12_canReach_0 rfl ?_
  obtain ⟨h1, eh1, H⟩ := bv_x H
  refine j_callV (pc := 1) dX12_canReach_1 mlX12_316 wyX12_orderTanks (tX12_orderTanks eh1) (by decide) rfl rfl rfl rfl (by simp [Value.category]) rfl ?_
  refine j_iconst (pc := 4) (v := 0) dX12_canReach_4 (by decide) ?_
  refine j_istore_n (pc := 5) (L' := [some (.ref 0), some (.int p1), some (.int (0 : Int32)), none, none, none]) dX12_canReach_5 (by decide) rfl ?_
  refine j_aload_n (pc := 6) dX12_canReach_6 rfl ?_
  refine j_iload_n (pc := 7) dX12_canReach_7 rfl ?_
  obtain ⟨r3, h2, eh2, H⟩ := bd_x H
  refine j_callV (pc := 8) dX12_canReach_8 mlX12_198 wyX12_heavyAt (tX12_heavyAt eh2) (by decide) rfl rfl rfl rfl (by simp [Value.category]) rfl ?_
  refine j_istore_n (pc := 11) (L' := [some (.ref 0), some (.int p1), some (.int (0 : Int32)), some (.int r3), none, none]) dX12_canReach_11 (by decide) rfl ?_
  refine j_aload_n (pc := 12) dX12_canReach_12 rfl ?_
  refine j_iconst (pc := 13) (v := 0) dX12_canReach_13 (by decide) ?_
  obtain ⟨r5, h4, eh4, H⟩ := bd_x H
  refine j_callV (pc := 14) dX12_canReach_14 mlX12_204 wyX12_momentOf (tX12_momentOf eh4) (by decide) rfl rfl rfl rfl (by simp [Value.category]) rfl ?_
  refine j_istore (pc := 17) (L' := [some (.ref 0), some (.int p1), some (.int (0 : Int32)), some (.int r3), some (.int r5), none]) dX12_canReach_17 (by decide) rfl ?_
  refine j_iconst (pc := 19) (v := 0) dX12_canReach_19 (by decide) ?_
  refine j_istore (pc := 20) (L' := [some (.ref 0), some (.int p1), some (.int (0 : Int32)), some (.int r3), some (.int r5), some (.int (0 : Int32))]) dX12_canReach_20 (by decide) rfl ?_
  refine Jx.sub (L' := [some (.ref 0), none, some (.int (0 : Int32)), some (.int r3), some (.int r5), some (.int (0 : Int32))]) (⟨rfl, ⟨rfl, ⟨rfl, ⟨rfl, ⟨rfl, trivial⟩⟩⟩⟩⟩) ?_
  exact jX12_canReach_22 FU (0 : Int32) r3 r5 (0 : Int32) h4 H

noncomputable def fX12_reach_45 (v2 : Int32) (h : HS) : Option (Int32 × HS) := if v2 = 0 then (some ((0 : Int32), h)) else (some ((1 : Int32), h))
set_option maxRecDepth 100000 in
theorem jX12_reach_45 {r : Int32} {h0 : HS} (v2 : Int32) (h : HS) (H : fX12_reach_45 v2 h = some (r, h0)) : Jx skM RX12 cX12_reach 3 (some .int) 4 (some (.int r)) h0 45 [none, none, some (.int v2)] [] h := by
  unfold fX12_reach_45 at H
  refine j_iload_n (pc := 45) dX12_reach_45 rfl ?_
  refine j_if_eq (pc := 46) (tgt := 53) dX12_reach_46 (by decide) (fun c11 => ?_) (fun c11 => ?_)
  · rw [if_pos c11] at H
    refine j_iconst (pc := 53) (v := 0) dX12_reach_53 (by decide) ?_
    exact j_ireturn (pc := 54) dX12_reach_54 rfl (ri_1 H) (ri_2 H)
  · rw [if_neg c11] at H
    refine j_iconst (pc := 49) (v := 1) dX12_reach_49 (by decide) ?_
    refine j_goto (pc := 50) (tgt := 54) dX12_reach_50 (by decide) ?_
    exact j_ireturn (pc := 54) dX12_reach_54 rfl (ri_1 H) (ri_2 H)
noncomputable def fX12_reach (p1 : Int32) (h : HS) : Option (Int32 × HS) := nm (pI h 0 22 (0 : Int32)) (fun h1 => bd (fX12_isDepth p1 h1) (fun r3 h2 => if r3 = 0 then (some ((-1 : Int32), h2)) else (bd (fX12_canReach p1 h2) (fun r6 h5 => nm (pI h5 0 21 (0 : Int32)) (fun h7 => if r6 = 0 then (fX12_reach_45 r6 h7) else (bv (fX12_tell ((gI h7 0 46)) h7) (fun h9 => bv (fX12_tell ((gI h9 0 47)) h9) (fun h10 => fX12_reach_45 r6 h10))))))))
set_option maxRecDepth 100000 in
theorem tX12_reach {p1 : Int32} {r : Int32} {h h0 : HS} (H : fX12_reach p1 h = some (r, h0)) : Cn skM yX12_reach cX12_reach 3 (some .int) 4 [.ref 0, .int p1] h (some (.int r)) h0 := by
  refine Cn_of (L := [some (.ref 0), some (.int p1), none]) (by decide +kernel) (by simp [lg_sl, Value.category]) (fun ad => by simp [lg_sl, tv, Value.category]) (⟨rfl, ⟨rfl, trivial⟩⟩) ?_
  unfold fX12_reach at H
  refine j_aload_n (pc := 0) dX12_reach_0 rfl ?_
  refine j_iconst (pc := 1) (v := 0) dX12_reach_1 (by decide) ?_
  obtain ⟨h1, eh1, H⟩ := nm_x H
  refine j_putI (pc := 2) dX12_reach_2 fpX12_133 rfl h1 eh1 ?_
  refine j_iload_n (pc := 5) dX12_reach_5 rfl ?_
  obtain ⟨r3, h2, eh2, H⟩ := bd_x H
  refine j_callS (pc := 6) dX12_reach_6 mlX12_178 wyX12_isDepth (tX12_isDepth eh2) (by decide) rfl (by simp [Value.category]) rfl ?_
  refine j_if_ne (pc := 9) (tgt := 14) dX12_reach_9 (by decide) (fun c4 => ?_) (fun c4 => ?_)
  · rw [if_neg c4] at H
    refine j_aload_n (pc := 14) dX12_reach_14 rfl ?_
    refine j_iload_n (pc := 15) dX12_reach_15 rfl ?_
    obtain ⟨r6, h5, eh5, H⟩ := bd_x H
    refine j_callV (pc := 16) dX12_reach_16 mlX12_329 wyX12_canReach (tX12_canReach eh5) (by decide) rfl rfl rfl rfl (by simp [Value.category]) rfl ?_
    refine j_istore_n (pc := 19) (L' := [some (.ref 0), some (.int p1), some (.int r6)]) dX12_reach_19 (by decide) rfl ?_
    refine j_aload_n (pc := 20) dX12_reach_20 rfl ?_
    refine j_iconst (pc := 21) (v := 0) dX12_reach_21 (by decide) ?_
    obtain ⟨h7, eh7, H⟩ := nm_x H
    refine j_putI (pc := 22) dX12_reach_22 fpX12_136 rfl h7 eh7 ?_
    refine j_iload_n (pc := 25) dX12_reach_25 rfl ?_
    refine j_if_eq (pc := 26) (tgt := 45) dX12_reach_26 (by decide) (fun c8 => ?_) (fun c8 => ?_)
    · rw [if_pos c8] at H
      refine Jx.sub (L' := [none, none, some (.int r6)]) (⟨rfl, trivial⟩) ?_
      exact jX12_reach_45 r6 h7 H
    · rw [if_neg c8] at H
      refine j_aload_n (pc := 29) dX12_reach_29 rfl ?_
      refine j_aload_n (pc := 30) dX12_reach_30 rfl ?_
      refine j_getI (pc := 31) dX12_reach_31 flX12_319 rfl ?_
      obtain ⟨h9, eh9, H⟩ := bv_x H
      refine j_callV (pc := 34) dX12_reach_34 mlX12_210 wyX12_tell (tX12_tell eh9) (by decide) rfl rfl rfl rfl (by simp [Value.category]) rfl ?_
      refine j_aload_n (pc := 37) dX12_reach_37 rfl ?_
      refine j_aload_n (pc := 38) dX12_reach_38 rfl ?_
      refine j_getI (pc := 39) dX12_reach_39 flX12_322 rfl ?_
      obtain ⟨h10, eh10, H⟩ := bv_x H
      refine j_callV (pc := 42) dX12_reach_42 mlX12_210 wyX12_tell (tX12_tell eh10) (by decide) rfl rfl rfl rfl (by simp [Value.category]) rfl ?_
      refine Jx.sub (L' := [none, none, some (.int r6)]) (⟨rfl, trivial⟩) ?_
      exact jX12_reach_45 r6 h10 H
  · rw [if_pos c4] at H
    refine j_iconst (pc := 12) (v := -1) dX12_reach_12 (by decide) ?_
    exact j_ireturn (pc := 13) dX12_reach_13 rfl (ri_1 H) (ri_2 H)

noncomputable def fX12_shot_86 : Nat → Int32 → Int32 → Int32 → Int32 → Int32 → Int32 → Int32 → Int32 → Int32 → HS → Option (Int32 × HS)
  | 0, _, _, _, _, _, _, _, _, _, _ => none
  | n + 1, v1, v2, v3, v4, v5, v6, v7, v8, v9, h => if v2 ≤ v9 then (ck (inb v1 15) (ck (inb v1 15) (nm (pI h 5 v1.toNatClampNeg ((gI h 5 v1.toNatClampNeg) - v2)) (fun h23 => ck (inb v5 15) (ck (inb v5 15) (nm (pI h23 5 v5.toNatClampNeg ((gI h23 5 v5.toNatClampNeg) + v2)) (fun h26 => nm (pI h26 0 21 (0 : Int32)) (fun h28 => bv (fX12_tell v6 h28) (fun h29 => bv (fX12_tell v7 h29) (fun h30 => some (v8, h30))))))))))) else (nm ((v6 + (v2 - v9))) (fun v6_31 => ck (inb v5 15) (ck (inb v1 15) (nm ((v7 + (((gI h 2 v5.toNatClampNeg) * v9) - ((gI h 2 v1.toNatClampNeg) * v2)))) (fun v7_34 => nm (v8 + (1 : Int32)) (fun v8_35 => nm ((imin v2 (v4 * (imax (0 : Int32) (v8_35 - v3))))) (fun v9_36 => fX12_shot_86 n v1 v2 v3 v4 v5 v6_31 v7_34 v8_35 v9_36 h)))))))
set_option maxRecDepth 100000 in
theorem jX12_shot_86 {r : Int32} {h0 : HS} : ∀ (n : Nat) (v1 : Int32) (v2 : Int32) (v3 : Int32) (v4 : Int32) (v5 : Int32) (v6 : Int32) (v7 : Int32) (v8 : Int32) (v9 : Int32) (h : HS), fX12_shot_86 n v1 v2 v3 v4 v5 v6 v7 v8 v9 h = some (r, h0) → Jx skM RX12 cX12_shot 10 (some .int) 3 (some (.int r)) h0 86 [some (.ref 0), some (.int v1), some (.int v2), some (.int v3), some (.int v4), some (.int v5), some (.int v6), some (.int v7), some (.int v8), some (.int v9)] [] h := by
  intro n
  induction n with
  | zero => intro v1 v2 v3 v4 v5 v6 v7 v8 v9  h H; cases H
  | succ n ih =>
    intro v1 v2 v3 v4 v5 v6 v7 v8 v9  h H
    rw [fX12_shot_86] at H
    refine j_iload (pc := 86) dX12_shot_86 rfl ?_
    refine j_iload_n (pc := 88) dX12_shot_88 rfl ?_
    refine j_icmp_ge (pc := 89) (tgt := 148) dX12_shot_89 (by decide) (fun c21 => ?_) (fun c21 => ?_)
    · rw [if_pos c21] at H
      refine j_aload_n (pc := 148) dX12_shot_148 rfl ?_
      refine j_getR (pc := 149) (b := 5) dX12_shot_149 flX12_22 rfl ?_
      refine j_iload_n (pc := 152) dX12_shot_152 rfl ?_
      refine j_dup2 (pc := 153) dX12_shot_153 rfl rfl ?_
      obtain ⟨b22, H⟩ := ck_x H
      refine j_iaload (pc := 154) dX12_shot_154 rfl b22 rfl ?_
      refine j_iload_n (pc := 155) dX12_shot_155 rfl ?_
      refine j_isub (pc := 156) dX12_shot_156 ?_
      obtain ⟨b24, H⟩ := ck_x H
      obtain ⟨h23, eh23, H⟩ := nm_x H
      refine j_iastore (pc := 157) dX12_shot_157 rfl b24 rfl h23 eh23 ?_
      refine j_aload_n (pc := 158) dX12_shot_158 rfl ?_
      refine j_getR (pc := 159) (b := 5) dX12_shot_159 flX12_22 rfl ?_
      refine j_iload (pc := 162) dX12_shot_162 rfl ?_
      refine j_dup2 (pc := 164) dX12_shot_164 rfl rfl ?_
      obtain ⟨b25, H⟩ := ck_x H
      refine j_iaload (pc := 165) dX12_shot_165 rfl b25 rfl ?_
      refine j_iload_n (pc := 166) dX12_shot_166 rfl ?_
      refine j_iadd (pc := 167) dX12_shot_167 ?_
      obtain ⟨b27, H⟩ := ck_x H
      obtain ⟨h26, eh26, H⟩ := nm_x H
      refine j_iastore (pc := 168) dX12_shot_168 rfl b27 rfl h26 eh26 ?_
      refine j_aload_n (pc := 169) dX12_shot_169 rfl ?_
      refine j_iconst (pc := 170) (v := 0) dX12_shot_170 (by decide) ?_
      obtain ⟨h28, eh28, H⟩ := nm_x H
      refine j_putI (pc := 171) dX12_shot_171 fpX12_136 rfl h28 eh28 ?_
      refine j_aload_n (pc := 174) dX12_shot_174 rfl ?_
      refine j_iload (pc := 175) dX12_shot_175 rfl ?_
      obtain ⟨h29, eh29, H⟩ := bv_x H
      refine j_callV (pc := 177) dX12_shot_177 mlX12_210 wyX12_tell (tX12_tell eh29) (by decide) rfl rfl rfl rfl (by simp [Value.category]) rfl ?_
      refine j_aload_n (pc := 180) dX12_shot_180 rfl ?_
      refine j_iload (pc := 181) dX12_shot_181 rfl ?_
      obtain ⟨h30, eh30, H⟩ := bv_x H
      refine j_callV (pc := 183) dX12_shot_183 mlX12_210 wyX12_tell (tX12_tell eh30) (by decide) rfl rfl rfl rfl (by simp [Value.category]) rfl ?_
      refine j_iload (pc := 186) dX12_shot_186 rfl ?_
      exact j_ireturn (pc := 188) dX12_shot_188 rfl (ri_1 H) (ri_2 H)
    · rw [if_neg c21] at H
      refine j_iload (pc := 92) dX12_shot_92 rfl ?_
      refine j_iload_n (pc := 94) dX12_shot_94 rfl ?_
      refine j_iload (pc := 95) dX12_shot_95 rfl ?_
      refine j_isub (pc := 97) dX12_shot_97 ?_
      refine j_iadd (pc := 98) dX12_shot_98 ?_
      obtain ⟨v6_31, ev6_31, H⟩ := nm_x H
      refine j_topi ev6_31 ?_
      refine j_istore (pc := 99) (L' := [some (.ref 0), some (.int v1), some (.int v2), some (.int v3), some (.int v4), some (.int v5), some (.int v6_31), some (.int v7), some (.int v8), some (.int v9)]) dX12_shot_99 (by decide) rfl ?_
      refine j_iload (pc := 101) dX12_shot_101 rfl ?_
      refine j_aload_n (pc := 103) dX12_shot_103 rfl ?_
      refine j_getR (pc := 104) (b := 2) dX12_shot_104 flX12_13 rfl ?_
      refine j_iload (pc := 107) dX12_shot_107 rfl ?_
      obtain ⟨b32, H⟩ := ck_x H
      refine j_iaload (pc := 109) dX12_shot_109 rfl b32 rfl ?_
      refine j_iload (pc := 110) dX12_shot_110 rfl ?_
      refine j_imul (pc := 112) dX12_shot_112 ?_
      refine j_aload_n (pc := 113) dX12_shot_113 rfl ?_
      refine j_getR (pc := 114) (b := 2) dX12_shot_114 flX12_13 rfl ?_
      refine j_iload_n (pc := 117) dX12_shot_117 rfl ?_
      obtain ⟨b33, H⟩ := ck_x H
      refine j_iaload (pc := 118) dX12_shot_118 rfl b33 rfl ?_
      refine j_iload_n (pc := 119) dX12_shot_119 rfl ?_
      refine j_imul (pc := 120) dX12_shot_120 ?_
      refine j_isub (pc := 121) dX12_shot_121 ?_
      refine j_iadd (pc := 122) dX12_shot_122 ?_
      obtain ⟨v7_34, ev7_34, H⟩ := nm_x H
      refine j_topi ev7_34 ?_
      refine j_istore (pc := 123) (L' := [some (.ref 0), some (.int v1), some (.int v2), some (.int v3), some (.int v4), some (.int v5), some (.int v6_31), some (.int v7_34), some (.int v8), some (.int v9)]) dX12_shot_123 (by decide) rfl ?_
      obtain ⟨v8_35, ev8_35, H⟩ := nm_x H
      refine j_iinc (pc := 125) (L' := [some (.ref 0), some (.int v1), some (.int v2), some (.int v3), some (.int v4), some (.int v5), some (.int v6_31), some (.int v7_34), some (.int v8_35), some (.int v9)]) (w := 1) dX12_shot_125 rfl (by decide) (by decide) v8_35 ev8_35 rfl ?_
      refine j_iload_n (pc := 128) dX12_shot_128 rfl ?_
      refine j_iload (pc := 129) dX12_shot_129 rfl ?_
      refine j_iconst (pc := 131) (v := 0) dX12_shot_131 (by decide) ?_
      refine j_iload (pc := 132) dX12_shot_132 rfl ?_
      refine j_iload_n (pc := 134) dX12_shot_134 rfl ?_
      refine j_isub (pc := 135) dX12_shot_135 ?_
      refine j_mmax (pc := 136) dX12_shot_136 wmX12_159 (by simp [Value.category]) ?_
      refine j_imul (pc := 139) dX12_shot_139 ?_
      refine j_mmin (pc := 140) dX12_shot_140 wmX12_153 (by simp [Value.category]) ?_
      obtain ⟨v9_36, ev9_36, H⟩ := nm_x H
      refine j_topi ev9_36 ?_
      refine j_istore (pc := 143) (L' := [some (.ref 0), some (.int v1), some (.int v2), some (.int v3), some (.int v4), some (.int v5), some (.int v6_31), some (.int v7_34), some (.int v8_35), some (.int v9_36)]) dX12_shot_143 (by decide) rfl ?_
      refine j_goto (pc := 145) (tgt := 86) dX12_shot_145 (by decide) ?_
      refine Jx.sub (L' := [some (.ref 0), some (.int v1), some (.int v2), some (.int v3), some (.int v4), some (.int v5), some (.int v6_31), some (.int v7_34), some (.int v8_35), some (.int v9_36)]) (⟨rfl, ⟨rfl, ⟨rfl, ⟨rfl, ⟨rfl, ⟨rfl, ⟨rfl, ⟨rfl, ⟨rfl, ⟨rfl, trivial⟩⟩⟩⟩⟩⟩⟩⟩⟩⟩) ?_
      exact ih v1 v2 v3 v4 v5 v6_31 v7_34 v8_35 v9_36 h H
noncomputable def fX12_shot (p1 : Int32) (p2 : Int32) (p3 : Int32) (p4 : Int32) (p5 : Int32) (h : HS) : Option (Int32 × HS) := nm (pI h 0 22 (0 : Int32)) (fun h1 => bd (fX12_isOf p1 (3 : Int32) h1) (fun r3 h2 => if r3 = 0 then (some ((-1 : Int32), h2)) else (ck (inb p1 15) (bd (fX12_in p2 (1 : Int32) ((gI h2 5 p1.toNatClampNeg)) h2) (fun r7 h6 => if r7 = 0 then (some ((-1 : Int32), h6)) else (bd (fX12_in p3 (0 : Int32) (60 : Int32) h6) (fun r10 h9 => if r10 = 0 then (some ((-1 : Int32), h9)) else (bd (fX12_in p4 (1 : Int32) (99 : Int32) h9) (fun r13 h12 => if r13 = 0 then (some ((-1 : Int32), h12)) else (bd (fX12_isOf p5 (0 : Int32) h12) (fun r16 h15 => if r16 = 0 then (some ((-1 : Int32), h15)) else (bd (fX12_roomOf p5 h15) (fun r19 h18 => if p2 ≤ r19 then (fX12_shot_86 FU p1 p2 p3 p4 p5 (0 : Int32) (0 : Int32) (0 : Int32) (0 : Int32) h18) else (some ((-2 : Int32), h18)))))))))))))))
set_option maxRecDepth 100000 in
theorem tX12_shot {p1 : Int32} {p2 : Int32} {p3 : Int32} {p4 : Int32} {p5 : Int32} {r : Int32} {h h0 : HS} (H : fX12_shot p1 p2 p3 p4 p5 h = some (r, h0)) : Cn skM yX12_shot cX12_shot 10 (some .int) 3 [.ref 0, .int p1, .int p2, .int p3, .int p4, .int p5] h (some (.int r)) h0 := by
  refine Cn_of (L := [some (.ref 0), some (.int p1), some (.int p2), some (.int p3), some (.int p4), some (.int p5), none, none, none, none]) (by decide +kernel) (by simp [lg_sl, Value.category]) (fun ad => by simp [lg_sl, tv, Value.category]) (⟨rfl, ⟨rfl, ⟨rfl, ⟨rfl, ⟨rfl, ⟨rfl, trivial⟩⟩⟩⟩⟩⟩) ?_
  unfold fX12_shot at H
  refine j_aload_n (pc := 0) dX12_shot_0 rfl ?_
  refine j_iconst (pc := 1) (v := 0) dX12_shot_1 (by decide) ?_
  obtain ⟨h1, eh1, H⟩ := nm_x H
  refine j_putI (pc := 2) dX12_shot_2 fpX12_133 rfl h1 eh1 ?_
  refine j_aload_n (pc := 5) dX12_shot_5 rfl ?_
  refine j_iload_n (pc := 6) dX12_shot_6 rfl ?_
  refine j_iconst (pc := 7) (v := 3) dX12_shot_7 (by decide) ?_
  obtain ⟨r3, h2, eh2, H⟩ := bd_x H
  refine j_callV (pc := 8) dX12_shot_8 mlX12_284 wyX12_isOf (tX12_isOf eh2) (by decide) rfl rfl rfl rfl (by simp [Value.category]) rfl ?_
  refine j_if_eq (pc := 11) (tgt := 59) dX12_shot_11 (by decide) (fun c4 => ?_) (fun c4 => ?_)
  · rw [if_pos c4] at H
    refine j_iconst (pc := 59) (v := -1) dX12_shot_59 (by decide) ?_
    exact j_ireturn (pc := 60) dX12_shot_60 rfl (ri_1 H) (ri_2 H)
  · rw [if_neg c4] at H
    refine j_iload_n (pc := 14) dX12_shot_14 rfl ?_
    refine j_iconst (pc := 15) (v := 1) dX12_shot_15 (by decide) ?_
    refine j_aload_n (pc := 16) dX12_shot_16 rfl ?_
    refine j_getR (pc := 17) (b := 5) dX12_shot_17 flX12_22 rfl ?_
    refine j_iload_n (pc := 20) dX12_shot_20 rfl ?_
    obtain ⟨b5, H⟩ := ck_x H
    refine j_iaload (pc := 21) dX12_shot_21 rfl b5 rfl ?_
    obtain ⟨r7, h6, eh6, H⟩ := bd_x H
    refine j_callS (pc := 22) dX12_shot_22 mlX12_142 wyX12_in (tX12_in eh6) (by decide) rfl (by simp [Value.category]) rfl ?_
    refine j_if_eq (pc := 25) (tgt := 59) dX12_shot_25 (by decide) (fun c8 => ?_) (fun c8 => ?_)
    · rw [if_pos c8] at H
      refine j_iconst (pc := 59) (v := -1) dX12_shot_59 (by decide) ?_
      exact j_ireturn (pc := 60) dX12_shot_60 rfl (ri_1 H) (ri_2 H)
    · rw [if_neg c8] at H
      refine j_iload_n (pc := 28) dX12_shot_28 rfl ?_
      refine j_iconst (pc := 29) (v := 0) dX12_shot_29 (by decide) ?_
      refine j_bipush (pc := 30) (v := 60) dX12_shot_30 (by decide) ?_
      obtain ⟨r10, h9, eh9, H⟩ := bd_x H
      refine j_callS (pc := 32) dX12_shot_32 mlX12_142 wyX12_in (tX12_in eh9) (by decide) rfl (by simp [Value.category]) rfl ?_
      refine j_if_eq (pc := 35) (tgt := 59) dX12_shot_35 (by decide) (fun c11 => ?_) (fun c11 => ?_)
      · rw [if_pos c11] at H
        refine j_iconst (pc := 59) (v := -1) dX12_shot_59 (by decide) ?_
        exact j_ireturn (pc := 60) dX12_shot_60 rfl (ri_1 H) (ri_2 H)
      · rw [if_neg c11] at H
        refine j_iload (pc := 38) dX12_shot_38 rfl ?_
        refine j_iconst (pc := 40) (v := 1) dX12_shot_40 (by decide) ?_
        refine j_bipush (pc := 41) (v := 99) dX12_shot_41 (by decide) ?_
        obtain ⟨r13, h12, eh12, H⟩ := bd_x H
        refine j_callS (pc := 43) dX12_shot_43 mlX12_142 wyX12_in (tX12_in eh12) (by decide) rfl (by simp [Value.category]) rfl ?_
        refine j_if_eq (pc := 46) (tgt := 59) dX12_shot_46 (by decide) (fun c14 => ?_) (fun c14 => ?_)
        · rw [if_pos c14] at H
          refine j_iconst (pc := 59) (v := -1) dX12_shot_59 (by decide) ?_
          exact j_ireturn (pc := 60) dX12_shot_60 rfl (ri_1 H) (ri_2 H)
        · rw [if_neg c14] at H
          refine j_aload_n (pc := 49) dX12_shot_49 rfl ?_
          refine j_iload (pc := 50) dX12_shot_50 rfl ?_
          refine j_iconst (pc := 52) (v := 0) dX12_shot_52 (by decide) ?_
          obtain ⟨r16, h15, eh15, H⟩ := bd_x H
          refine j_callV (pc := 53) dX12_shot_53 mlX12_284 wyX12_isOf (tX12_isOf eh15) (by decide) rfl rfl rfl rfl (by simp [Value.category]) rfl ?_
          refine j_if_ne (pc := 56) (tgt := 61) dX12_shot_56 (by decide) (fun c17 => ?_) (fun c17 => ?_)
          · rw [if_neg c17] at H
            refine j_aload_n (pc := 61) dX12_shot_61 rfl ?_
            refine j_iload (pc := 62) dX12_shot_62 rfl ?_
            obtain ⟨r19, h18, eh18, H⟩ := bd_x H
            refine j_callV (pc := 64) dX12_shot_64 mlX12_307 wyX12_roomOf (tX12_roomOf eh18) (by decide) rfl rfl rfl rfl (by simp [Value.category]) rfl ?_
            refine j_iload_n (pc := 67) dX12_shot_67 rfl ?_
            refine j_icmp_ge (pc := 68) (tgt := 74) dX12_shot_68 (by decide) (fun c20 => ?_) (fun c20 => ?_)
            · rw [if_pos c20] at H
              refine j_iconst (pc := 74) (v := 0) dX12_shot_74 (by decide) ?_
              refine j_istore (pc := 75) (L' := [some (.ref 0), some (.int p1), some (.int p2), some (.int p3), some (.int p4), some (.int p5), some (.int (0 : Int32)), none, none, none]) dX12_shot_75 (by decide) rfl ?_
              refine j_iconst (pc := 77) (v := 0) dX12_shot_77 (by decide) ?_
              refine j_istore (pc := 78) (L' := [some (.ref 0), some (.int p1), some (.int p2), some (.int p3), some (.int p4), some (.int p5), some (.int (0 : Int32)), some (.int (0 : Int32)), none, none]) dX12_shot_78 (by decide) rfl ?_
              refine j_iconst (pc := 80) (v := 0) dX12_shot_80 (by decide) ?_
              refine j_istore (pc := 81) (L' := [some (.ref 0), some (.int p1), some (.int p2), some (.int p3), some (.int p4), some (.int p5), some (.int (0 : Int32)), some (.int (0 : Int32)), some (.int (0 : Int32)), none]) dX12_shot_81 (by decide) rfl ?_
              refine j_iconst (pc := 83) (v := 0) dX12_shot_83 (by decide) ?_
              refine j_istore (pc := 84) (L' := [some (.ref 0), some (.int p1), some (.int p2), some (.int p3), some (.int p4), some (.int p5), some (.int (0 : Int32)), some (.int (0 : Int32)), some (.int (0 : Int32)), some (.int (0 : Int32))]) dX12_shot_84 (by decide) rfl ?_
              refine Jx.sub (L' := [some (.ref 0), some (.int p1), some (.int p2), some (.int p3), some (.int p4), some (.int p5), some (.int (0 : Int32)), some (.int (0 : Int32)), some (.int (0 : Int32)), some (.int (0 : Int32))]) (⟨rfl, ⟨rfl, ⟨rfl, ⟨rfl, ⟨rfl, ⟨rfl, ⟨rfl, ⟨rfl, ⟨rfl, ⟨rfl, trivial⟩⟩⟩⟩⟩⟩⟩⟩⟩⟩) ?_
              exact jX12_shot_86 FU p1 p2 p3 p4 p5 (0 : Int32) (0 : Int32) (0 : Int32) (0 : Int32) h18 H
            · rw [if_neg c20] at H
              refine j_bipush (pc := 71) (v := -2) dX12_shot_71 (by decide) ?_
              exact j_ireturn (pc := 73) dX12_shot_73 rfl (ri_1 H) (ri_2 H)
          · rw [if_pos c17] at H
            refine j_iconst (pc := 59) (v := -1) dX12_shot_59 (by decide) ?_
            exact j_ireturn (pc := 60) dX12_shot_60 rfl (ri_1 H) (ri_2 H)

noncomputable def fX12_second_94 (s1 : Int32) (h : HS) : Option HS := nm (pI h 0 48 s1) (fun h12 => nm (pI h12 0 49 (0 : Int32)) (fun h13 => some h13))
set_option maxRecDepth 100000 in
theorem jX12_second_94 {h0 : HS} (s1 : Int32) (h : HS) (H : fX12_second_94 s1 h = some h0) : Jx skM RX12 cX12_second 1 none 3 none h0 94 [some (.ref 0)] [.int s1, .ref 0] h := by
  unfold fX12_second_94 at H
  obtain ⟨h12, eh12, H⟩ := nm_x H
  refine j_putI (pc := 94) dX12_second_94 fpX12_335 rfl h12 eh12 ?_
  refine j_aload_n (pc := 97) dX12_second_97 rfl ?_
  refine j_iconst (pc := 98) (v := 0) dX12_second_98 (by decide) ?_
  obtain ⟨h13, eh13, H⟩ := nm_x H
  refine j_putI (pc := 99) dX12_second_99 fpX12_332 rfl h13 eh13 ?_
  exact j_return (pc := 102) dX12_second_102 rfl rfl (rv_2 H)
noncomputable def fX12_second (h : HS) : Option HS := bd (fX12_heavyAt (((gI h 0 48) / (10 : Int32))) h) (fun r2 h1 => bd (fX12_momentOf (0 : Int32) h1) (fun r4 h3 => nm (pI h3 0 49 ((gI h 0 49) + ((r2 / (20 : Int32)) + (r4 / (2000 : Int32))))) (fun h5 => nm (pI h5 0 49 (imax (-30 : Int32) (imin (30 : Int32) (gI h5 0 49)))) (fun h6 => nm (pI h6 0 48 ((gI h6 0 48) + (gI h6 0 49))) (fun h7 => bd (fX12_in ((gI h7 0 48)) (0 : Int32) (6000 : Int32) h7) (fun r9 h8 => if r9 = 0 then (if 0 ≤ (gI h8 0 48) then (fX12_second_94 (6000 : Int32) h8) else (fX12_second_94 (0 : Int32) h8)) else (some h8)))))))
set_option maxRecDepth 100000 in
theorem tX12_second {h h0 : HS} (H : fX12_second h = some h0) : Cn skM yX12_second cX12_second 1 none 3 [.ref 0] h none h0 := by
  refine Cn_of (L := [some (.ref 0)]) (by decide +kernel) (by simp [lg_sl, Value.category]) (fun ad => by simp [lg_sl, tv, Value.category]) (⟨rfl, trivial⟩) ?_
  unfold fX12_second at H
  refine j_aload_n (pc := 0) dX12_second_0 rfl ?_
  refine j_dup (pc := 1) dX12_second_1 rfl ?_
  refine j_getI (pc := 2) dX12_second_2 flX12_332 rfl ?_
  refine j_aload_n (pc := 5) dX12_second_5 rfl ?_
  refine j_aload_n (pc := 6) dX12_second_6 rfl ?_
  refine j_getI (pc := 7) dX12_second_7 flX12_335 rfl ?_
  refine j_bipush (pc := 10) (v := 10) dX12_second_10 (by decide) ?_
  refine j_idiv (pc := 12) dX12_second_12 (by decide) ?_
  obtain ⟨r2, h1, eh1, H⟩ := bd_x H
  refine j_callV (pc := 13) dX12_second_13 mlX12_198 wyX12_heavyAt (tX12_heavyAt eh1) (by decide) rfl rfl rfl rfl (by simp [Value.category]) rfl ?_
  refine j_bipush (pc := 16) (v := 20) dX12_second_16 (by decide) ?_
  refine j_idiv (pc := 18) dX12_second_18 (by decide) ?_
  refine j_aload_n (pc := 19) dX12_second_19 rfl ?_
  refine j_iconst (pc := 20) (v := 0) dX12_second_20 (by decide) ?_
  obtain ⟨r4, h3, eh3, H⟩ := bd_x H
  refine j_callV (pc := 21) dX12_second_21 mlX12_204 wyX12_momentOf (tX12_momentOf eh3) (by decide) rfl rfl rfl rfl (by simp [Value.category]) rfl ?_
  refine j_sipush (pc := 24) (v := 2000) dX12_second_24 (by decide) ?_
  refine j_idiv (pc := 27) dX12_second_27 (by decide) ?_
  refine j_iadd (pc := 28) dX12_second_28 ?_
  refine j_iadd (pc := 29) dX12_second_29 ?_
  obtain ⟨h5, eh5, H⟩ := nm_x H
  refine j_putI (pc := 30) dX12_second_30 fpX12_332 rfl h5 eh5 ?_
  refine j_aload_n (pc := 33) dX12_second_33 rfl ?_
  refine j_bipush (pc := 34) (v := -30) dX12_second_34 (by decide) ?_
  refine j_bipush (pc := 36) (v := 30) dX12_second_36 (by decide) ?_
  refine j_aload_n (pc := 38) dX12_second_38 rfl ?_
  refine j_getI (pc := 39) dX12_second_39 flX12_332 rfl ?_
  refine j_mmin (pc := 42) dX12_second_42 wmX12_153 (by simp [Value.category]) ?_
  refine j_mmax (pc := 45) dX12_second_45 wmX12_159 (by simp [Value.category]) ?_
  obtain ⟨h6, eh6, H⟩ := nm_x H
  refine j_putI (pc := 48) dX12_second_48 fpX12_332 rfl h6 eh6 ?_
  refine j_aload_n (pc := 51) dX12_second_51 rfl ?_
  refine j_dup (pc := 52) dX12_second_52 rfl ?_
  refine j_getI (pc := 53) dX12_second_53 flX12_335 rfl ?_
  refine j_aload_n (pc := 56) dX12_second_56 rfl ?_
  refine j_getI (pc := 57) dX12_second_57 flX12_332 rfl ?_
  refine j_iadd (pc := 60) dX12_second_60 ?_
  obtain ⟨h7, eh7, H⟩ := nm_x H
  refine j_putI (pc := 61) dX12_second_61 fpX12_335 rfl h7 eh7 ?_
  refine j_aload_n (pc := 64) dX12_second_64 rfl ?_
  refine j_getI (pc := 65) dX12_second_65 flX12_335 rfl ?_
  refine j_iconst (pc := 68) (v := 0) dX12_second_68 (by decide) ?_
  refine j_sipush (pc := 69) (v := 6000) dX12_second_69 (by decide) ?_
  obtain ⟨r9, h8, eh8, H⟩ := bd_x H
  refine j_callS (pc := 72) dX12_second_72 mlX12_142 wyX12_in (tX12_in eh8) (by decide) rfl (by simp [Value.category]) rfl ?_
  refine j_if_eq (pc := 75) (tgt := 79) dX12_second_75 (by decide) (fun c10 => ?_) (fun c10 => ?_)
  · rw [if_pos c10] at H
    refine j_aload_n (pc := 79) dX12_second_79 rfl ?_
    refine j_aload_n (pc := 80) dX12_second_80 rfl ?_
    refine j_getI (pc := 81) dX12_second_81 flX12_335 rfl ?_
    refine j_if_ge (pc := 84) (tgt := 91) dX12_second_84 (by decide) (fun c11 => ?_) (fun c11 => ?_)
    · rw [if_pos c11] at H
      refine j_sipush (pc := 91) (v := 6000) dX12_second_91 (by decide) ?_
      refine Jx.sub (L' := [some (.ref 0)]) (⟨rfl, trivial⟩) ?_
      exact jX12_second_94 (6000 : Int32) h8 H
    · rw [if_neg c11] at H
      refine j_iconst (pc := 87) (v := 0) dX12_second_87 (by decide) ?_
      refine j_goto (pc := 88) (tgt := 94) dX12_second_88 (by decide) ?_
      refine Jx.sub (L' := [some (.ref 0)]) (⟨rfl, trivial⟩) ?_
      exact jX12_second_94 (0 : Int32) h8 H
  · rw [if_neg c10] at H
    exact j_return (pc := 78) dX12_second_78 rfl rfl (rv_2 H)

noncomputable def fX12_dives_68 (k34 : Int32 → Int32 → Int32 → Int32 → HS → Option (Int32 × HS)) (v2 : Int32) (v3 : Int32) (v5 : Int32) (s0 : Int32) (h : HS) : Option (Int32 × HS) := nm (v5 + (1 : Int32)) (fun v5_8 => k34 v2 v3 s0 v5_8 h)
set_option maxRecDepth 100000 in
theorem jX12_dives_68 {r : Int32} {h0 : HS} (k34 : Int32 → Int32 → Int32 → Int32 → HS → Option (Int32 × HS)) (hk34 : ∀ (v2 : Int32) (v3 : Int32) (v4 : Int32) (v5 : Int32) (h : HS), k34 v2 v3 v4 v5 h = some (r, h0) → Jx skM RX12 cX12_dives 6 (some .int) 4 (some (.int r)) h0 34 [some (.ref 0), none, some (.int v2), some (.int v3), some (.int v4), some (.int v5)] [] h) (v2 : Int32) (v3 : Int32) (v5 : Int32) (s0 : Int32) (h : HS) (H : fX12_dives_68 k34 v2 v3 v5 s0 h = some (r, h0)) : Jx skM RX12 cX12_dives 6 (some .int) 4 (some (.int r)) h0 68 [some (.ref 0), none, some (.int v2), some (.int v3), none, some (.int v5)] [.int s0] h := by
  unfold fX12_dives_68 at H
  refine j_istore (pc := 68) (L' := [some (.ref 0), none, some (.int v2), some (.int v3), some (.int s0), some (.int v5)]) dX12_dives_68 (by decide) rfl ?_
  obtain ⟨v5_8, ev5_8, H⟩ := nm_x H
  refine j_iinc (pc := 70) (L' := [some (.ref 0), none, some (.int v2), some (.int v3), some (.int s0), some (.int v5_8)]) (w := 1) dX12_dives_70 rfl (by decide) (by decide) v5_8 ev5_8 rfl ?_
  refine j_goto (pc := 73) (tgt := 34) dX12_dives_73 (by decide) ?_
  refine Jx.sub (L' := [some (.ref 0), none, some (.int v2), some (.int v3), some (.int s0), some (.int v5_8)]) (⟨rfl, ⟨rfl, ⟨rfl, ⟨rfl, ⟨rfl, trivial⟩⟩⟩⟩⟩) ?_
  exact hk34 v2 v3 s0 v5_8 h H
noncomputable def fX12_dives_66 (k34 : Int32 → Int32 → Int32 → Int32 → HS → Option (Int32 × HS)) (v2 : Int32) (v3 : Int32) (v4 : Int32) (v5 : Int32) (h : HS) : Option (Int32 × HS) := fX12_dives_68 k34 v2 v3 v5 v4 h
set_option maxRecDepth 100000 in
theorem jX12_dives_66 {r : Int32} {h0 : HS} (k34 : Int32 → Int32 → Int32 → Int32 → HS → Option (Int32 × HS)) (hk34 : ∀ (v2 : Int32) (v3 : Int32) (v4 : Int32) (v5 : Int32) (h : HS), k34 v2 v3 v4 v5 h = some (r, h0) → Jx skM RX12 cX12_dives 6 (some .int) 4 (some (.int r)) h0 34 [some (.ref 0), none, some (.int v2), some (.int v3), some (.int v4), some (.int v5)] [] h) (v2 : Int32) (v3 : Int32) (v4 : Int32) (v5 : Int32) (h : HS) (H : fX12_dives_66 k34 v2 v3 v4 v5 h = some (r, h0)) : Jx skM RX12 cX12_dives 6 (some .int) 4 (some (.int r)) h0 66 [some (.ref 0), none, some (.int v2), some (.int v3), some (.int v4), some (.int v5)] [] h := by
  unfold fX12_dives_66 at H
  refine j_iload (pc := 66) dX12_dives_66 rfl ?_
  refine Jx.sub (L' := [some (.ref 0), none, some (.int v2), some (.int v3), none, some (.int v5)]) (⟨rfl, ⟨rfl, ⟨rfl, ⟨rfl, trivial⟩⟩⟩⟩) ?_
  exact jX12_dives_68 _ hk34 v2 v3 v5 v4 h H
noncomputable def fX12_dives_34 : Nat → Int32 → Int32 → Int32 → Int32 → HS → Option (Int32 × HS)
  | 0, _, _, _, _, _ => none
  | n + 1, v2, v3, v4, v5, h => if v3 < v5 then (some (v4, h)) else (bv (fX12_second h) (fun h5 => if v4 = (-1 : Int32) then (if (gI h5 0 48) < ((10 : Int32) * v2) then (fX12_dives_66 (fX12_dives_34 n) v2 v3 v4 v5 h5) else (fX12_dives_68 (fX12_dives_34 n) v2 v3 v5 v5 h5)) else (fX12_dives_66 (fX12_dives_34 n) v2 v3 v4 v5 h5)))
set_option maxRecDepth 100000 in
theorem jX12_dives_34 {r : Int32} {h0 : HS} : ∀ (n : Nat) (v2 : Int32) (v3 : Int32) (v4 : Int32) (v5 : Int32) (h : HS), fX12_dives_34 n v2 v3 v4 v5 h = some (r, h0) → Jx skM RX12 cX12_dives 6 (some .int) 4 (some (.int r)) h0 34 [some (.ref 0), none, some (.int v2), some (.int v3), some (.int v4), some (.int v5)] [] h := by
  intro n
  induction n with
  | zero => intro v2 v3 v4 v5  h H; cases H
  | succ n ih =>
    intro v2 v3 v4 v5  h H
    rw [fX12_dives_34] at H
    refine j_iload (pc := 34) dX12_dives_34 rfl ?_
    refine j_iload_n (pc := 36) dX12_dives_36 rfl ?_
    refine j_icmp_gt (pc := 37) (tgt := 76) dX12_dives_37 (by decide) (fun c4 => ?_) (fun c4 => ?_)
    · rw [if_pos c4] at H
      refine j_iload (pc := 76) dX12_dives_76 rfl ?_
      exact j_ireturn (pc := 78) dX12_dives_78 rfl (ri_1 H) (ri_2 H)
    · rw [if_neg c4] at H
      refine j_aload_n (pc := 40) dX12_dives_40 rfl ?_
      obtain ⟨h5, eh5, H⟩ := bv_x H
      refine j_callV (pc := 41) dX12_dives_41 mlX12_338 wyX12_second (tX12_second eh5) (by decide) rfl rfl rfl rfl (by simp [Value.category]) rfl ?_
      refine j_iload (pc := 44) dX12_dives_44 rfl ?_
      refine j_iconst (pc := 46) (v := -1) dX12_dives_46 (by decide) ?_
      refine j_icmp_ne (pc := 47) (tgt := 66) dX12_dives_47 (by decide) (fun c6 => ?_) (fun c6 => ?_)
      · rw [if_neg c6] at H
        refine Jx.sub (L' := [some (.ref 0), none, some (.int v2), some (.int v3), some (.int v4), some (.int v5)]) (⟨rfl, ⟨rfl, ⟨rfl, ⟨rfl, ⟨rfl, trivial⟩⟩⟩⟩⟩) ?_
        exact jX12_dives_66 _ ih v2 v3 v4 v5 h5 H
      · rw [if_pos c6] at H
        refine j_aload_n (pc := 50) dX12_dives_50 rfl ?_
        refine j_getI (pc := 51) dX12_dives_51 flX12_335 rfl ?_
        refine j_bipush (pc := 54) (v := 10) dX12_dives_54 (by decide) ?_
        refine j_iload_n (pc := 56) dX12_dives_56 rfl ?_
        refine j_imul (pc := 57) dX12_dives_57 ?_
        refine j_icmp_lt (pc := 58) (tgt := 66) dX12_dives_58 (by decide) (fun c7 => ?_) (fun c7 => ?_)
        · rw [if_pos c7] at H
          refine Jx.sub (L' := [some (.ref 0), none, some (.int v2), some (.int v3), some (.int v4), some (.int v5)]) (⟨rfl, ⟨rfl, ⟨rfl, ⟨rfl, ⟨rfl, trivial⟩⟩⟩⟩⟩) ?_
          exact jX12_dives_66 _ ih v2 v3 v4 v5 h5 H
        · rw [if_neg c7] at H
          refine j_iload (pc := 61) dX12_dives_61 rfl ?_
          refine j_goto (pc := 63) (tgt := 68) dX12_dives_63 (by decide) ?_
          refine Jx.sub (L' := [some (.ref 0), none, some (.int v2), some (.int v3), none, some (.int v5)]) (⟨rfl, ⟨rfl, ⟨rfl, ⟨rfl, trivial⟩⟩⟩⟩) ?_
          exact jX12_dives_68 _ ih v2 v3 v5 v5 h5 H
noncomputable def fX12_dives_29 (v2 : Int32) (v3 : Int32) (s0 : Int32) (h : HS) : Option (Int32 × HS) := fX12_dives_34 FU v2 v3 s0 (1 : Int32) h
set_option maxRecDepth 100000 in
theorem jX12_dives_29 {r : Int32} {h0 : HS} (v2 : Int32) (v3 : Int32) (s0 : Int32) (h : HS) (H : fX12_dives_29 v2 v3 s0 h = some (r, h0)) : Jx skM RX12 cX12_dives 6 (some .int) 4 (some (.int r)) h0 29 [some (.ref 0), none, some (.int v2), some (.int v3), none, none] [.int s0] h := by
  unfold fX12_dives_29 at H
  refine j_istore (pc := 29) (L' := [some (.ref 0), none, some (.int v2), some (.int v3), some (.int s0), none]) dX12_dives_29 (by decide) rfl ?_
  refine j_iconst (pc := 31) (v := 1) dX12_dives_31 (by decide) ?_
  refine j_istore (pc := 32) (L' := [some (.ref 0), none, some (.int v2), some (.int v3), some (.int s0), some (.int (1 : Int32))]) dX12_dives_32 (by decide) rfl ?_
  refine Jx.sub (L' := [some (.ref 0), none, some (.int v2), some (.int v3), some (.int s0), some (.int (1 : Int32))]) (⟨rfl, ⟨rfl, ⟨rfl, ⟨rfl, ⟨rfl, trivial⟩⟩⟩⟩⟩) ?_
  exact jX12_dives_34 FU v2 v3 s0 (1 : Int32) h H
noncomputable def fX12_dives (p1 : Int32) (p2 : Int32) (p3 : Int32) (h : HS) : Option (Int32 × HS) := nm (pI h 0 48 ((10 : Int32) * p1)) (fun h1 => nm (pI h1 0 49 (0 : Int32)) (fun h2 => if (gI h2 0 48) < ((10 : Int32) * p2) then (fX12_dives_29 p2 p3 (-1 : Int32) h2) else (fX12_dives_29 p2 p3 (0 : Int32) h2)))
set_option maxRecDepth 100000 in
theorem tX12_dives {p1 : Int32} {p2 : Int32} {p3 : Int32} {r : Int32} {h h0 : HS} (H : fX12_dives p1 p2 p3 h = some (r, h0)) : Cn skM yX12_dives cX12_dives 6 (some .int) 4 [.ref 0, .int p1, .int p2, .int p3] h (some (.int r)) h0 := by
  refine Cn_of (L := [some (.ref 0), some (.int p1), some (.int p2), some (.int p3), none, none]) (by decide +kernel) (by simp [lg_sl, Value.category]) (fun ad => by simp [lg_sl, tv, Value.category]) (⟨rfl, ⟨rfl, ⟨rfl, ⟨rfl, trivial⟩⟩⟩⟩) ?_
  unfold fX12_dives at H
  refine j_aload_n (pc := 0) dX12_dives_0 rfl ?_
  refine j_bipush (pc := 1) (v := 10) dX12_dives_1 (by decide) ?_
  refine j_iload_n (pc := 3) dX12_dives_3 rfl ?_
  refine j_imul (pc := 4) dX12_dives_4 ?_
  obtain ⟨h1, eh1, H⟩ := nm_x H
  refine j_putI (pc := 5) dX12_dives_5 fpX12_335 rfl h1 eh1 ?_
  refine j_aload_n (pc := 8) dX12_dives_8 rfl ?_
  refine j_iconst (pc := 9) (v := 0) dX12_dives_9 (by decide) ?_
  obtain ⟨h2, eh2, H⟩ := nm_x H
  refine j_putI (pc := 10) dX12_dives_10 fpX12_332 rfl h2 eh2 ?_
  refine j_aload_n (pc := 13) dX12_dives_13 rfl ?_
  refine j_getI (pc := 14) dX12_dives_14 flX12_335 rfl ?_
  refine j_bipush (pc := 17) (v := 10) dX12_dives_17 (by decide) ?_
  refine j_iload_n (pc := 19) dX12_dives_19 rfl ?_
  refine j_imul (pc := 20) dX12_dives_20 ?_
  refine j_icmp_lt (pc := 21) (tgt := 28) dX12_dives_21 (by decide) (fun c3 => ?_) (fun c3 => ?_)
  · rw [if_pos c3] at H
    refine j_iconst (pc := 28) (v := -1) dX12_dives_28 (by decide) ?_
    refine Jx.sub (L' := [some (.ref 0), none, some (.int p2), some (.int p3), none, none]) (⟨rfl, ⟨rfl, ⟨rfl, trivial⟩⟩⟩) ?_
    exact jX12_dives_29 p2 p3 (-1 : Int32) h2 H
  · rw [if_neg c3] at H
    refine j_iconst (pc := 24) (v := 0) dX12_dives_24 (by decide) ?_
    refine j_goto (pc := 25) (tgt := 29) dX12_dives_25 (by decide) ?_
    refine Jx.sub (L' := [some (.ref 0), none, some (.int p2), some (.int p3), none, none]) (⟨rfl, ⟨rfl, ⟨rfl, trivial⟩⟩⟩) ?_
    exact jX12_dives_29 p2 p3 (0 : Int32) h2 H

noncomputable def fX12_dive (p1 : Int32) (p2 : Int32) (p3 : Int32) (h : HS) : Option (Int32 × HS) := nm (pI h 0 22 (0 : Int32)) (fun h1 => bd (fX12_isDepth p1 h1) (fun r3 h2 => if r3 = 0 then (some ((-1 : Int32), h2)) else (bd (fX12_isDepth p2 h2) (fun r6 h5 => if r6 = 0 then (some ((-1 : Int32), h5)) else (bd (fX12_in p3 (0 : Int32) (600 : Int32) h5) (fun r9 h8 => if r9 = 0 then (some ((-1 : Int32), h8)) else (bd (fX12_dives p1 p2 p3 h8) (fun r12 h11 => nm (pI h11 0 21 (0 : Int32)) (fun h13 => bv (fX12_tell ((gI h13 0 49)) h13) (fun h14 => bv (fX12_tell r12 h14) (fun h15 => some ((gI h15 0 48), h15))))))))))))
set_option maxRecDepth 100000 in
theorem tX12_dive {p1 : Int32} {p2 : Int32} {p3 : Int32} {r : Int32} {h h0 : HS} (H : fX12_dive p1 p2 p3 h = some (r, h0)) : Cn skM yX12_dive cX12_dive 5 (some .int) 5 [.ref 0, .int p1, .int p2, .int p3] h (some (.int r)) h0 := by
  refine Cn_of (L := [some (.ref 0), some (.int p1), some (.int p2), some (.int p3), none]) (by decide +kernel) (by simp [lg_sl, Value.category]) (fun ad => by simp [lg_sl, tv, Value.category]) (⟨rfl, ⟨rfl, ⟨rfl, ⟨rfl, trivial⟩⟩⟩⟩) ?_
  unfold fX12_dive at H
  refine j_aload_n (pc := 0) dX12_dive_0 rfl ?_
  refine j_iconst (pc := 1) (v := 0) dX12_dive_1 (by decide) ?_
  obtain ⟨h1, eh1, H⟩ := nm_x H
  refine j_putI (pc := 2) dX12_dive_2 fpX12_133 rfl h1 eh1 ?_
  refine j_iload_n (pc := 5) dX12_dive_5 rfl ?_
  obtain ⟨r3, h2, eh2, H⟩ := bd_x H
  refine j_callS (pc := 6) dX12_dive_6 mlX12_178 wyX12_isDepth (tX12_isDepth eh2) (by decide) rfl (by simp [Value.category]) rfl ?_
  refine j_if_eq (pc := 9) (tgt := 30) dX12_dive_9 (by decide) (fun c4 => ?_) (fun c4 => ?_)
  · rw [if_pos c4] at H
    refine j_iconst (pc := 30) (v := -1) dX12_dive_30 (by decide) ?_
    exact j_ireturn (pc := 31) dX12_dive_31 rfl (ri_1 H) (ri_2 H)
  · rw [if_neg c4] at H
    refine j_iload_n (pc := 12) dX12_dive_12 rfl ?_
    obtain ⟨r6, h5, eh5, H⟩ := bd_x H
    refine j_callS (pc := 13) dX12_dive_13 mlX12_178 wyX12_isDepth (tX12_isDepth eh5) (by decide) rfl (by simp [Value.category]) rfl ?_
    refine j_if_eq (pc := 16) (tgt := 30) dX12_dive_16 (by decide) (fun c7 => ?_) (fun c7 => ?_)
    · rw [if_pos c7] at H
      refine j_iconst (pc := 30) (v := -1) dX12_dive_30 (by decide) ?_
      exact j_ireturn (pc := 31) dX12_dive_31 rfl (ri_1 H) (ri_2 H)
    · rw [if_neg c7] at H
      refine j_iload_n (pc := 19) dX12_dive_19 rfl ?_
      refine j_iconst (pc := 20) (v := 0) dX12_dive_20 (by decide) ?_
      refine j_sipush (pc := 21) (v := 600) dX12_dive_21 (by decide) ?_
      obtain ⟨r9, h8, eh8, H⟩ := bd_x H
      refine j_callS (pc := 24) dX12_dive_24 mlX12_142 wyX12_in (tX12_in eh8) (by decide) rfl (by simp [Value.category]) rfl ?_
      refine j_if_ne (pc := 27) (tgt := 32) dX12_dive_27 (by decide) (fun c10 => ?_) (fun c10 => ?_)
      · rw [if_neg c10] at H
        refine j_aload_n (pc := 32) dX12_dive_32 rfl ?_
        refine j_iload_n (pc := 33) dX12_dive_33 rfl ?_
        refine j_iload_n (pc := 34) dX12_dive_34 rfl ?_
        refine j_iload_n (pc := 35) dX12_dive_35 rfl ?_
        obtain ⟨r12, h11, eh11, H⟩ := bd_x H
        refine j_callV (pc := 36) dX12_dive_36 mlX12_341 wyX12_dives (tX12_dives eh11) (by decide) rfl rfl rfl rfl (by simp [Value.category]) rfl ?_
        refine j_istore (pc := 39) (L' := [some (.ref 0), some (.int p1), some (.int p2), some (.int p3), some (.int r12)]) dX12_dive_39 (by decide) rfl ?_
        refine j_aload_n (pc := 41) dX12_dive_41 rfl ?_
        refine j_iconst (pc := 42) (v := 0) dX12_dive_42 (by decide) ?_
        obtain ⟨h13, eh13, H⟩ := nm_x H
        refine j_putI (pc := 43) dX12_dive_43 fpX12_136 rfl h13 eh13 ?_
        refine j_aload_n (pc := 46) dX12_dive_46 rfl ?_
        refine j_aload_n (pc := 47) dX12_dive_47 rfl ?_
        refine j_getI (pc := 48) dX12_dive_48 flX12_332 rfl ?_
        obtain ⟨h14, eh14, H⟩ := bv_x H
        refine j_callV (pc := 51) dX12_dive_51 mlX12_210 wyX12_tell (tX12_tell eh14) (by decide) rfl rfl rfl rfl (by simp [Value.category]) rfl ?_
        refine j_aload_n (pc := 54) dX12_dive_54 rfl ?_
        refine j_iload (pc := 55) dX12_dive_55 rfl ?_
        obtain ⟨h15, eh15, H⟩ := bv_x H
        refine j_callV (pc := 57) dX12_dive_57 mlX12_210 wyX12_tell (tX12_tell eh15) (by decide) rfl rfl rfl rfl (by simp [Value.category]) rfl ?_
        refine j_aload_n (pc := 60) dX12_dive_60 rfl ?_
        refine j_getI (pc := 61) dX12_dive_61 flX12_335 rfl ?_
        exact j_ireturn (pc := 64) dX12_dive_64 rfl (ri_1 H) (ri_2 H)
      · rw [if_pos c10] at H
        refine j_iconst (pc := 30) (v := -1) dX12_dive_30 (by decide) ?_
        exact j_ireturn (pc := 31) dX12_dive_31 rfl (ri_1 H) (ri_2 H)

noncomputable def fX12_forward_76 : Nat → Int32 → Int32 → Int32 → Int32 → Int32 → Int32 → Int32 → HS → Option (Int32 × HS)
  | 0, _, _, _, _, _, _, _, _ => none
  | n + 1, v1, v2, v3, v4, v5, v6, v7, h => if v6 < v7 then (some ((-2 : Int32), h)) else (bv (fX12_push h) (fun h23 => ck (inb v1 15) (ck (inb v1 15) (nm (pI h23 5 v1.toNatClampNeg ((gI h23 5 v1.toNatClampNeg) - v7)) (fun h25 => ck (inb v2 15) (ck (inb v2 15) (nm (pI h25 5 v2.toNatClampNeg ((gI h25 5 v2.toNatClampNeg) + v7)) (fun h28 => bd (fX12_dives v3 v4 v5 h28) (fun r31 h30 => bv (fX12_pop h30) (fun h32 => if r31 = (-1 : Int32) then (nm (v7 + (1 : Int32)) (fun v7_36 => fX12_forward_76 n v1 v2 v3 v4 v5 v6 v7_36 h32)) else (nm (pI h32 0 21 (0 : Int32)) (fun h34 => bv (fX12_tell r31 h34) (fun h35 => some (v7, h35))))))))))))))
set_option maxRecDepth 100000 in
theorem jX12_forward_76 {r : Int32} {h0 : HS} : ∀ (n : Nat) (v1 : Int32) (v2 : Int32) (v3 : Int32) (v4 : Int32) (v5 : Int32) (v6 : Int32) (v7 : Int32) (h : HS), fX12_forward_76 n v1 v2 v3 v4 v5 v6 v7 h = some (r, h0) → Jx skM RX12 cX12_forward 9 (some .int) 5 (some (.int r)) h0 76 [some (.ref 0), some (.int v1), some (.int v2), some (.int v3), some (.int v4), some (.int v5), some (.int v6), some (.int v7), none] [] h := by
  intro n
  induction n with
  | zero => intro v1 v2 v3 v4 v5 v6 v7  h H; cases H
  | succ n ih =>
    intro v1 v2 v3 v4 v5 v6 v7  h H
    rw [fX12_forward_76] at H
    refine j_iload (pc := 76) dX12_forward_76 rfl ?_
    refine j_iload (pc := 78) dX12_forward_78 rfl ?_
    refine j_icmp_gt (pc := 80) (tgt := 153) dX12_forward_80 (by decide) (fun c22 => ?_) (fun c22 => ?_)
    · rw [if_pos c22] at H
      refine j_bipush (pc := 153) (v := -2) dX12_forward_153 (by decide) ?_
      exact j_ireturn (pc := 155) dX12_forward_155 rfl (ri_1 H) (ri_2 H)
    · rw [if_neg c22] at H
      refine j_aload_n (pc := 83) dX12_forward_83 rfl ?_
      obtain ⟨h23, eh23, H⟩ := bv_x H
      refine j_callV (pc := 84) dX12_forward_84 mlX12_292 wyX12_push (tX12_push eh23) (by decide) rfl rfl rfl rfl (by simp [Value.category]) rfl ?_
      refine j_aload_n (pc := 87) dX12_forward_87 rfl ?_
      refine j_getR (pc := 88) (b := 5) dX12_forward_88 flX12_22 rfl ?_
      refine j_iload_n (pc := 91) dX12_forward_91 rfl ?_
      refine j_dup2 (pc := 92) dX12_forward_92 rfl rfl ?_
      obtain ⟨b24, H⟩ := ck_x H
      refine j_iaload (pc := 93) dX12_forward_93 rfl b24 rfl ?_
      refine j_iload (pc := 94) dX12_forward_94 rfl ?_
      refine j_isub (pc := 96) dX12_forward_96 ?_
      obtain ⟨b26, H⟩ := ck_x H
      obtain ⟨h25, eh25, H⟩ := nm_x H
      refine j_iastore (pc := 97) dX12_forward_97 rfl b26 rfl h25 eh25 ?_
      refine j_aload_n (pc := 98) dX12_forward_98 rfl ?_
      refine j_getR (pc := 99) (b := 5) dX12_forward_99 flX12_22 rfl ?_
      refine j_iload_n (pc := 102) dX12_forward_102 rfl ?_
      refine j_dup2 (pc := 103) dX12_forward_103 rfl rfl ?_
      obtain ⟨b27, H⟩ := ck_x H
      refine j_iaload (pc := 104) dX12_forward_104 rfl b27 rfl ?_
      refine j_iload (pc := 105) dX12_forward_105 rfl ?_
      refine j_iadd (pc := 107) dX12_forward_107 ?_
      obtain ⟨b29, H⟩ := ck_x H
      obtain ⟨h28, eh28, H⟩ := nm_x H
      refine j_iastore (pc := 108) dX12_forward_108 rfl b29 rfl h28 eh28 ?_
      refine j_aload_n (pc := 109) dX12_forward_109 rfl ?_
      refine j_iload_n (pc := 110) dX12_forward_110 rfl ?_
      refine j_iload (pc := 111) dX12_forward_111 rfl ?_
      refine j_iload (pc := 113) dX12_forward_113 rfl ?_
      obtain ⟨r31, h30, eh30, H⟩ := bd_x H
      refine j_callV (pc := 115) dX12_forward_115 mlX12_341 wyX12_dives (tX12_dives eh30) (by decide) rfl rfl rfl rfl (by simp [Value.category]) rfl ?_
      refine j_istore (pc := 118) (L' := [some (.ref 0), some (.int v1), some (.int v2), some (.int v3), some (.int v4), some (.int v5), some (.int v6), some (.int v7), some (.int r31)]) dX12_forward_118 (by decide) rfl ?_
      refine j_aload_n (pc := 120) dX12_forward_120 rfl ?_
      obtain ⟨h32, eh32, H⟩ := bv_x H
      refine j_callV (pc := 121) dX12_forward_121 mlX12_298 wyX12_pop (tX12_pop eh32) (by decide) rfl rfl rfl rfl (by simp [Value.category]) rfl ?_
      refine j_iload (pc := 124) dX12_forward_124 rfl ?_
      refine j_iconst (pc := 126) (v := -1) dX12_forward_126 (by decide) ?_
      refine j_icmp_ne (pc := 127) (tgt := 133) dX12_forward_127 (by decide) (fun c33 => ?_) (fun c33 => ?_)
      · rw [if_neg c33] at H
        refine j_aload_n (pc := 133) dX12_forward_133 rfl ?_
        refine j_iconst (pc := 134) (v := 0) dX12_forward_134 (by decide) ?_
        obtain ⟨h34, eh34, H⟩ := nm_x H
        refine j_putI (pc := 135) dX12_forward_135 fpX12_136 rfl h34 eh34 ?_
        refine j_aload_n (pc := 138) dX12_forward_138 rfl ?_
        refine j_iload (pc := 139) dX12_forward_139 rfl ?_
        obtain ⟨h35, eh35, H⟩ := bv_x H
        refine j_callV (pc := 141) dX12_forward_141 mlX12_210 wyX12_tell (tX12_tell eh35) (by decide) rfl rfl rfl rfl (by simp [Value.category]) rfl ?_
        refine j_iload (pc := 144) dX12_forward_144 rfl ?_
        exact j_ireturn (pc := 146) dX12_forward_146 rfl (ri_1 H) (ri_2 H)
      · rw [if_pos c33] at H
        refine j_goto (pc := 130) (tgt := 147) dX12_forward_130 (by decide) ?_
        obtain ⟨v7_36, ev7_36, H⟩ := nm_x H
        refine j_iinc (pc := 147) (L' := [some (.ref 0), some (.int v1), some (.int v2), some (.int v3), some (.int v4), some (.int v5), some (.int v6), some (.int v7_36), some (.int r31)]) (w := 1) dX12_forward_147 rfl (by decide) (by decide) v7_36 ev7_36 rfl ?_
        refine j_goto (pc := 150) (tgt := 76) dX12_forward_150 (by decide) ?_
        refine Jx.sub (L' := [some (.ref 0), some (.int v1), some (.int v2), some (.int v3), some (.int v4), some (.int v5), some (.int v6), some (.int v7_36), none]) (⟨rfl, ⟨rfl, ⟨rfl, ⟨rfl, ⟨rfl, ⟨rfl, ⟨rfl, ⟨rfl, trivial⟩⟩⟩⟩⟩⟩⟩⟩) ?_
        exact ih v1 v2 v3 v4 v5 v6 v7_36 h32 H
noncomputable def fX12_forward (p1 : Int32) (p2 : Int32) (p3 : Int32) (p4 : Int32) (p5 : Int32) (h : HS) : Option (Int32 × HS) := nm (pI h 0 22 (0 : Int32)) (fun h1 => bd (fX12_isOf p1 (2 : Int32) h1) (fun r3 h2 => if r3 = 0 then (some ((-1 : Int32), h2)) else (bd (fX12_isOf p2 (2 : Int32) h2) (fun r6 h5 => if r6 = 0 then (some ((-1 : Int32), h5)) else (if p1 = p2 then (some ((-1 : Int32), h5)) else (bd (fX12_isDepth p3 h5) (fun r10 h9 => if r10 = 0 then (some ((-1 : Int32), h9)) else (bd (fX12_isDepth p4 h9) (fun r13 h12 => if r13 = 0 then (some ((-1 : Int32), h12)) else (bd (fX12_in p5 (0 : Int32) (600 : Int32) h12) (fun r16 h15 => if r16 = 0 then (some ((-1 : Int32), h15)) else (ck (inb p1 15) (bd (fX12_roomOf p2 h15) (fun r20 h19 => nm ((imin (gI h15 5 p1.toNatClampNeg) r20)) (fun v6_21 => fX12_forward_76 FU p1 p2 p3 p4 p5 v6_21 (0 : Int32) h19)))))))))))))))
set_option maxRecDepth 100000 in
theorem tX12_forward {p1 : Int32} {p2 : Int32} {p3 : Int32} {p4 : Int32} {p5 : Int32} {r : Int32} {h h0 : HS} (H : fX12_forward p1 p2 p3 p4 p5 h = some (r, h0)) : Cn skM yX12_forward cX12_forward 9 (some .int) 5 [.ref 0, .int p1, .int p2, .int p3, .int p4, .int p5] h (some (.int r)) h0 := by
  refine Cn_of (L := [some (.ref 0), some (.int p1), some (.int p2), some (.int p3), some (.int p4), some (.int p5), none, none, none]) (by decide +kernel) (by simp [lg_sl, Value.category]) (fun ad => by simp [lg_sl, tv, Value.category]) (⟨rfl, ⟨rfl, ⟨rfl, ⟨rfl, ⟨rfl, ⟨rfl, trivial⟩⟩⟩⟩⟩⟩) ?_
  unfold fX12_forward at H
  refine j_aload_n (pc := 0) dX12_forward_0 rfl ?_
  refine j_iconst (pc := 1) (v := 0) dX12_forward_1 (by decide) ?_
  obtain ⟨h1, eh1, H⟩ := nm_x H
  refine j_putI (pc := 2) dX12_forward_2 fpX12_133 rfl h1 eh1 ?_
  refine j_aload_n (pc := 5) dX12_forward_5 rfl ?_
  refine j_iload_n (pc := 6) dX12_forward_6 rfl ?_
  refine j_iconst (pc := 7) (v := 2) dX12_forward_7 (by decide) ?_
  obtain ⟨r3, h2, eh2, H⟩ := bd_x H
  refine j_callV (pc := 8) dX12_forward_8 mlX12_284 wyX12_isOf (tX12_isOf eh2) (by decide) rfl rfl rfl rfl (by simp [Value.category]) rfl ?_
  refine j_if_eq (pc := 11) (tgt := 55) dX12_forward_11 (by decide) (fun c4 => ?_) (fun c4 => ?_)
  · rw [if_pos c4] at H
    refine j_iconst (pc := 55) (v := -1) dX12_forward_55 (by decide) ?_
    exact j_ireturn (pc := 56) dX12_forward_56 rfl (ri_1 H) (ri_2 H)
  · rw [if_neg c4] at H
    refine j_aload_n (pc := 14) dX12_forward_14 rfl ?_
    refine j_iload_n (pc := 15) dX12_forward_15 rfl ?_
    refine j_iconst (pc := 16) (v := 2) dX12_forward_16 (by decide) ?_
    obtain ⟨r6, h5, eh5, H⟩ := bd_x H
    refine j_callV (pc := 17) dX12_forward_17 mlX12_284 wyX12_isOf (tX12_isOf eh5) (by decide) rfl rfl rfl rfl (by simp [Value.category]) rfl ?_
    refine j_if_eq (pc := 20) (tgt := 55) dX12_forward_20 (by decide) (fun c7 => ?_) (fun c7 => ?_)
    · rw [if_pos c7] at H
      refine j_iconst (pc := 55) (v := -1) dX12_forward_55 (by decide) ?_
      exact j_ireturn (pc := 56) dX12_forward_56 rfl (ri_1 H) (ri_2 H)
    · rw [if_neg c7] at H
      refine j_iload_n (pc := 23) dX12_forward_23 rfl ?_
      refine j_iload_n (pc := 24) dX12_forward_24 rfl ?_
      refine j_icmp_eq (pc := 25) (tgt := 55) dX12_forward_25 (by decide) (fun c8 => ?_) (fun c8 => ?_)
      · rw [if_pos c8] at H
        refine j_iconst (pc := 55) (v := -1) dX12_forward_55 (by decide) ?_
        exact j_ireturn (pc := 56) dX12_forward_56 rfl (ri_1 H) (ri_2 H)
      · rw [if_neg c8] at H
        refine j_iload_n (pc := 28) dX12_forward_28 rfl ?_
        obtain ⟨r10, h9, eh9, H⟩ := bd_x H
        refine j_callS (pc := 29) dX12_forward_29 mlX12_178 wyX12_isDepth (tX12_isDepth eh9) (by decide) rfl (by simp [Value.category]) rfl ?_
        refine j_if_eq (pc := 32) (tgt := 55) dX12_forward_32 (by decide) (fun c11 => ?_) (fun c11 => ?_)
        · rw [if_pos c11] at H
          refine j_iconst (pc := 55) (v := -1) dX12_forward_55 (by decide) ?_
          exact j_ireturn (pc := 56) dX12_forward_56 rfl (ri_1 H) (ri_2 H)
        · rw [if_neg c11] at H
          refine j_iload (pc := 35) dX12_forward_35 rfl ?_
          obtain ⟨r13, h12, eh12, H⟩ := bd_x H
          refine j_callS (pc := 37) dX12_forward_37 mlX12_178 wyX12_isDepth (tX12_isDepth eh12) (by decide) rfl (by simp [Value.category]) rfl ?_
          refine j_if_eq (pc := 40) (tgt := 55) dX12_forward_40 (by decide) (fun c14 => ?_) (fun c14 => ?_)
          · rw [if_pos c14] at H
            refine j_iconst (pc := 55) (v := -1) dX12_forward_55 (by decide) ?_
            exact j_ireturn (pc := 56) dX12_forward_56 rfl (ri_1 H) (ri_2 H)
          · rw [if_neg c14] at H
            refine j_iload (pc := 43) dX12_forward_43 rfl ?_
            refine j_iconst (pc := 45) (v := 0) dX12_forward_45 (by decide) ?_
            refine j_sipush (pc := 46) (v := 600) dX12_forward_46 (by decide) ?_
            obtain ⟨r16, h15, eh15, H⟩ := bd_x H
            refine j_callS (pc := 49) dX12_forward_49 mlX12_142 wyX12_in (tX12_in eh15) (by decide) rfl (by simp [Value.category]) rfl ?_
            refine j_if_ne (pc := 52) (tgt := 57) dX12_forward_52 (by decide) (fun c17 => ?_) (fun c17 => ?_)
            · rw [if_neg c17] at H
              refine j_aload_n (pc := 57) dX12_forward_57 rfl ?_
              refine j_getR (pc := 58) (b := 5) dX12_forward_58 flX12_22 rfl ?_
              refine j_iload_n (pc := 61) dX12_forward_61 rfl ?_
              obtain ⟨b18, H⟩ := ck_x H
              refine j_iaload (pc := 62) dX12_forward_62 rfl b18 rfl ?_
              refine j_aload_n (pc := 63) dX12_forward_63 rfl ?_
              refine j_iload_n (pc := 64) dX12_forward_64 rfl ?_
              obtain ⟨r20, h19, eh19, H⟩ := bd_x H
              refine j_callV (pc := 65) dX12_forward_65 mlX12_307 wyX12_roomOf (tX12_roomOf eh19) (by decide) rfl rfl rfl rfl (by simp [Value.category]) rfl ?_
              refine j_mmin (pc := 68) dX12_forward_68 wmX12_153 (by simp [Value.category]) ?_
              obtain ⟨v6_21, ev6_21, H⟩ := nm_x H
              refine j_topi ev6_21 ?_
              refine j_istore (pc := 71) (L' := [some (.ref 0), some (.int p1), some (.int p2), some (.int p3), some (.int p4), some (.int p5), some (.int v6_21), none, none]) dX12_forward_71 (by decide) rfl ?_
              refine j_iconst (pc := 73) (v := 0) dX12_forward_73 (by decide) ?_
              refine j_istore (pc := 74) (L' := [some (.ref 0), some (.int p1), some (.int p2), some (.int p3), some (.int p4), some (.int p5), some (.int v6_21), some (.int (0 : Int32)), none]) dX12_forward_74 (by decide) rfl ?_
              refine Jx.sub (L' := [some (.ref 0), some (.int p1), some (.int p2), some (.int p3), some (.int p4), some (.int p5), some (.int v6_21), some (.int (0 : Int32)), none]) (⟨rfl, ⟨rfl, ⟨rfl, ⟨rfl, ⟨rfl, ⟨rfl, ⟨rfl, ⟨rfl, trivial⟩⟩⟩⟩⟩⟩⟩⟩) ?_
              exact jX12_forward_76 FU p1 p2 p3 p4 p5 v6_21 (0 : Int32) h19 H
            · rw [if_pos c17] at H
              refine j_iconst (pc := 55) (v := -1) dX12_forward_55 (by decide) ?_
              exact j_ireturn (pc := 56) dX12_forward_56 rfl (ri_1 H) (ri_2 H)

noncomputable def fX12_carry (p1 : Int32) (p2 : Int32) (p3 : Int32) (h : HS) : Option (Int32 × HS) := nm (pI h 0 22 (0 : Int32)) (fun h1 => bd (fX12_isLoad p1 h1) (fun r3 h2 => if r3 = 0 then (some ((0 : Int32), h2)) else (bd (fX12_isLoad p2 h2) (fun r6 h5 => if r6 = 0 then (some ((0 : Int32), h5)) else (if p1 = p2 then (some ((0 : Int32), h5)) else (ck (inb p1 15) (ck (inb p2 15) (if (gI h5 1 p1.toNatClampNeg) = (gI h5 1 p2.toNatClampNeg) then (ck (inb p1 15) (bd (fX12_in ((gI h5 1 p1.toNatClampNeg)) (1 : Int32) (2 : Int32) h5) (fun r14 h13 => if r14 = 0 then (some ((0 : Int32), h13)) else (ck (inb p1 15) (bd (fX12_in p3 (1 : Int32) ((gI h13 5 p1.toNatClampNeg)) h13) (fun r18 h17 => if r18 = 0 then (some ((0 : Int32), h17)) else (bd (fX12_roomOf p2 h17) (fun r21 h20 => if p3 ≤ r21 then (ck (inb p1 15) (ck (inb p1 15) (nm (pI h20 5 p1.toNatClampNeg ((gI h20 5 p1.toNatClampNeg) - p3)) (fun h24 => ck (inb p2 15) (ck (inb p2 15) (nm (pI h24 5 p2.toNatClampNeg ((gI h24 5 p2.toNatClampNeg) + p3)) (fun h27 => some ((1 : Int32), h27)))))))) else (some ((0 : Int32), h20)))))))))) else (some ((0 : Int32), h5))))))))))
set_option maxRecDepth 100000 in
theorem tX12_carry {p1 : Int32} {p2 : Int32} {p3 : Int32} {r : Int32} {h h0 : HS} (H : fX12_carry p1 p2 p3 h = some (r, h0)) : Cn skM yX12_carry cX12_carry 4 (some .boolean) 2 [.ref 0, .int p1, .int p2, .int p3] h (some (.int r)) h0 := by
  refine Cn_of (L := [some (.ref 0), some (.int p1), some (.int p2), some (.int p3)]) (by decide +kernel) (by simp [lg_sl, Value.category]) (fun ad => by simp [lg_sl, tv, Value.category]) (⟨rfl, ⟨rfl, ⟨rfl, ⟨rfl, trivial⟩⟩⟩⟩) ?_
  unfold fX12_carry at H
  refine j_aload_n (pc := 0) dX12_carry_0 rfl ?_
  refine j_iconst (pc := 1) (v := 0) dX12_carry_1 (by decide) ?_
  obtain ⟨h1, eh1, H⟩ := nm_x H
  refine j_putI (pc := 2) dX12_carry_2 fpX12_133 rfl h1 eh1 ?_
  refine j_aload_n (pc := 5) dX12_carry_5 rfl ?_
  refine j_iload_n (pc := 6) dX12_carry_6 rfl ?_
  obtain ⟨r3, h2, eh2, H⟩ := bd_x H
  refine j_callV (pc := 7) dX12_carry_7 mlX12_146 wyX12_isLoad (tX12_isLoad eh2) (by decide) rfl rfl rfl rfl (by simp [Value.category]) rfl ?_
  refine j_if_eq (pc := 10) (tgt := 78) dX12_carry_10 (by decide) (fun c4 => ?_) (fun c4 => ?_)
  · rw [if_pos c4] at H
    refine j_iconst (pc := 78) (v := 0) dX12_carry_78 (by decide) ?_
    exact j_zreturn (pc := 79) dX12_carry_79 rfl (rz0 H) (ri_2 H)
  · rw [if_neg c4] at H
    refine j_aload_n (pc := 13) dX12_carry_13 rfl ?_
    refine j_iload_n (pc := 14) dX12_carry_14 rfl ?_
    obtain ⟨r6, h5, eh5, H⟩ := bd_x H
    refine j_callV (pc := 15) dX12_carry_15 mlX12_146 wyX12_isLoad (tX12_isLoad eh5) (by decide) rfl rfl rfl rfl (by simp [Value.category]) rfl ?_
    refine j_if_eq (pc := 18) (tgt := 78) dX12_carry_18 (by decide) (fun c7 => ?_) (fun c7 => ?_)
    · rw [if_pos c7] at H
      refine j_iconst (pc := 78) (v := 0) dX12_carry_78 (by decide) ?_
      exact j_zreturn (pc := 79) dX12_carry_79 rfl (rz0 H) (ri_2 H)
    · rw [if_neg c7] at H
      refine j_iload_n (pc := 21) dX12_carry_21 rfl ?_
      refine j_iload_n (pc := 22) dX12_carry_22 rfl ?_
      refine j_icmp_eq (pc := 23) (tgt := 78) dX12_carry_23 (by decide) (fun c8 => ?_) (fun c8 => ?_)
      · rw [if_pos c8] at H
        refine j_iconst (pc := 78) (v := 0) dX12_carry_78 (by decide) ?_
        exact j_zreturn (pc := 79) dX12_carry_79 rfl (rz0 H) (ri_2 H)
      · rw [if_neg c8] at H
        refine j_aload_n (pc := 26) dX12_carry_26 rfl ?_
        refine j_getR (pc := 27) (b := 1) dX12_carry_27 flX12_9 rfl ?_
        refine j_iload_n (pc := 30) dX12_carry_30 rfl ?_
        obtain ⟨b9, H⟩ := ck_x H
        refine j_iaload (pc := 31) dX12_carry_31 rfl b9 rfl ?_
        refine j_aload_n (pc := 32) dX12_carry_32 rfl ?_
        refine j_getR (pc := 33) (b := 1) dX12_carry_33 flX12_9 rfl ?_
        refine j_iload_n (pc := 36) dX12_carry_36 rfl ?_
        obtain ⟨b10, H⟩ := ck_x H
        refine j_iaload (pc := 37) dX12_carry_37 rfl b10 rfl ?_
        refine j_icmp_ne (pc := 38) (tgt := 78) dX12_carry_38 (by decide) (fun c11 => ?_) (fun c11 => ?_)
        · rw [if_neg c11] at H
          refine j_iconst (pc := 78) (v := 0) dX12_carry_78 (by decide) ?_
          exact j_zreturn (pc := 79) dX12_carry_79 rfl (rz0 H) (ri_2 H)
        · rw [if_pos c11] at H
          refine j_aload_n (pc := 41) dX12_carry_41 rfl ?_
          refine j_getR (pc := 42) (b := 1) dX12_carry_42 flX12_9 rfl ?_
          refine j_iload_n (pc := 45) dX12_carry_45 rfl ?_
          obtain ⟨b12, H⟩ := ck_x H
          refine j_iaload (pc := 46) dX12_carry_46 rfl b12 rfl ?_
          refine j_iconst (pc := 47) (v := 1) dX12_carry_47 (by decide) ?_
          refine j_iconst (pc := 48) (v := 2) dX12_carry_48 (by decide) ?_
          obtain ⟨r14, h13, eh13, H⟩ := bd_x H
          refine j_callS (pc := 49) dX12_carry_49 mlX12_142 wyX12_in (tX12_in eh13) (by decide) rfl (by simp [Value.category]) rfl ?_
          refine j_if_eq (pc := 52) (tgt := 78) dX12_carry_52 (by decide) (fun c15 => ?_) (fun c15 => ?_)
          · rw [if_pos c15] at H
            refine j_iconst (pc := 78) (v := 0) dX12_carry_78 (by decide) ?_
            exact j_zreturn (pc := 79) dX12_carry_79 rfl (rz0 H) (ri_2 H)
          · rw [if_neg c15] at H
            refine j_iload_n (pc := 55) dX12_carry_55 rfl ?_
            refine j_iconst (pc := 56) (v := 1) dX12_carry_56 (by decide) ?_
            refine j_aload_n (pc := 57) dX12_carry_57 rfl ?_
            refine j_getR (pc := 58) (b := 5) dX12_carry_58 flX12_22 rfl ?_
            refine j_iload_n (pc := 61) dX12_carry_61 rfl ?_
            obtain ⟨b16, H⟩ := ck_x H
            refine j_iaload (pc := 62) dX12_carry_62 rfl b16 rfl ?_
            obtain ⟨r18, h17, eh17, H⟩ := bd_x H
            refine j_callS (pc := 63) dX12_carry_63 mlX12_142 wyX12_in (tX12_in eh17) (by decide) rfl (by simp [Value.category]) rfl ?_
            refine j_if_eq (pc := 66) (tgt := 78) dX12_carry_66 (by decide) (fun c19 => ?_) (fun c19 => ?_)
            · rw [if_pos c19] at H
              refine j_iconst (pc := 78) (v := 0) dX12_carry_78 (by decide) ?_
              exact j_zreturn (pc := 79) dX12_carry_79 rfl (rz0 H) (ri_2 H)
            · rw [if_neg c19] at H
              refine j_iload_n (pc := 69) dX12_carry_69 rfl ?_
              refine j_aload_n (pc := 70) dX12_carry_70 rfl ?_
              refine j_iload_n (pc := 71) dX12_carry_71 rfl ?_
              obtain ⟨r21, h20, eh20, H⟩ := bd_x H
              refine j_callV (pc := 72) dX12_carry_72 mlX12_307 wyX12_roomOf (tX12_roomOf eh20) (by decide) rfl rfl rfl rfl (by simp [Value.category]) rfl ?_
              refine j_icmp_le (pc := 75) (tgt := 80) dX12_carry_75 (by decide) (fun c22 => ?_) (fun c22 => ?_)
              · rw [if_pos c22] at H
                refine j_aload_n (pc := 80) dX12_carry_80 rfl ?_
                refine j_getR (pc := 81) (b := 5) dX12_carry_81 flX12_22 rfl ?_
                refine j_iload_n (pc := 84) dX12_carry_84 rfl ?_
                refine j_dup2 (pc := 85) dX12_carry_85 rfl rfl ?_
                obtain ⟨b23, H⟩ := ck_x H
                refine j_iaload (pc := 86) dX12_carry_86 rfl b23 rfl ?_
                refine j_iload_n (pc := 87) dX12_carry_87 rfl ?_
                refine j_isub (pc := 88) dX12_carry_88 ?_
                obtain ⟨b25, H⟩ := ck_x H
                obtain ⟨h24, eh24, H⟩ := nm_x H
                refine j_iastore (pc := 89) dX12_carry_89 rfl b25 rfl h24 eh24 ?_
                refine j_aload_n (pc := 90) dX12_carry_90 rfl ?_
                refine j_getR (pc := 91) (b := 5) dX12_carry_91 flX12_22 rfl ?_
                refine j_iload_n (pc := 94) dX12_carry_94 rfl ?_
                refine j_dup2 (pc := 95) dX12_carry_95 rfl rfl ?_
                obtain ⟨b26, H⟩ := ck_x H
                refine j_iaload (pc := 96) dX12_carry_96 rfl b26 rfl ?_
                refine j_iload_n (pc := 97) dX12_carry_97 rfl ?_
                refine j_iadd (pc := 98) dX12_carry_98 ?_
                obtain ⟨b28, H⟩ := ck_x H
                obtain ⟨h27, eh27, H⟩ := nm_x H
                refine j_iastore (pc := 99) dX12_carry_99 rfl b28 rfl h27 eh27 ?_
                refine j_iconst (pc := 100) (v := 1) dX12_carry_100 (by decide) ?_
                exact j_zreturn (pc := 101) dX12_carry_101 rfl (rz1 H) (ri_2 H)
              · rw [if_neg c22] at H
                refine j_iconst (pc := 78) (v := 0) dX12_carry_78 (by decide) ?_
                exact j_zreturn (pc := 79) dX12_carry_79 rfl (rz0 H) (ri_2 H)

noncomputable def fX12_loadHere (h : HS) : Option (Int32 × HS) := bd (fX12_number (2 : Int32) (((gI h 0 0) - (1 : Int32))) h) (fun r2 h1 => some (r2, h1))
set_option maxRecDepth 100000 in
theorem tX12_loadHere {r : Int32} {h h0 : HS} (H : fX12_loadHere h = some (r, h0)) : Cn skM yX12_loadHere cX12_loadHere 1 (some .int) 3 [.ref 0] h (some (.int r)) h0 := by
  refine Cn_of (L := [some (.ref 0)]) (by decide +kernel) (by simp [lg_sl, Value.category]) (fun ad => by simp [lg_sl, tv, Value.category]) (⟨rfl, trivial⟩) ?_
  unfold fX12_loadHere at H
  refine j_aload_n (pc := 0) dX12_loadHere_0 rfl ?_
  refine j_iconst (pc := 1) (v := 2) dX12_loadHere_1 (by decide) ?_
  refine j_aload_n (pc := 2) dX12_loadHere_2 rfl ?_
  refine j_getI (pc := 3) dX12_loadHere_3 flX12_139 rfl ?_
  refine j_iconst (pc := 6) (v := 1) dX12_loadHere_6 (by decide) ?_
  refine j_isub (pc := 7) dX12_loadHere_7 ?_
  obtain ⟨r2, h1, eh1, H⟩ := bd_x H
  refine j_callV (pc := 8) dX12_loadHere_8 mlX12_259 wyX12_number (tX12_number eh1) (by decide) rfl rfl rfl rfl (by simp [Value.category]) rfl ?_
  exact j_ireturn (pc := 11) dX12_loadHere_11 rfl (ri_1 H) (ri_2 H)

noncomputable def fX12_telling_273 (k61 : Int32 → Int32 → HS → Option (Int32 × HS)) (v2 : Int32) (s2 : Int32) (s1 : Int32) (h : HS) : Option (Int32 × HS) := ck (inb s1 384) (nm (pI h 23 s1.toNatClampNeg s2) (fun h45 => nm (v2 + (1 : Int32)) (fun v2_47 => bd (fX12_passes (59 : Int32) h45) (fun r49 h48 => k61 v2_47 r49 h48))))
set_option maxRecDepth 100000 in
theorem jX12_telling_273 {r : Int32} {h0 : HS} (k61 : Int32 → Int32 → HS → Option (Int32 × HS)) (hk61 : ∀ (v2 : Int32) (v3 : Int32) (h : HS), k61 v2 v3 h = some (r, h0) → Jx skM RX12 cX12_telling 10 (some .int) 4 (some (.int r)) h0 61 [some (.ref 0), none, some (.int v2), some (.int v3), none, none, none, none, none, none] [] h) (v2 : Int32) (s2 : Int32) (s1 : Int32) (h : HS) (H : fX12_telling_273 k61 v2 s2 s1 h = some (r, h0)) : Jx skM RX12 cX12_telling 10 (some .int) 4 (some (.int r)) h0 273 [some (.ref 0), none, some (.int v2), none, none, none, none, none, none, none] [.int s2, .int s1, .ref 23] h := by
  unfold fX12_telling_273 at H
  obtain ⟨b46, H⟩ := ck_x H
  obtain ⟨h45, eh45, H⟩ := nm_x H
  refine j_iastore (pc := 273) dX12_telling_273 rfl b46 rfl h45 eh45 ?_
  obtain ⟨v2_47, ev2_47, H⟩ := nm_x H
  refine j_iinc (pc := 274) (L' := [some (.ref 0), none, some (.int v2_47), none, none, none, none, none, none, none]) (w := 1) dX12_telling_274 rfl (by decide) (by decide) v2_47 ev2_47 rfl ?_
  refine j_aload_n (pc := 277) dX12_telling_277 rfl ?_
  refine j_bipush (pc := 278) (v := 59) dX12_telling_278 (by decide) ?_
  obtain ⟨r49, h48, eh48, H⟩ := bd_x H
  refine j_callV (pc := 280) dX12_telling_280 mlX12_239 wyX12_passes (tX12_passes eh48) (by decide) rfl rfl rfl rfl (by simp [Value.category]) rfl ?_
  refine j_istore_n (pc := 283) (L' := [some (.ref 0), none, some (.int v2_47), some (.int r49), none, none, none, none, none, none]) dX12_telling_283 (by decide) rfl ?_
  refine j_goto (pc := 284) (tgt := 61) dX12_telling_284 (by decide) ?_
  refine Jx.sub (L' := [some (.ref 0), none, some (.int v2_47), some (.int r49), none, none, none, none, none, none]) (⟨rfl, ⟨rfl, ⟨rfl, trivial⟩⟩⟩) ?_
  exact hk61 v2_47 r49 h48 H
noncomputable def fX12_telling_182 (k61 : Int32 → Int32 → HS → Option (Int32 × HS)) (v2 : Int32) (v4 : Int32) (v5 : Int32) (v6 : Int32) (s0 : Int32) (h : HS) : Option (Int32 × HS) := bd (fX12_number (3 : Int32) (999 : Int32) h) (fun r33 h32 => bd (fX12_fine h32) (fun r35 h34 => if r35 = 0 then (some (((-1 : Int32) - (gI h34 0 30)), h34)) else (nm (((4 : Int32) * (((16 : Int32) * (gI h34 0 50)) + v2))) (fun v9_37 => ck (inb v9_37 384) (nm (pI h34 23 v9_37.toNatClampNeg v4) (fun h38 => ck (inb (v9_37 + (1 : Int32)) 384) (nm (pI h38 23 (v9_37 + (1 : Int32)).toNatClampNeg v5) (fun h40 => ck (inb (v9_37 + (2 : Int32)) 384) (nm (pI h40 23 (v9_37 + (2 : Int32)).toNatClampNeg v6) (fun h42 => if s0 = 0 then (fX12_telling_273 k61 v2 r33 ((v9_37 + (3 : Int32))) h42) else (fX12_telling_273 k61 v2 ((-r33)) ((v9_37 + (3 : Int32))) h42)))))))))))
set_option maxRecDepth 100000 in
theorem jX12_telling_182 {r : Int32} {h0 : HS} (k61 : Int32 → Int32 → HS → Option (Int32 × HS)) (hk61 : ∀ (v2 : Int32) (v3 : Int32) (h : HS), k61 v2 v3 h = some (r, h0) → Jx skM RX12 cX12_telling 10 (some .int) 4 (some (.int r)) h0 61 [some (.ref 0), none, some (.int v2), some (.int v3), none, none, none, none, none, none] [] h) (v2 : Int32) (v4 : Int32) (v5 : Int32) (v6 : Int32) (s0 : Int32) (h : HS) (H : fX12_telling_182 k61 v2 v4 v5 v6 s0 h = some (r, h0)) : Jx skM RX12 cX12_telling 10 (some .int) 4 (some (.int r)) h0 182 [some (.ref 0), none, some (.int v2), none, some (.int v4), some (.int v5), some (.int v6), none, none, none] [.int s0] h := by
  unfold fX12_telling_182 at H
  refine j_istore (pc := 182) (L' := [some (.ref 0), none, some (.int v2), none, some (.int v4), some (.int v5), some (.int v6), some (.int s0), none, none]) dX12_telling_182 (by decide) rfl ?_
  refine j_aload_n (pc := 184) dX12_telling_184 rfl ?_
  refine j_iconst (pc := 185) (v := 3) dX12_telling_185 (by decide) ?_
  refine j_sipush (pc := 186) (v := 999) dX12_telling_186 (by decide) ?_
  obtain ⟨r33, h32, eh32, H⟩ := bd_x H
  refine j_callV (pc := 189) dX12_telling_189 mlX12_259 wyX12_number (tX12_number eh32) (by decide) rfl rfl rfl rfl (by simp [Value.category]) rfl ?_
  refine j_istore (pc := 192) (L' := [some (.ref 0), none, some (.int v2), none, some (.int v4), some (.int v5), some (.int v6), some (.int s0), some (.int r33), none]) dX12_telling_192 (by decide) rfl ?_
  refine j_aload_n (pc := 194) dX12_telling_194 rfl ?_
  obtain ⟨r35, h34, eh34, H⟩ := bd_x H
  refine j_callV (pc := 195) dX12_telling_195 mlX12_232 wyX12_fine (tX12_fine eh34) (by decide) rfl rfl rfl rfl (by simp [Value.category]) rfl ?_
  refine j_if_ne (pc := 198) (tgt := 208) dX12_telling_198 (by decide) (fun c36 => ?_) (fun c36 => ?_)
  · rw [if_neg c36] at H
    refine j_iconst (pc := 208) (v := 4) dX12_telling_208 (by decide) ?_
    refine j_bipush (pc := 209) (v := 16) dX12_telling_209 (by decide) ?_
    refine j_aload_n (pc := 211) dX12_telling_211 rfl ?_
    refine j_getI (pc := 212) dX12_telling_212 flX12_345 rfl ?_
    refine j_imul (pc := 215) dX12_telling_215 ?_
    refine j_iload_n (pc := 216) dX12_telling_216 rfl ?_
    refine j_iadd (pc := 217) dX12_telling_217 ?_
    refine j_imul (pc := 218) dX12_telling_218 ?_
    obtain ⟨v9_37, ev9_37, H⟩ := nm_x H
    refine j_topi ev9_37 ?_
    refine j_istore (pc := 219) (L' := [some (.ref 0), none, some (.int v2), none, some (.int v4), some (.int v5), some (.int v6), some (.int s0), some (.int r33), some (.int v9_37)]) dX12_telling_219 (by decide) rfl ?_
    refine j_aload_n (pc := 221) dX12_telling_221 rfl ?_
    refine j_getR (pc := 222) (b := 23) dX12_telling_222 flX12_85 rfl ?_
    refine j_iload (pc := 225) dX12_telling_225 rfl ?_
    refine j_iload (pc := 227) dX12_telling_227 rfl ?_
    obtain ⟨b39, H⟩ := ck_x H
    obtain ⟨h38, eh38, H⟩ := nm_x H
    refine j_iastore (pc := 229) dX12_telling_229 rfl b39 rfl h38 eh38 ?_
    refine j_aload_n (pc := 230) dX12_telling_230 rfl ?_
    refine j_getR (pc := 231) (b := 23) dX12_telling_231 flX12_85 rfl ?_
    refine j_iload (pc := 234) dX12_telling_234 rfl ?_
    refine j_iconst (pc := 236) (v := 1) dX12_telling_236 (by decide) ?_
    refine j_iadd (pc := 237) dX12_telling_237 ?_
    refine j_iload (pc := 238) dX12_telling_238 rfl ?_
    obtain ⟨b41, H⟩ := ck_x H
    obtain ⟨h40, eh40, H⟩ := nm_x H
    refine j_iastore (pc := 240) dX12_telling_240 rfl b41 rfl h40 eh40 ?_
    refine j_aload_n (pc := 241) dX12_telling_241 rfl ?_
    refine j_getR (pc := 242) (b := 23) dX12_telling_242 flX12_85 rfl ?_
    refine j_iload (pc := 245) dX12_telling_245 rfl ?_
    refine j_iconst (pc := 247) (v := 2) dX12_telling_247 (by decide) ?_
    refine j_iadd (pc := 248) dX12_telling_248 ?_
    refine j_iload (pc := 249) dX12_telling_249 rfl ?_
    obtain ⟨b43, H⟩ := ck_x H
    obtain ⟨h42, eh42, H⟩ := nm_x H
    refine j_iastore (pc := 251) dX12_telling_251 rfl b43 rfl h42 eh42 ?_
    refine j_aload_n (pc := 252) dX12_telling_252 rfl ?_
    refine j_getR (pc := 253) (b := 23) dX12_telling_253 flX12_85 rfl ?_
    refine j_iload (pc := 256) dX12_telling_256 rfl ?_
    refine j_iconst (pc := 258) (v := 3) dX12_telling_258 (by decide) ?_
    refine j_iadd (pc := 259) dX12_telling_259 ?_
    refine j_iload (pc := 260) dX12_telling_260 rfl ?_
    refine j_if_eq (pc := 262) (tgt := 271) dX12_telling_262 (by decide) (fun c44 => ?_) (fun c44 => ?_)
    · rw [if_pos c44] at H
      refine j_iload (pc := 271) dX12_telling_271 rfl ?_
      refine Jx.sub (L' := [some (.ref 0), none, some (.int v2), none, none, none, none, none, none, none]) (⟨rfl, ⟨rfl, trivial⟩⟩) ?_
      exact jX12_telling_273 _ hk61 v2 r33 ((v9_37 + (3 : Int32))) h42 H
    · rw [if_neg c44] at H
      refine j_iload (pc := 265) dX12_telling_265 rfl ?_
      refine j_ineg (pc := 267) dX12_telling_267 ?_
      refine j_goto (pc := 268) (tgt := 273) dX12_telling_268 (by decide) ?_
      refine Jx.sub (L' := [some (.ref 0), none, some (.int v2), none, none, none, none, none, none, none]) (⟨rfl, ⟨rfl, trivial⟩⟩) ?_
      exact jX12_telling_273 _ hk61 v2 ((-r33)) ((v9_37 + (3 : Int32))) h42 H
  · rw [if_pos c36] at H
    refine j_iconst (pc := 201) (v := -1) dX12_telling_201 (by decide) ?_
    refine j_aload_n (pc := 202) dX12_telling_202 rfl ?_
    refine j_getI (pc := 203) dX12_telling_203 flX12_229 rfl ?_
    refine j_isub (pc := 206) dX12_telling_206 ?_
    exact j_ireturn (pc := 207) dX12_telling_207 rfl (ri_1 H) (ri_2 H)
noncomputable def fX12_telling_181 (k61 : Int32 → Int32 → HS → Option (Int32 × HS)) (v2 : Int32) (v4 : Int32) (v5 : Int32) (v6 : Int32) (h : HS) : Option (Int32 × HS) := fX12_telling_182 k61 v2 v4 v5 v6 (0 : Int32) h
set_option maxRecDepth 100000 in
theorem jX12_telling_181 {r : Int32} {h0 : HS} (k61 : Int32 → Int32 → HS → Option (Int32 × HS)) (hk61 : ∀ (v2 : Int32) (v3 : Int32) (h : HS), k61 v2 v3 h = some (r, h0) → Jx skM RX12 cX12_telling 10 (some .int) 4 (some (.int r)) h0 61 [some (.ref 0), none, some (.int v2), some (.int v3), none, none, none, none, none, none] [] h) (v2 : Int32) (v4 : Int32) (v5 : Int32) (v6 : Int32) (h : HS) (H : fX12_telling_181 k61 v2 v4 v5 v6 h = some (r, h0)) : Jx skM RX12 cX12_telling 10 (some .int) 4 (some (.int r)) h0 181 [some (.ref 0), none, some (.int v2), none, some (.int v4), some (.int v5), some (.int v6), none, none, none] [] h := by
  unfold fX12_telling_181 at H
  refine j_iconst (pc := 181) (v := 0) dX12_telling_181 (by decide) ?_
  refine Jx.sub (L' := [some (.ref 0), none, some (.int v2), none, some (.int v4), some (.int v5), some (.int v6), none, none, none]) (⟨rfl, ⟨rfl, ⟨rfl, ⟨rfl, ⟨rfl, trivial⟩⟩⟩⟩⟩) ?_
  exact jX12_telling_182 _ hk61 v2 v4 v5 v6 (0 : Int32) h H
noncomputable def fX12_telling_155 (k61 : Int32 → Int32 → HS → Option (Int32 × HS)) (v2 : Int32) (v4 : Int32) (v5 : Int32) (v6 : Int32) (h : HS) : Option (Int32 × HS) := bv (fX12_need (44 : Int32) h) (fun h27 => if v4 = (98 : Int32) then (bd (fX12_passes (45 : Int32) h27) (fun r30 h29 => if r30 = 0 then (fX12_telling_181 k61 v2 v4 v5 v6 h29) else (fX12_telling_182 k61 v2 v4 v5 v6 (1 : Int32) h29))) else (fX12_telling_181 k61 v2 v4 v5 v6 h27))
set_option maxRecDepth 100000 in
theorem jX12_telling_155 {r : Int32} {h0 : HS} (k61 : Int32 → Int32 → HS → Option (Int32 × HS)) (hk61 : ∀ (v2 : Int32) (v3 : Int32) (h : HS), k61 v2 v3 h = some (r, h0) → Jx skM RX12 cX12_telling 10 (some .int) 4 (some (.int r)) h0 61 [some (.ref 0), none, some (.int v2), some (.int v3), none, none, none, none, none, none] [] h) (v2 : Int32) (v4 : Int32) (v5 : Int32) (v6 : Int32) (h : HS) (H : fX12_telling_155 k61 v2 v4 v5 v6 h = some (r, h0)) : Jx skM RX12 cX12_telling 10 (some .int) 4 (some (.int r)) h0 155 [some (.ref 0), none, some (.int v2), none, some (.int v4), some (.int v5), some (.int v6), none, none, none] [] h := by
  unfold fX12_telling_155 at H
  refine j_aload_n (pc := 155) dX12_telling_155 rfl ?_
  refine j_bipush (pc := 156) (v := 44) dX12_telling_156 (by decide) ?_
  obtain ⟨h27, eh27, H⟩ := bv_x H
  refine j_callV (pc := 158) dX12_telling_158 mlX12_255 wyX12_need (tX12_need eh27) (by decide) rfl rfl rfl rfl (by simp [Value.category]) rfl ?_
  refine j_iload (pc := 161) dX12_telling_161 rfl ?_
  refine j_bipush (pc := 163) (v := 98) dX12_telling_163 (by decide) ?_
  refine j_icmp_ne (pc := 165) (tgt := 181) dX12_telling_165 (by decide) (fun c28 => ?_) (fun c28 => ?_)
  · rw [if_neg c28] at H
    refine Jx.sub (L' := [some (.ref 0), none, some (.int v2), none, some (.int v4), some (.int v5), some (.int v6), none, none, none]) (⟨rfl, ⟨rfl, ⟨rfl, ⟨rfl, ⟨rfl, trivial⟩⟩⟩⟩⟩) ?_
    exact jX12_telling_181 _ hk61 v2 v4 v5 v6 h27 H
  · rw [if_pos c28] at H
    refine j_aload_n (pc := 168) dX12_telling_168 rfl ?_
    refine j_bipush (pc := 169) (v := 45) dX12_telling_169 (by decide) ?_
    obtain ⟨r30, h29, eh29, H⟩ := bd_x H
    refine j_callV (pc := 171) dX12_telling_171 mlX12_239 wyX12_passes (tX12_passes eh29) (by decide) rfl rfl rfl rfl (by simp [Value.category]) rfl ?_
    refine j_if_eq (pc := 174) (tgt := 181) dX12_telling_174 (by decide) (fun c31 => ?_) (fun c31 => ?_)
    · rw [if_pos c31] at H
      refine Jx.sub (L' := [some (.ref 0), none, some (.int v2), none, some (.int v4), some (.int v5), some (.int v6), none, none, none]) (⟨rfl, ⟨rfl, ⟨rfl, ⟨rfl, ⟨rfl, trivial⟩⟩⟩⟩⟩) ?_
      exact jX12_telling_181 _ hk61 v2 v4 v5 v6 h29 H
    · rw [if_neg c31] at H
      refine j_iconst (pc := 177) (v := 1) dX12_telling_177 (by decide) ?_
      refine j_goto (pc := 178) (tgt := 182) dX12_telling_178 (by decide) ?_
      refine Jx.sub (L' := [some (.ref 0), none, some (.int v2), none, some (.int v4), some (.int v5), some (.int v6), none, none, none]) (⟨rfl, ⟨rfl, ⟨rfl, ⟨rfl, ⟨rfl, trivial⟩⟩⟩⟩⟩) ?_
      exact jX12_telling_182 _ hk61 v2 v4 v5 v6 (1 : Int32) h29 H
noncomputable def fX12_telling_100 (k61 : Int32 → Int32 → HS → Option (Int32 × HS)) (v2 : Int32) (v4 : Int32) (h : HS) : Option (Int32 × HS) := nm (pI h 0 29 ((gI h 0 29) + (1 : Int32))) (fun h18 => bd (fX12_loadHere h18) (fun r20 h19 => if v4 = (118 : Int32) then (bv (fX12_need (45 : Int32) h19) (fun h22 => bd (fX12_loadHere h22) (fun r24 h23 => if r24 = r20 then (bv (fX12_fault (((gI h23 0 29) - (1 : Int32))) h23) (fun h26 => fX12_telling_155 k61 v2 v4 r20 r24 h26)) else (fX12_telling_155 k61 v2 v4 r20 r24 h23)))) else (fX12_telling_155 k61 v2 v4 r20 (-1 : Int32) h19)))
set_option maxRecDepth 100000 in
theorem jX12_telling_100 {r : Int32} {h0 : HS} (k61 : Int32 → Int32 → HS → Option (Int32 × HS)) (hk61 : ∀ (v2 : Int32) (v3 : Int32) (h : HS), k61 v2 v3 h = some (r, h0) → Jx skM RX12 cX12_telling 10 (some .int) 4 (some (.int r)) h0 61 [some (.ref 0), none, some (.int v2), some (.int v3), none, none, none, none, none, none] [] h) (v2 : Int32) (v4 : Int32) (h : HS) (H : fX12_telling_100 k61 v2 v4 h = some (r, h0)) : Jx skM RX12 cX12_telling 10 (some .int) 4 (some (.int r)) h0 100 [some (.ref 0), none, some (.int v2), none, some (.int v4), none, none, none, none, none] [] h := by
  unfold fX12_telling_100 at H
  refine j_aload_n (pc := 100) dX12_telling_100 rfl ?_
  refine j_dup (pc := 101) dX12_telling_101 rfl ?_
  refine j_getI (pc := 102) dX12_telling_102 flX12_217 rfl ?_
  refine j_iconst (pc := 105) (v := 1) dX12_telling_105 (by decide) ?_
  refine j_iadd (pc := 106) dX12_telling_106 ?_
  obtain ⟨h18, eh18, H⟩ := nm_x H
  refine j_putI (pc := 107) dX12_telling_107 fpX12_217 rfl h18 eh18 ?_
  refine j_aload_n (pc := 110) dX12_telling_110 rfl ?_
  obtain ⟨r20, h19, eh19, H⟩ := bd_x H
  refine j_callV (pc := 111) dX12_telling_111 mlX12_348 wyX12_loadHere (tX12_loadHere eh19) (by decide) rfl rfl rfl rfl (by simp [Value.category]) rfl ?_
  refine j_istore (pc := 114) (L' := [some (.ref 0), none, some (.int v2), none, some (.int v4), some (.int r20), none, none, none, none]) dX12_telling_114 (by decide) rfl ?_
  refine j_iconst (pc := 116) (v := -1) dX12_telling_116 (by decide) ?_
  refine j_istore (pc := 117) (L' := [some (.ref 0), none, some (.int v2), none, some (.int v4), some (.int r20), some (.int (-1 : Int32)), none, none, none]) dX12_telling_117 (by decide) rfl ?_
  refine j_iload (pc := 119) dX12_telling_119 rfl ?_
  refine j_bipush (pc := 121) (v := 118) dX12_telling_121 (by decide) ?_
  refine j_icmp_ne (pc := 123) (tgt := 155) dX12_telling_123 (by decide) (fun c21 => ?_) (fun c21 => ?_)
  · rw [if_neg c21] at H
    refine Jx.sub (L' := [some (.ref 0), none, some (.int v2), none, some (.int v4), some (.int r20), some (.int (-1 : Int32)), none, none, none]) (⟨rfl, ⟨rfl, ⟨rfl, ⟨rfl, ⟨rfl, trivial⟩⟩⟩⟩⟩) ?_
    exact jX12_telling_155 _ hk61 v2 v4 r20 (-1 : Int32) h19 H
  · rw [if_pos c21] at H
    refine j_aload_n (pc := 126) dX12_telling_126 rfl ?_
    refine j_bipush (pc := 127) (v := 45) dX12_telling_127 (by decide) ?_
    obtain ⟨h22, eh22, H⟩ := bv_x H
    refine j_callV (pc := 129) dX12_telling_129 mlX12_255 wyX12_need (tX12_need eh22) (by decide) rfl rfl rfl rfl (by simp [Value.category]) rfl ?_
    refine j_aload_n (pc := 132) dX12_telling_132 rfl ?_
    obtain ⟨r24, h23, eh23, H⟩ := bd_x H
    refine j_callV (pc := 133) dX12_telling_133 mlX12_348 wyX12_loadHere (tX12_loadHere eh23) (by decide) rfl rfl rfl rfl (by simp [Value.category]) rfl ?_
    refine j_istore (pc := 136) (L' := [some (.ref 0), none, some (.int v2), none, some (.int v4), some (.int r20), some (.int r24), none, none, none]) dX12_telling_136 (by decide) rfl ?_
    refine j_iload (pc := 138) dX12_telling_138 rfl ?_
    refine j_iload (pc := 140) dX12_telling_140 rfl ?_
    refine j_icmp_ne (pc := 142) (tgt := 155) dX12_telling_142 (by decide) (fun c25 => ?_) (fun c25 => ?_)
    · rw [if_neg c25] at H
      refine Jx.sub (L' := [some (.ref 0), none, some (.int v2), none, some (.int v4), some (.int r20), some (.int r24), none, none, none]) (⟨rfl, ⟨rfl, ⟨rfl, ⟨rfl, ⟨rfl, trivial⟩⟩⟩⟩⟩) ?_
      exact jX12_telling_155 _ hk61 v2 v4 r20 r24 h23 H
    · rw [if_pos c25] at H
      refine j_aload_n (pc := 145) dX12_telling_145 rfl ?_
      refine j_aload_n (pc := 146) dX12_telling_146 rfl ?_
      refine j_getI (pc := 147) dX12_telling_147 flX12_217 rfl ?_
      refine j_iconst (pc := 150) (v := 1) dX12_telling_150 (by decide) ?_
      refine j_isub (pc := 151) dX12_telling_151 ?_
      obtain ⟨h26, eh26, H⟩ := bv_x H
      refine j_callV (pc := 152) dX12_telling_152 mlX12_243 wyX12_fault (tX12_fault eh26) (by decide) rfl rfl rfl rfl (by simp [Value.category]) rfl ?_
      refine Jx.sub (L' := [some (.ref 0), none, some (.int v2), none, some (.int v4), some (.int r20), some (.int r24), none, none, none]) (⟨rfl, ⟨rfl, ⟨rfl, ⟨rfl, ⟨rfl, trivial⟩⟩⟩⟩⟩) ?_
      exact jX12_telling_155 _ hk61 v2 v4 r20 r24 h26 H
noncomputable def fX12_telling_61 : Nat → Int32 → Int32 → HS → Option (Int32 × HS)
  | 0, _, _, _ => none
  | n + 1, v2, v3, h => if v3 = 0 then (if (gI h 0 27) ≤ (gI h 0 29) then (ck (inb (gI h 0 50) 6) (nm (pI h 22 (gI h 0 50).toNatClampNeg v2) (fun h9 => nm (pI h9 0 50 ((gI h9 0 50) + (1 : Int32))) (fun h11 => some (((gI h11 0 50) - (1 : Int32)), h11))))) else (some (((-1 : Int32) - (gI h 0 29)), h))) else (bd (fX12_here h) (fun r13 h12 => if r13 = (108 : Int32) then (fX12_telling_100 (fX12_telling_61 n) v2 r13 h12) else (if r13 = (118 : Int32) then (fX12_telling_100 (fX12_telling_61 n) v2 r13 h12) else (if r13 = (98 : Int32) then (fX12_telling_100 (fX12_telling_61 n) v2 r13 h12) else (bv (fX12_fault ((gI h12 0 29)) h12) (fun h17 => fX12_telling_100 (fX12_telling_61 n) v2 r13 h17))))))
set_option maxRecDepth 100000 in
theorem jX12_telling_61 {r : Int32} {h0 : HS} : ∀ (n : Nat) (v2 : Int32) (v3 : Int32) (h : HS), fX12_telling_61 n v2 v3 h = some (r, h0) → Jx skM RX12 cX12_telling 10 (some .int) 4 (some (.int r)) h0 61 [some (.ref 0), none, some (.int v2), some (.int v3), none, none, none, none, none, none] [] h := by
  intro n
  induction n with
  | zero => intro v2 v3  h H; cases H
  | succ n ih =>
    intro v2 v3  h H
    rw [fX12_telling_61] at H
    refine j_iload_n (pc := 61) dX12_telling_61 rfl ?_
    refine j_if_eq (pc := 62) (tgt := 287) dX12_telling_62 (by decide) (fun c7 => ?_) (fun c7 => ?_)
    · rw [if_pos c7] at H
      refine j_aload_n (pc := 287) dX12_telling_287 rfl ?_
      refine j_getI (pc := 288) dX12_telling_288 flX12_217 rfl ?_
      refine j_aload_n (pc := 291) dX12_telling_291 rfl ?_
      refine j_getI (pc := 292) dX12_telling_292 flX12_220 rfl ?_
      refine j_icmp_ge (pc := 295) (tgt := 305) dX12_telling_295 (by decide) (fun c8 => ?_) (fun c8 => ?_)
      · rw [if_pos c8] at H
        refine j_aload_n (pc := 305) dX12_telling_305 rfl ?_
        refine j_getR (pc := 306) (b := 22) dX12_telling_306 flX12_82 rfl ?_
        refine j_aload_n (pc := 309) dX12_telling_309 rfl ?_
        refine j_getI (pc := 310) dX12_telling_310 flX12_345 rfl ?_
        refine j_iload_n (pc := 313) dX12_telling_313 rfl ?_
        obtain ⟨b10, H⟩ := ck_x H
        obtain ⟨h9, eh9, H⟩ := nm_x H
        refine j_iastore (pc := 314) dX12_telling_314 rfl b10 rfl h9 eh9 ?_
        refine j_aload_n (pc := 315) dX12_telling_315 rfl ?_
        refine j_dup (pc := 316) dX12_telling_316 rfl ?_
        refine j_getI (pc := 317) dX12_telling_317 flX12_345 rfl ?_
        refine j_iconst (pc := 320) (v := 1) dX12_telling_320 (by decide) ?_
        refine j_iadd (pc := 321) dX12_telling_321 ?_
        obtain ⟨h11, eh11, H⟩ := nm_x H
        refine j_putI (pc := 322) dX12_telling_322 fpX12_345 rfl h11 eh11 ?_
        refine j_aload_n (pc := 325) dX12_telling_325 rfl ?_
        refine j_getI (pc := 326) dX12_telling_326 flX12_345 rfl ?_
        refine j_iconst (pc := 329) (v := 1) dX12_telling_329 (by decide) ?_
        refine j_isub (pc := 330) dX12_telling_330 ?_
        exact j_ireturn (pc := 331) dX12_telling_331 rfl (ri_1 H) (ri_2 H)
      · rw [if_neg c8] at H
        refine j_iconst (pc := 298) (v := -1) dX12_telling_298 (by decide) ?_
        refine j_aload_n (pc := 299) dX12_telling_299 rfl ?_
        refine j_getI (pc := 300) dX12_telling_300 flX12_217 rfl ?_
        refine j_isub (pc := 303) dX12_telling_303 ?_
        exact j_ireturn (pc := 304) dX12_telling_304 rfl (ri_1 H) (ri_2 H)
    · rw [if_neg c7] at H
      refine j_aload_n (pc := 65) dX12_telling_65 rfl ?_
      obtain ⟨r13, h12, eh12, H⟩ := bd_x H
      refine j_callV (pc := 66) dX12_telling_66 mlX12_236 wyX12_here (tX12_here eh12) (by decide) rfl rfl rfl rfl (by simp [Value.category]) rfl ?_
      refine j_istore (pc := 69) (L' := [some (.ref 0), none, some (.int v2), some (.int v3), some (.int r13), none, none, none, none, none]) dX12_telling_69 (by decide) rfl ?_
      refine j_iload (pc := 71) dX12_telling_71 rfl ?_
      refine j_bipush (pc := 73) (v := 108) dX12_telling_73 (by decide) ?_
      refine j_icmp_eq (pc := 75) (tgt := 100) dX12_telling_75 (by decide) (fun c14 => ?_) (fun c14 => ?_)
      · rw [if_pos c14] at H
        refine Jx.sub (L' := [some (.ref 0), none, some (.int v2), none, some (.int r13), none, none, none, none, none]) (⟨rfl, ⟨rfl, ⟨rfl, trivial⟩⟩⟩) ?_
        exact jX12_telling_100 _ ih v2 r13 h12 H
      · rw [if_neg c14] at H
        refine j_iload (pc := 78) dX12_telling_78 rfl ?_
        refine j_bipush (pc := 80) (v := 118) dX12_telling_80 (by decide) ?_
        refine j_icmp_eq (pc := 82) (tgt := 100) dX12_telling_82 (by decide) (fun c15 => ?_) (fun c15 => ?_)
        · rw [if_pos c15] at H
          refine Jx.sub (L' := [some (.ref 0), none, some (.int v2), none, some (.int r13), none, none, none, none, none]) (⟨rfl, ⟨rfl, ⟨rfl, trivial⟩⟩⟩) ?_
          exact jX12_telling_100 _ ih v2 r13 h12 H
        · rw [if_neg c15] at H
          refine j_iload (pc := 85) dX12_telling_85 rfl ?_
          refine j_bipush (pc := 87) (v := 98) dX12_telling_87 (by decide) ?_
          refine j_icmp_eq (pc := 89) (tgt := 100) dX12_telling_89 (by decide) (fun c16 => ?_) (fun c16 => ?_)
          · rw [if_pos c16] at H
            refine Jx.sub (L' := [some (.ref 0), none, some (.int v2), none, some (.int r13), none, none, none, none, none]) (⟨rfl, ⟨rfl, ⟨rfl, trivial⟩⟩⟩) ?_
            exact jX12_telling_100 _ ih v2 r13 h12 H
          · rw [if_neg c16] at H
            refine j_aload_n (pc := 92) dX12_telling_92 rfl ?_
            refine j_aload_n (pc := 93) dX12_telling_93 rfl ?_
            refine j_getI (pc := 94) dX12_telling_94 flX12_217 rfl ?_
            obtain ⟨h17, eh17, H⟩ := bv_x H
            refine j_callV (pc := 97) dX12_telling_97 mlX12_243 wyX12_fault (tX12_fault eh17) (by decide) rfl rfl rfl rfl (by simp [Value.category]) rfl ?_
            refine Jx.sub (L' := [some (.ref 0), none, some (.int v2), none, some (.int r13), none, none, none, none, none]) (⟨rfl, ⟨rfl, ⟨rfl, trivial⟩⟩⟩) ?_
            exact jX12_telling_100 _ ih v2 r13 h17 H
noncomputable def fX12_telling_19 (s0 : Int32) (h : HS) : Option (Int32 × HS) := bv (fX12_begin 9 ((gI h 0 19)) (30 : Int32) h) (fun h3 => nm (pI h3 0 19 (0 : Int32)) (fun h4 => if s0 = 0 then (if (gI h4 0 27) ≤ 0 then (fX12_telling_61 FU (0 : Int32) (0 : Int32) h4) else (fX12_telling_61 FU (0 : Int32) (1 : Int32) h4)) else (some ((-100 : Int32), h4))))
set_option maxRecDepth 100000 in
theorem jX12_telling_19 {r : Int32} {h0 : HS} (s0 : Int32) (h : HS) (H : fX12_telling_19 s0 h = some (r, h0)) : Jx skM RX12 cX12_telling 10 (some .int) 4 (some (.int r)) h0 19 [some (.ref 0), none, none, none, none, none, none, none, none, none] [.int s0] h := by
  unfold fX12_telling_19 at H
  refine j_istore_n (pc := 19) (L' := [some (.ref 0), some (.int s0), none, none, none, none, none, none, none, none]) dX12_telling_19 (by decide) rfl ?_
  refine j_aload_n (pc := 20) dX12_telling_20 rfl ?_
  refine j_aload_n (pc := 21) dX12_telling_21 rfl ?_
  refine j_getR (pc := 22) (b := 9) dX12_telling_22 flX12_41 rfl ?_
  refine j_aload_n (pc := 25) dX12_telling_25 rfl ?_
  refine j_getI (pc := 26) dX12_telling_26 flX12_214 rfl ?_
  refine j_bipush (pc := 29) (v := 30) dX12_telling_29 (by decide) ?_
  obtain ⟨h3, eh3, H⟩ := bv_x H
  refine j_callV (pc := 31) dX12_telling_31 mlX12_265 wyX12_begin (tX12_begin eh3) (by decide) rfl rfl rfl rfl (by simp [Value.category]) rfl ?_
  refine j_aload_n (pc := 34) dX12_telling_34 rfl ?_
  refine j_iconst (pc := 35) (v := 0) dX12_telling_35 (by decide) ?_
  obtain ⟨h4, eh4, H⟩ := nm_x H
  refine j_putI (pc := 36) dX12_telling_36 fpX12_214 rfl h4 eh4 ?_
  refine j_iload_n (pc := 39) dX12_telling_39 rfl ?_
  refine j_if_eq (pc := 40) (tgt := 46) dX12_telling_40 (by decide) (fun c5 => ?_) (fun c5 => ?_)
  · rw [if_pos c5] at H
    refine j_iconst (pc := 46) (v := 0) dX12_telling_46 (by decide) ?_
    refine j_istore_n (pc := 47) (L' := [some (.ref 0), some (.int s0), some (.int (0 : Int32)), none, none, none, none, none, none, none]) dX12_telling_47 (by decide) rfl ?_
    refine j_aload_n (pc := 48) dX12_telling_48 rfl ?_
    refine j_getI (pc := 49) dX12_telling_49 flX12_220 rfl ?_
    refine j_if_le (pc := 52) (tgt := 59) dX12_telling_52 (by decide) (fun c6 => ?_) (fun c6 => ?_)
    · rw [if_pos c6] at H
      refine j_iconst (pc := 59) (v := 0) dX12_telling_59 (by decide) ?_
      refine j_istore_n (pc := 60) (L' := [some (.ref 0), some (.int s0), some (.int (0 : Int32)), some (.int (0 : Int32)), none, none, none, none, none, none]) dX12_telling_60 (by decide) rfl ?_
      refine Jx.sub (L' := [some (.ref 0), none, some (.int (0 : Int32)), some (.int (0 : Int32)), none, none, none, none, none, none]) (⟨rfl, ⟨rfl, ⟨rfl, trivial⟩⟩⟩) ?_
      exact jX12_telling_61 FU (0 : Int32) (0 : Int32) h4 H
    · rw [if_neg c6] at H
      refine j_iconst (pc := 55) (v := 1) dX12_telling_55 (by decide) ?_
      refine j_goto (pc := 56) (tgt := 60) dX12_telling_56 (by decide) ?_
      refine j_istore_n (pc := 60) (L' := [some (.ref 0), some (.int s0), some (.int (0 : Int32)), some (.int (1 : Int32)), none, none, none, none, none, none]) dX12_telling_60 (by decide) rfl ?_
      refine Jx.sub (L' := [some (.ref 0), none, some (.int (0 : Int32)), some (.int (1 : Int32)), none, none, none, none, none, none]) (⟨rfl, ⟨rfl, ⟨rfl, trivial⟩⟩⟩) ?_
      exact jX12_telling_61 FU (0 : Int32) (1 : Int32) h4 H
  · rw [if_neg c5] at H
    refine j_bipush (pc := 43) (v := -100) dX12_telling_43 (by decide) ?_
    exact j_ireturn (pc := 45) dX12_telling_45 rfl (ri_1 H) (ri_2 H)
noncomputable def fX12_telling (h : HS) : Option (Int32 × HS) := nm (pI h 0 22 (0 : Int32)) (fun h1 => if (gI h1 0 50) = (6 : Int32) then (fX12_telling_19 (1 : Int32) h1) else (fX12_telling_19 (0 : Int32) h1))
set_option maxRecDepth 100000 in
theorem tX12_telling {r : Int32} {h h0 : HS} (H : fX12_telling h = some (r, h0)) : Cn skM yX12_telling cX12_telling 10 (some .int) 4 [.ref 0] h (some (.int r)) h0 := by
  refine Cn_of (L := [some (.ref 0), none, none, none, none, none, none, none, none, none]) (by decide +kernel) (by simp [lg_sl, Value.category]) (fun ad => by simp [lg_sl, tv, Value.category]) (⟨rfl, trivial⟩) ?_
  unfold fX12_telling at H
  refine j_aload_n (pc := 0) dX12_telling_0 rfl ?_
  refine j_iconst (pc := 1) (v := 0) dX12_telling_1 (by decide) ?_
  obtain ⟨h1, eh1, H⟩ := nm_x H
  refine j_putI (pc := 2) dX12_telling_2 fpX12_133 rfl h1 eh1 ?_
  refine j_aload_n (pc := 5) dX12_telling_5 rfl ?_
  refine j_getI (pc := 6) dX12_telling_6 flX12_345 rfl ?_
  refine j_bipush (pc := 9) (v := 6) dX12_telling_9 (by decide) ?_
  refine j_icmp_ne (pc := 11) (tgt := 18) dX12_telling_11 (by decide) (fun c2 => ?_) (fun c2 => ?_)
  · rw [if_neg c2] at H
    refine j_iconst (pc := 18) (v := 0) dX12_telling_18 (by decide) ?_
    refine Jx.sub (L' := [some (.ref 0), none, none, none, none, none, none, none, none, none]) (⟨rfl, trivial⟩) ?_
    exact jX12_telling_19 (0 : Int32) h1 H
  · rw [if_pos c2] at H
    refine j_iconst (pc := 14) (v := 1) dX12_telling_14 (by decide) ?_
    refine j_goto (pc := 15) (tgt := 19) dX12_telling_15 (by decide) ?_
    refine Jx.sub (L' := [some (.ref 0), none, none, none, none, none, none, none, none, none]) (⟨rfl, trivial⟩) ?_
    exact jX12_telling_19 (1 : Int32) h1 H

noncomputable def fX12_gauge (p1 : Int32) (p2 : Int32) (p3 : Int32) (p4 : Int32) (h : HS) : Option (Int32 × HS) := nm (pI h 0 22 (0 : Int32)) (fun h1 => bd (fX12_in p1 (0 : Int32) (200 : Int32) h1) (fun r3 h2 => if r3 = 0 then (some ((-1 : Int32), h2)) else (bd (fX12_isDepth p2 h2) (fun r6 h5 => if r6 = 0 then (some ((-1 : Int32), h5)) else (bd (fX12_in p3 (0 : Int32) (2 : Int32) h5) (fun r9 h8 => if r9 = 0 then (some ((-1 : Int32), h8)) else (bd (fX12_in p4 (-999999 : Int32) (999999 : Int32) h8) (fun r12 h11 => if r12 = 0 then (some ((-1 : Int32), h11)) else (if (gI h11 0 53) = (12 : Int32) then (some ((-1 : Int32), h11)) else (ck (inb (gI h11 0 53) 12) (nm (pI h11 24 (gI h11 0 53).toNatClampNeg p1) (fun h15 => ck (inb (gI h15 0 53) 12) (nm (pI h15 25 (gI h15 0 53).toNatClampNeg p2) (fun h17 => ck (inb (gI h17 0 53) 12) (nm (pI h17 26 (gI h17 0 53).toNatClampNeg p3) (fun h19 => ck (inb (gI h19 0 53) 12) (nm (pI h19 27 (gI h19 0 53).toNatClampNeg p4) (fun h21 => nm (pI h21 0 53 ((gI h21 0 53) + (1 : Int32))) (fun h23 => some ((gI h23 0 53), h23))))))))))))))))))))
set_option maxRecDepth 100000 in
theorem tX12_gauge {p1 : Int32} {p2 : Int32} {p3 : Int32} {p4 : Int32} {r : Int32} {h h0 : HS} (H : fX12_gauge p1 p2 p3 p4 h = some (r, h0)) : Cn skM yX12_gauge cX12_gauge 5 (some .int) 2 [.ref 0, .int p1, .int p2, .int p3, .int p4] h (some (.int r)) h0 := by
  refine Cn_of (L := [some (.ref 0), some (.int p1), some (.int p2), some (.int p3), some (.int p4)]) (by decide +kernel) (by simp [lg_sl, Value.category]) (fun ad => by simp [lg_sl, tv, Value.category]) (⟨rfl, ⟨rfl, ⟨rfl, ⟨rfl, ⟨rfl, trivial⟩⟩⟩⟩⟩) ?_
  unfold fX12_gauge at H
  refine j_aload_n (pc := 0) dX12_gauge_0 rfl ?_
  refine j_iconst (pc := 1) (v := 0) dX12_gauge_1 (by decide) ?_
  obtain ⟨h1, eh1, H⟩ := nm_x H
  refine j_putI (pc := 2) dX12_gauge_2 fpX12_133 rfl h1 eh1 ?_
  refine j_iload_n (pc := 5) dX12_gauge_5 rfl ?_
  refine j_iconst (pc := 6) (v := 0) dX12_gauge_6 (by decide) ?_
  refine j_sipush (pc := 7) (v := 200) dX12_gauge_7 (by decide) ?_
  obtain ⟨r3, h2, eh2, H⟩ := bd_x H
  refine j_callS (pc := 10) dX12_gauge_10 mlX12_142 wyX12_in (tX12_in eh2) (by decide) rfl (by simp [Value.category]) rfl ?_
  refine j_if_eq (pc := 13) (tgt := 53) dX12_gauge_13 (by decide) (fun c4 => ?_) (fun c4 => ?_)
  · rw [if_pos c4] at H
    refine j_iconst (pc := 53) (v := -1) dX12_gauge_53 (by decide) ?_
    exact j_ireturn (pc := 54) dX12_gauge_54 rfl (ri_1 H) (ri_2 H)
  · rw [if_neg c4] at H
    refine j_iload_n (pc := 16) dX12_gauge_16 rfl ?_
    obtain ⟨r6, h5, eh5, H⟩ := bd_x H
    refine j_callS (pc := 17) dX12_gauge_17 mlX12_178 wyX12_isDepth (tX12_isDepth eh5) (by decide) rfl (by simp [Value.category]) rfl ?_
    refine j_if_eq (pc := 20) (tgt := 53) dX12_gauge_20 (by decide) (fun c7 => ?_) (fun c7 => ?_)
    · rw [if_pos c7] at H
      refine j_iconst (pc := 53) (v := -1) dX12_gauge_53 (by decide) ?_
      exact j_ireturn (pc := 54) dX12_gauge_54 rfl (ri_1 H) (ri_2 H)
    · rw [if_neg c7] at H
      refine j_iload_n (pc := 23) dX12_gauge_23 rfl ?_
      refine j_iconst (pc := 24) (v := 0) dX12_gauge_24 (by decide) ?_
      refine j_iconst (pc := 25) (v := 2) dX12_gauge_25 (by decide) ?_
      obtain ⟨r9, h8, eh8, H⟩ := bd_x H
      refine j_callS (pc := 26) dX12_gauge_26 mlX12_142 wyX12_in (tX12_in eh8) (by decide) rfl (by simp [Value.category]) rfl ?_
      refine j_if_eq (pc := 29) (tgt := 53) dX12_gauge_29 (by decide) (fun c10 => ?_) (fun c10 => ?_)
      · rw [if_pos c10] at H
        refine j_iconst (pc := 53) (v := -1) dX12_gauge_53 (by decide) ?_
        exact j_ireturn (pc := 54) dX12_gauge_54 rfl (ri_1 H) (ri_2 H)
      · rw [if_neg c10] at H
        refine j_iload (pc := 32) dX12_gauge_32 rfl ?_
        refine j_ldc (pc := 34) dX12_gauge_34 wkX12_163 ?_
        refine j_ldc (pc := 36) dX12_gauge_36 wkX12_164 ?_
        obtain ⟨r12, h11, eh11, H⟩ := bd_x H
        refine j_callS (pc := 38) dX12_gauge_38 mlX12_142 wyX12_in (tX12_in eh11) (by decide) rfl (by simp [Value.category]) rfl ?_
        refine j_if_eq (pc := 41) (tgt := 53) dX12_gauge_41 (by decide) (fun c13 => ?_) (fun c13 => ?_)
        · rw [if_pos c13] at H
          refine j_iconst (pc := 53) (v := -1) dX12_gauge_53 (by decide) ?_
          exact j_ireturn (pc := 54) dX12_gauge_54 rfl (ri_1 H) (ri_2 H)
        · rw [if_neg c13] at H
          refine j_aload_n (pc := 44) dX12_gauge_44 rfl ?_
          refine j_getI (pc := 45) dX12_gauge_45 flX12_351 rfl ?_
          refine j_bipush (pc := 48) (v := 12) dX12_gauge_48 (by decide) ?_
          refine j_icmp_ne (pc := 50) (tgt := 55) dX12_gauge_50 (by decide) (fun c14 => ?_) (fun c14 => ?_)
          · rw [if_neg c14] at H
            refine j_aload_n (pc := 55) dX12_gauge_55 rfl ?_
            refine j_getR (pc := 56) (b := 24) dX12_gauge_56 flX12_88 rfl ?_
            refine j_aload_n (pc := 59) dX12_gauge_59 rfl ?_
            refine j_getI (pc := 60) dX12_gauge_60 flX12_351 rfl ?_
            refine j_iload_n (pc := 63) dX12_gauge_63 rfl ?_
            obtain ⟨b16, H⟩ := ck_x H
            obtain ⟨h15, eh15, H⟩ := nm_x H
            refine j_iastore (pc := 64) dX12_gauge_64 rfl b16 rfl h15 eh15 ?_
            refine j_aload_n (pc := 65) dX12_gauge_65 rfl ?_
            refine j_getR (pc := 66) (b := 25) dX12_gauge_66 flX12_91 rfl ?_
            refine j_aload_n (pc := 69) dX12_gauge_69 rfl ?_
            refine j_getI (pc := 70) dX12_gauge_70 flX12_351 rfl ?_
            refine j_iload_n (pc := 73) dX12_gauge_73 rfl ?_
            obtain ⟨b18, H⟩ := ck_x H
            obtain ⟨h17, eh17, H⟩ := nm_x H
            refine j_iastore (pc := 74) dX12_gauge_74 rfl b18 rfl h17 eh17 ?_
            refine j_aload_n (pc := 75) dX12_gauge_75 rfl ?_
            refine j_getR (pc := 76) (b := 26) dX12_gauge_76 flX12_94 rfl ?_
            refine j_aload_n (pc := 79) dX12_gauge_79 rfl ?_
            refine j_getI (pc := 80) dX12_gauge_80 flX12_351 rfl ?_
            refine j_iload_n (pc := 83) dX12_gauge_83 rfl ?_
            obtain ⟨b20, H⟩ := ck_x H
            obtain ⟨h19, eh19, H⟩ := nm_x H
            refine j_iastore (pc := 84) dX12_gauge_84 rfl b20 rfl h19 eh19 ?_
            refine j_aload_n (pc := 85) dX12_gauge_85 rfl ?_
            refine j_getR (pc := 86) (b := 27) dX12_gauge_86 flX12_97 rfl ?_
            refine j_aload_n (pc := 89) dX12_gauge_89 rfl ?_
            refine j_getI (pc := 90) dX12_gauge_90 flX12_351 rfl ?_
            refine j_iload (pc := 93) dX12_gauge_93 rfl ?_
            obtain ⟨b22, H⟩ := ck_x H
            obtain ⟨h21, eh21, H⟩ := nm_x H
            refine j_iastore (pc := 95) dX12_gauge_95 rfl b22 rfl h21 eh21 ?_
            refine j_aload_n (pc := 96) dX12_gauge_96 rfl ?_
            refine j_dup (pc := 97) dX12_gauge_97 rfl ?_
            refine j_getI (pc := 98) dX12_gauge_98 flX12_351 rfl ?_
            refine j_iconst (pc := 101) (v := 1) dX12_gauge_101 (by decide) ?_
            refine j_iadd (pc := 102) dX12_gauge_102 ?_
            obtain ⟨h23, eh23, H⟩ := nm_x H
            refine j_putI (pc := 103) dX12_gauge_103 fpX12_351 rfl h23 eh23 ?_
            refine j_aload_n (pc := 106) dX12_gauge_106 rfl ?_
            refine j_getI (pc := 107) dX12_gauge_107 flX12_351 rfl ?_
            exact j_ireturn (pc := 110) dX12_gauge_110 rfl (ri_1 H) (ri_2 H)
          · rw [if_pos c14] at H
            refine j_iconst (pc := 53) (v := -1) dX12_gauge_53 (by decide) ?_
            exact j_ireturn (pc := 54) dX12_gauge_54 rfl (ri_1 H) (ri_2 H)

noncomputable def fX12_toldBy_161 (s0 : Int32) (h : HS) : Option (Int32 × HS) := bv (fX12_pop h) (fun h14 => some (s0, h14))
set_option maxRecDepth 100000 in
theorem jX12_toldBy_161 {r : Int32} {h0 : HS} (s0 : Int32) (h : HS) (H : fX12_toldBy_161 s0 h = some (r, h0)) : Jx skM RX12 cX12_toldBy 8 (some .int) 3 (some (.int r)) h0 161 [some (.ref 0), none, none, none, none, none, none, none] [.int s0] h := by
  unfold fX12_toldBy_161 at H
  refine j_istore (pc := 161) (L' := [some (.ref 0), none, none, none, none, some (.int s0), none, none]) dX12_toldBy_161 (by decide) rfl ?_
  refine j_aload_n (pc := 163) dX12_toldBy_163 rfl ?_
  obtain ⟨h14, eh14, H⟩ := bv_x H
  refine j_callV (pc := 164) dX12_toldBy_164 mlX12_298 wyX12_pop (tX12_pop eh14) (by decide) rfl rfl rfl rfl (by simp [Value.category]) rfl ?_
  refine j_iload (pc := 167) dX12_toldBy_167 rfl ?_
  exact j_ireturn (pc := 169) dX12_toldBy_169 rfl (ri_1 H) (ri_2 H)
noncomputable def fX12_toldBy_101 (k7 : Int32 → Int32 → Int32 → Int32 → Int32 → HS → Option (Int32 × HS)) (v1 : Int32) (v2 : Int32) (v3 : Int32) (v4 : Int32) (v5 : Int32) (v6 : Int32) (v7 : Int32) (s3 : Int32) (s2 : Int32) (s1 : Int32) (h : HS) : Option (Int32 × HS) := ck (inb s1 15) (nm (pI h 5 s1.toNatClampNeg (s2 + s3)) (fun h19 => ck (inb v6 384) (if (gI h19 23 v6.toNatClampNeg) = (118 : Int32) then (ck (inb (v6 + (2 : Int32)) 384) (ck (inb (gI h19 23 (v6 + (2 : Int32)).toNatClampNeg) 15) (ck (inb (gI h19 23 (v6 + (2 : Int32)).toNatClampNeg) 15) (nm (pI h19 5 (gI h19 23 (v6 + (2 : Int32)).toNatClampNeg).toNatClampNeg ((gI h19 5 (gI h19 23 (v6 + (2 : Int32)).toNatClampNeg).toNatClampNeg) + v7)) (fun h26 => nm (v5 + (1 : Int32)) (fun v5_28 => k7 v1 v2 v3 v4 v5_28 h26)))))) else (nm (v5 + (1 : Int32)) (fun v5_23 => k7 v1 v2 v3 v4 v5_23 h19)))))
set_option maxRecDepth 100000 in
theorem jX12_toldBy_101 {r : Int32} {h0 : HS} (k7 : Int32 → Int32 → Int32 → Int32 → Int32 → HS → Option (Int32 × HS)) (hk7 : ∀ (v1 : Int32) (v2 : Int32) (v3 : Int32) (v4 : Int32) (v5 : Int32) (h : HS), k7 v1 v2 v3 v4 v5 h = some (r, h0) → Jx skM RX12 cX12_toldBy 8 (some .int) 3 (some (.int r)) h0 7 [some (.ref 0), some (.int v1), some (.int v2), some (.int v3), some (.int v4), some (.int v5), none, none] [] h) (v1 : Int32) (v2 : Int32) (v3 : Int32) (v4 : Int32) (v5 : Int32) (v6 : Int32) (v7 : Int32) (s3 : Int32) (s2 : Int32) (s1 : Int32) (h : HS) (H : fX12_toldBy_101 k7 v1 v2 v3 v4 v5 v6 v7 s3 s2 s1 h = some (r, h0)) : Jx skM RX12 cX12_toldBy 8 (some .int) 3 (some (.int r)) h0 101 [some (.ref 0), some (.int v1), some (.int v2), some (.int v3), some (.int v4), some (.int v5), some (.int v6), some (.int v7)] [.int s3, .int s2, .int s1, .ref 5] h := by
  unfold fX12_toldBy_101 at H
  refine j_iadd (pc := 101) dX12_toldBy_101 ?_
  obtain ⟨b20, H⟩ := ck_x H
  obtain ⟨h19, eh19, H⟩ := nm_x H
  refine j_iastore (pc := 102) dX12_toldBy_102 rfl b20 rfl h19 eh19 ?_
  refine j_aload_n (pc := 103) dX12_toldBy_103 rfl ?_
  refine j_getR (pc := 104) (b := 23) dX12_toldBy_104 flX12_85 rfl ?_
  refine j_iload (pc := 107) dX12_toldBy_107 rfl ?_
  obtain ⟨b21, H⟩ := ck_x H
  refine j_iaload (pc := 109) dX12_toldBy_109 rfl b21 rfl ?_
  refine j_bipush (pc := 110) (v := 118) dX12_toldBy_110 (by decide) ?_
  refine j_icmp_ne (pc := 112) (tgt := 134) dX12_toldBy_112 (by decide) (fun c22 => ?_) (fun c22 => ?_)
  · rw [if_neg c22] at H
    obtain ⟨v5_23, ev5_23, H⟩ := nm_x H
    refine j_iinc (pc := 134) (L' := [some (.ref 0), some (.int v1), some (.int v2), some (.int v3), some (.int v4), some (.int v5_23), some (.int v6), some (.int v7)]) (w := 1) dX12_toldBy_134 rfl (by decide) (by decide) v5_23 ev5_23 rfl ?_
    refine j_goto (pc := 137) (tgt := 7) dX12_toldBy_137 (by decide) ?_
    refine Jx.sub (L' := [some (.ref 0), some (.int v1), some (.int v2), some (.int v3), some (.int v4), some (.int v5_23), none, none]) (⟨rfl, ⟨rfl, ⟨rfl, ⟨rfl, ⟨rfl, ⟨rfl, trivial⟩⟩⟩⟩⟩⟩) ?_
    exact hk7 v1 v2 v3 v4 v5_23 h19 H
  · rw [if_pos c22] at H
    refine j_aload_n (pc := 115) dX12_toldBy_115 rfl ?_
    refine j_getR (pc := 116) (b := 5) dX12_toldBy_116 flX12_22 rfl ?_
    refine j_aload_n (pc := 119) dX12_toldBy_119 rfl ?_
    refine j_getR (pc := 120) (b := 23) dX12_toldBy_120 flX12_85 rfl ?_
    refine j_iload (pc := 123) dX12_toldBy_123 rfl ?_
    refine j_iconst (pc := 125) (v := 2) dX12_toldBy_125 (by decide) ?_
    refine j_iadd (pc := 126) dX12_toldBy_126 ?_
    obtain ⟨b24, H⟩ := ck_x H
    refine j_iaload (pc := 127) dX12_toldBy_127 rfl b24 rfl ?_
    refine j_dup2 (pc := 128) dX12_toldBy_128 rfl rfl ?_
    obtain ⟨b25, H⟩ := ck_x H
    refine j_iaload (pc := 129) dX12_toldBy_129 rfl b25 rfl ?_
    refine j_iload (pc := 130) dX12_toldBy_130 rfl ?_
    refine j_iadd (pc := 132) dX12_toldBy_132 ?_
    obtain ⟨b27, H⟩ := ck_x H
    obtain ⟨h26, eh26, H⟩ := nm_x H
    refine j_iastore (pc := 133) dX12_toldBy_133 rfl b27 rfl h26 eh26 ?_
    obtain ⟨v5_28, ev5_28, H⟩ := nm_x H
    refine j_iinc (pc := 134) (L' := [some (.ref 0), some (.int v1), some (.int v2), some (.int v3), some (.int v4), some (.int v5_28), some (.int v6), some (.int v7)]) (w := 1) dX12_toldBy_134 rfl (by decide) (by decide) v5_28 ev5_28 rfl ?_
    refine j_goto (pc := 137) (tgt := 7) dX12_toldBy_137 (by decide) ?_
    refine Jx.sub (L' := [some (.ref 0), some (.int v1), some (.int v2), some (.int v3), some (.int v4), some (.int v5_28), none, none]) (⟨rfl, ⟨rfl, ⟨rfl, ⟨rfl, ⟨rfl, ⟨rfl, trivial⟩⟩⟩⟩⟩⟩) ?_
    exact hk7 v1 v2 v3 v4 v5_28 h26 H
noncomputable def fX12_toldBy_64 (k7 : Int32 → Int32 → Int32 → Int32 → Int32 → HS → Option (Int32 × HS)) (v1 : Int32) (v2 : Int32) (v3 : Int32) (v4 : Int32) (v5 : Int32) (v6 : Int32) (s0 : Int32) (h : HS) : Option (Int32 × HS) := ck (inb (v6 + (1 : Int32)) 384) (ck (inb (gI h 23 (v6 + (1 : Int32)).toNatClampNeg) 15) (ck (inb v6 384) (if (gI h 23 v6.toNatClampNeg) = (118 : Int32) then (fX12_toldBy_101 k7 v1 v2 v3 v4 v5 v6 s0 ((-s0)) ((gI h 5 (gI h 23 (v6 + (1 : Int32)).toNatClampNeg).toNatClampNeg)) ((gI h 23 (v6 + (1 : Int32)).toNatClampNeg)) h) else (fX12_toldBy_101 k7 v1 v2 v3 v4 v5 v6 s0 s0 ((gI h 5 (gI h 23 (v6 + (1 : Int32)).toNatClampNeg).toNatClampNeg)) ((gI h 23 (v6 + (1 : Int32)).toNatClampNeg)) h))))
set_option maxRecDepth 100000 in
theorem jX12_toldBy_64 {r : Int32} {h0 : HS} (k7 : Int32 → Int32 → Int32 → Int32 → Int32 → HS → Option (Int32 × HS)) (hk7 : ∀ (v1 : Int32) (v2 : Int32) (v3 : Int32) (v4 : Int32) (v5 : Int32) (h : HS), k7 v1 v2 v3 v4 v5 h = some (r, h0) → Jx skM RX12 cX12_toldBy 8 (some .int) 3 (some (.int r)) h0 7 [some (.ref 0), some (.int v1), some (.int v2), some (.int v3), some (.int v4), some (.int v5), none, none] [] h) (v1 : Int32) (v2 : Int32) (v3 : Int32) (v4 : Int32) (v5 : Int32) (v6 : Int32) (s0 : Int32) (h : HS) (H : fX12_toldBy_64 k7 v1 v2 v3 v4 v5 v6 s0 h = some (r, h0)) : Jx skM RX12 cX12_toldBy 8 (some .int) 3 (some (.int r)) h0 64 [some (.ref 0), some (.int v1), some (.int v2), some (.int v3), some (.int v4), some (.int v5), some (.int v6), none] [.int s0] h := by
  unfold fX12_toldBy_64 at H
  refine j_istore (pc := 64) (L' := [some (.ref 0), some (.int v1), some (.int v2), some (.int v3), some (.int v4), some (.int v5), some (.int v6), some (.int s0)]) dX12_toldBy_64 (by decide) rfl ?_
  refine j_aload_n (pc := 66) dX12_toldBy_66 rfl ?_
  refine j_getR (pc := 67) (b := 5) dX12_toldBy_67 flX12_22 rfl ?_
  refine j_aload_n (pc := 70) dX12_toldBy_70 rfl ?_
  refine j_getR (pc := 71) (b := 23) dX12_toldBy_71 flX12_85 rfl ?_
  refine j_iload (pc := 74) dX12_toldBy_74 rfl ?_
  refine j_iconst (pc := 76) (v := 1) dX12_toldBy_76 (by decide) ?_
  refine j_iadd (pc := 77) dX12_toldBy_77 ?_
  obtain ⟨b15, H⟩ := ck_x H
  refine j_iaload (pc := 78) dX12_toldBy_78 rfl b15 rfl ?_
  refine j_dup2 (pc := 79) dX12_toldBy_79 rfl rfl ?_
  obtain ⟨b16, H⟩ := ck_x H
  refine j_iaload (pc := 80) dX12_toldBy_80 rfl b16 rfl ?_
  refine j_aload_n (pc := 81) dX12_toldBy_81 rfl ?_
  refine j_getR (pc := 82) (b := 23) dX12_toldBy_82 flX12_85 rfl ?_
  refine j_iload (pc := 85) dX12_toldBy_85 rfl ?_
  obtain ⟨b17, H⟩ := ck_x H
  refine j_iaload (pc := 87) dX12_toldBy_87 rfl b17 rfl ?_
  refine j_bipush (pc := 88) (v := 118) dX12_toldBy_88 (by decide) ?_
  refine j_icmp_ne (pc := 90) (tgt := 99) dX12_toldBy_90 (by decide) (fun c18 => ?_) (fun c18 => ?_)
  · rw [if_neg c18] at H
    refine j_iload (pc := 99) dX12_toldBy_99 rfl ?_
    refine Jx.sub (L' := [some (.ref 0), some (.int v1), some (.int v2), some (.int v3), some (.int v4), some (.int v5), some (.int v6), some (.int s0)]) (⟨rfl, ⟨rfl, ⟨rfl, ⟨rfl, ⟨rfl, ⟨rfl, ⟨rfl, ⟨rfl, trivial⟩⟩⟩⟩⟩⟩⟩⟩) ?_
    exact jX12_toldBy_101 _ hk7 v1 v2 v3 v4 v5 v6 s0 s0 ((gI h 5 (gI h 23 (v6 + (1 : Int32)).toNatClampNeg).toNatClampNeg)) ((gI h 23 (v6 + (1 : Int32)).toNatClampNeg)) h H
  · rw [if_pos c18] at H
    refine j_iload (pc := 93) dX12_toldBy_93 rfl ?_
    refine j_ineg (pc := 95) dX12_toldBy_95 ?_
    refine j_goto (pc := 96) (tgt := 101) dX12_toldBy_96 (by decide) ?_
    refine Jx.sub (L' := [some (.ref 0), some (.int v1), some (.int v2), some (.int v3), some (.int v4), some (.int v5), some (.int v6), some (.int s0)]) (⟨rfl, ⟨rfl, ⟨rfl, ⟨rfl, ⟨rfl, ⟨rfl, ⟨rfl, ⟨rfl, trivial⟩⟩⟩⟩⟩⟩⟩⟩) ?_
    exact jX12_toldBy_101 _ hk7 v1 v2 v3 v4 v5 v6 s0 ((-s0)) ((gI h 5 (gI h 23 (v6 + (1 : Int32)).toNatClampNeg).toNatClampNeg)) ((gI h 23 (v6 + (1 : Int32)).toNatClampNeg)) h H
noncomputable def fX12_toldBy_7 : Nat → Int32 → Int32 → Int32 → Int32 → Int32 → HS → Option (Int32 × HS)
  | 0, _, _, _, _, _, _ => none
  | n + 1, v1, v2, v3, v4, v5, h => ck (inb v1 6) (if (gI h 22 v1.toNatClampNeg) ≤ v5 then (if v4 = 0 then (bd (fX12_heavyAt v3 h) (fun r8 h7 => fX12_toldBy_161 r8 h7)) else (bd (fX12_momentOf ((v4 - (1 : Int32))) h) (fun r6 h5 => fX12_toldBy_161 r6 h5))) else (nm (((4 : Int32) * (((16 : Int32) * v1) + v5))) (fun v6_9 => ck (inb v6_9 384) (if (gI h 23 v6_9.toNatClampNeg) = (98 : Int32) then (ck (inb (v6_9 + (3 : Int32)) 384) (fX12_toldBy_64 (fX12_toldBy_7 n) v1 v2 v3 v4 v5 v6_9 ((gI h 23 (v6_9 + (3 : Int32)).toNatClampNeg)) h)) else (ck (inb (v6_9 + (3 : Int32)) 384) (fX12_toldBy_64 (fX12_toldBy_7 n) v1 v2 v3 v4 v5 v6_9 (((gI h 23 (v6_9 + (3 : Int32)).toNatClampNeg) * v2)) h))))))
set_option maxRecDepth 100000 in
theorem jX12_toldBy_7 {r : Int32} {h0 : HS} : ∀ (n : Nat) (v1 : Int32) (v2 : Int32) (v3 : Int32) (v4 : Int32) (v5 : Int32) (h : HS), fX12_toldBy_7 n v1 v2 v3 v4 v5 h = some (r, h0) → Jx skM RX12 cX12_toldBy 8 (some .int) 3 (some (.int r)) h0 7 [some (.ref 0), some (.int v1), some (.int v2), some (.int v3), some (.int v4), some (.int v5), none, none] [] h := by
  intro n
  induction n with
  | zero => intro v1 v2 v3 v4 v5  h H; cases H
  | succ n ih =>
    intro v1 v2 v3 v4 v5  h H
    rw [fX12_toldBy_7] at H
    refine j_iload (pc := 7) dX12_toldBy_7 rfl ?_
    refine j_aload_n (pc := 9) dX12_toldBy_9 rfl ?_
    refine j_getR (pc := 10) (b := 22) dX12_toldBy_10 flX12_82 rfl ?_
    refine j_iload_n (pc := 13) dX12_toldBy_13 rfl ?_
    obtain ⟨b2, H⟩ := ck_x H
    refine j_iaload (pc := 14) dX12_toldBy_14 rfl b2 rfl ?_
    refine j_icmp_ge (pc := 15) (tgt := 140) dX12_toldBy_15 (by decide) (fun c3 => ?_) (fun c3 => ?_)
    · rw [if_pos c3] at H
      refine j_iload (pc := 140) dX12_toldBy_140 rfl ?_
      refine j_if_ne (pc := 142) (tgt := 153) dX12_toldBy_142 (by decide) (fun c4 => ?_) (fun c4 => ?_)
      · rw [if_neg c4] at H
        refine j_aload_n (pc := 153) dX12_toldBy_153 rfl ?_
        refine j_iload (pc := 154) dX12_toldBy_154 rfl ?_
        refine j_iconst (pc := 156) (v := 1) dX12_toldBy_156 (by decide) ?_
        refine j_isub (pc := 157) dX12_toldBy_157 ?_
        obtain ⟨r6, h5, eh5, H⟩ := bd_x H
        refine j_callV (pc := 158) dX12_toldBy_158 mlX12_204 wyX12_momentOf (tX12_momentOf eh5) (by decide) rfl rfl rfl rfl (by simp [Value.category]) rfl ?_
        refine Jx.sub (L' := [some (.ref 0), none, none, none, none, none, none, none]) (⟨rfl, trivial⟩) ?_
        exact jX12_toldBy_161 r6 h5 H
      · rw [if_pos c4] at H
        refine j_aload_n (pc := 145) dX12_toldBy_145 rfl ?_
        refine j_iload_n (pc := 146) dX12_toldBy_146 rfl ?_
        obtain ⟨r8, h7, eh7, H⟩ := bd_x H
        refine j_callV (pc := 147) dX12_toldBy_147 mlX12_198 wyX12_heavyAt (tX12_heavyAt eh7) (by decide) rfl rfl rfl rfl (by simp [Value.category]) rfl ?_
        refine j_goto (pc := 150) (tgt := 161) dX12_toldBy_150 (by decide) ?_
        refine Jx.sub (L' := [some (.ref 0), none, none, none, none, none, none, none]) (⟨rfl, trivial⟩) ?_
        exact jX12_toldBy_161 r8 h7 H
    · rw [if_neg c3] at H
      refine j_iconst (pc := 18) (v := 4) dX12_toldBy_18 (by decide) ?_
      refine j_bipush (pc := 19) (v := 16) dX12_toldBy_19 (by decide) ?_
      refine j_iload_n (pc := 21) dX12_toldBy_21 rfl ?_
      refine j_imul (pc := 22) dX12_toldBy_22 ?_
      refine j_iload (pc := 23) dX12_toldBy_23 rfl ?_
      refine j_iadd (pc := 25) dX12_toldBy_25 ?_
      refine j_imul (pc := 26) dX12_toldBy_26 ?_
      obtain ⟨v6_9, ev6_9, H⟩ := nm_x H
      refine j_topi ev6_9 ?_
      refine j_istore (pc := 27) (L' := [some (.ref 0), some (.int v1), some (.int v2), some (.int v3), some (.int v4), some (.int v5), some (.int v6_9), none]) dX12_toldBy_27 (by decide) rfl ?_
      refine j_aload_n (pc := 29) dX12_toldBy_29 rfl ?_
      refine j_getR (pc := 30) (b := 23) dX12_toldBy_30 flX12_85 rfl ?_
      refine j_iload (pc := 33) dX12_toldBy_33 rfl ?_
      obtain ⟨b10, H⟩ := ck_x H
      refine j_iaload (pc := 35) dX12_toldBy_35 rfl b10 rfl ?_
      refine j_bipush (pc := 36) (v := 98) dX12_toldBy_36 (by decide) ?_
      refine j_icmp_ne (pc := 38) (tgt := 53) dX12_toldBy_38 (by decide) (fun c11 => ?_) (fun c11 => ?_)
      · rw [if_neg c11] at H
        refine j_aload_n (pc := 53) dX12_toldBy_53 rfl ?_
        refine j_getR (pc := 54) (b := 23) dX12_toldBy_54 flX12_85 rfl ?_
        refine j_iload (pc := 57) dX12_toldBy_57 rfl ?_
        refine j_iconst (pc := 59) (v := 3) dX12_toldBy_59 (by decide) ?_
        refine j_iadd (pc := 60) dX12_toldBy_60 ?_
        obtain ⟨b12, H⟩ := ck_x H
        refine j_iaload (pc := 61) dX12_toldBy_61 rfl b12 rfl ?_
        refine j_iload_n (pc := 62) dX12_toldBy_62 rfl ?_
        refine j_imul (pc := 63) dX12_toldBy_63 ?_
        refine Jx.sub (L' := [some (.ref 0), some (.int v1), some (.int v2), some (.int v3), some (.int v4), some (.int v5), some (.int v6_9), none]) (⟨rfl, ⟨rfl, ⟨rfl, ⟨rfl, ⟨rfl, ⟨rfl, ⟨rfl, trivial⟩⟩⟩⟩⟩⟩⟩) ?_
        exact jX12_toldBy_64 _ ih v1 v2 v3 v4 v5 v6_9 (((gI h 23 (v6_9 + (3 : Int32)).toNatClampNeg) * v2)) h H
      · rw [if_pos c11] at H
        refine j_aload_n (pc := 41) dX12_toldBy_41 rfl ?_
        refine j_getR (pc := 42) (b := 23) dX12_toldBy_42 flX12_85 rfl ?_
        refine j_iload (pc := 45) dX12_toldBy_45 rfl ?_
        refine j_iconst (pc := 47) (v := 3) dX12_toldBy_47 (by decide) ?_
        refine j_iadd (pc := 48) dX12_toldBy_48 ?_
        obtain ⟨b13, H⟩ := ck_x H
        refine j_iaload (pc := 49) dX12_toldBy_49 rfl b13 rfl ?_
        refine j_goto (pc := 50) (tgt := 64) dX12_toldBy_50 (by decide) ?_
        refine Jx.sub (L' := [some (.ref 0), some (.int v1), some (.int v2), some (.int v3), some (.int v4), some (.int v5), some (.int v6_9), none]) (⟨rfl, ⟨rfl, ⟨rfl, ⟨rfl, ⟨rfl, ⟨rfl, ⟨rfl, trivial⟩⟩⟩⟩⟩⟩⟩) ?_
        exact jX12_toldBy_64 _ ih v1 v2 v3 v4 v5 v6_9 ((gI h 23 (v6_9 + (3 : Int32)).toNatClampNeg)) h H
noncomputable def fX12_toldBy (p1 : Int32) (p2 : Int32) (p3 : Int32) (p4 : Int32) (h : HS) : Option (Int32 × HS) := bv (fX12_push h) (fun h1 => fX12_toldBy_7 FU p1 p2 p3 p4 (0 : Int32) h1)
set_option maxRecDepth 100000 in
theorem tX12_toldBy {p1 : Int32} {p2 : Int32} {p3 : Int32} {p4 : Int32} {r : Int32} {h h0 : HS} (H : fX12_toldBy p1 p2 p3 p4 h = some (r, h0)) : Cn skM yX12_toldBy cX12_toldBy 8 (some .int) 3 [.ref 0, .int p1, .int p2, .int p3, .int p4] h (some (.int r)) h0 := by
  refine Cn_of (L := [some (.ref 0), some (.int p1), some (.int p2), some (.int p3), some (.int p4), none, none, none]) (by decide +kernel) (by simp [lg_sl, Value.category]) (fun ad => by simp [lg_sl, tv, Value.category]) (⟨rfl, ⟨rfl, ⟨rfl, ⟨rfl, ⟨rfl, trivial⟩⟩⟩⟩⟩) ?_
  unfold fX12_toldBy at H
  refine j_aload_n (pc := 0) dX12_toldBy_0 rfl ?_
  obtain ⟨h1, eh1, H⟩ := bv_x H
  refine j_callV (pc := 1) dX12_toldBy_1 mlX12_292 wyX12_push (tX12_push eh1) (by decide) rfl rfl rfl rfl (by simp [Value.category]) rfl ?_
  refine j_iconst (pc := 4) (v := 0) dX12_toldBy_4 (by decide) ?_
  refine j_istore (pc := 5) (L' := [some (.ref 0), some (.int p1), some (.int p2), some (.int p3), some (.int p4), some (.int (0 : Int32)), none, none]) dX12_toldBy_5 (by decide) rfl ?_
  refine Jx.sub (L' := [some (.ref 0), some (.int p1), some (.int p2), some (.int p3), some (.int p4), some (.int (0 : Int32)), none, none]) (⟨rfl, ⟨rfl, ⟨rfl, ⟨rfl, ⟨rfl, ⟨rfl, trivial⟩⟩⟩⟩⟩⟩) ?_
  exact jX12_toldBy_7 FU p1 p2 p3 p4 (0 : Int32) h1 H

noncomputable def fX12_tells_59 (h : HS) : Option (Int32 × HS) := bd (fX12_lost h) (fun r17 h16 => some (r17, h16))
set_option maxRecDepth 100000 in
theorem jX12_tells_59 {r : Int32} {h0 : HS} (h : HS) (H : fX12_tells_59 h = some (r, h0)) : Jx skM RX12 cX12_tells 5 (some .int) 4 (some (.int r)) h0 59 [some (.ref 0), none, none, none, none] [] h := by
  unfold fX12_tells_59 at H
  refine j_aload_n (pc := 59) dX12_tells_59 rfl ?_
  obtain ⟨r17, h16, eh16, H⟩ := bd_x H
  refine j_callV (pc := 60) dX12_tells_60 mlX12_184 wyX12_lost (tX12_lost eh16) (by decide) rfl rfl rfl rfl (by simp [Value.category]) rfl ?_
  exact j_ireturn (pc := 63) dX12_tells_63 rfl (ri_1 H) (ri_2 H)
noncomputable def fX12_tells (p1 : Int32) (p2 : Int32) (p3 : Int32) (p4 : Int32) (h : HS) : Option (Int32 × HS) := nm (pI h 0 22 (0 : Int32)) (fun h1 => bd (fX12_in p1 (0 : Int32) (((gI h1 0 50) - (1 : Int32))) h1) (fun r3 h2 => if r3 = 0 then (fX12_tells_59 h2) else (bd (fX12_in p2 (0 : Int32) (200 : Int32) h2) (fun r6 h5 => if r6 = 0 then (fX12_tells_59 h5) else (bd (fX12_isDepth p3 h5) (fun r9 h8 => if r9 = 0 then (fX12_tells_59 h8) else (bd (fX12_in p4 (0 : Int32) (2 : Int32) h8) (fun r12 h11 => if r12 = 0 then (fX12_tells_59 h11) else (bd (fX12_toldBy p1 p2 p3 p4 h11) (fun r15 h14 => some (r15, h14)))))))))))
set_option maxRecDepth 100000 in
theorem tX12_tells {p1 : Int32} {p2 : Int32} {p3 : Int32} {p4 : Int32} {r : Int32} {h h0 : HS} (H : fX12_tells p1 p2 p3 p4 h = some (r, h0)) : Cn skM yX12_tells cX12_tells 5 (some .int) 4 [.ref 0, .int p1, .int p2, .int p3, .int p4] h (some (.int r)) h0 := by
  refine Cn_of (L := [some (.ref 0), some (.int p1), some (.int p2), some (.int p3), some (.int p4)]) (by decide +kernel) (by simp [lg_sl, Value.category]) (fun ad => by simp [lg_sl, tv, Value.category]) (⟨rfl, ⟨rfl, ⟨rfl, ⟨rfl, ⟨rfl, trivial⟩⟩⟩⟩⟩) ?_
  unfold fX12_tells at H
  refine j_aload_n (pc := 0) dX12_tells_0 rfl ?_
  refine j_iconst (pc := 1) (v := 0) dX12_tells_1 (by decide) ?_
  obtain ⟨h1, eh1, H⟩ := nm_x H
  refine j_putI (pc := 2) dX12_tells_2 fpX12_133 rfl h1 eh1 ?_
  refine j_iload_n (pc := 5) dX12_tells_5 rfl ?_
  refine j_iconst (pc := 6) (v := 0) dX12_tells_6 (by decide) ?_
  refine j_aload_n (pc := 7) dX12_tells_7 rfl ?_
  refine j_getI (pc := 8) dX12_tells_8 flX12_345 rfl ?_
  refine j_iconst (pc := 11) (v := 1) dX12_tells_11 (by decide) ?_
  refine j_isub (pc := 12) dX12_tells_12 ?_
  obtain ⟨r3, h2, eh2, H⟩ := bd_x H
  refine j_callS (pc := 13) dX12_tells_13 mlX12_142 wyX12_in (tX12_in eh2) (by decide) rfl (by simp [Value.category]) rfl ?_
  refine j_if_eq (pc := 16) (tgt := 59) dX12_tells_16 (by decide) (fun c4 => ?_) (fun c4 => ?_)
  · rw [if_pos c4] at H
    refine Jx.sub (L' := [some (.ref 0), none, none, none, none]) (⟨rfl, trivial⟩) ?_
    exact jX12_tells_59 h2 H
  · rw [if_neg c4] at H
    refine j_iload_n (pc := 19) dX12_tells_19 rfl ?_
    refine j_iconst (pc := 20) (v := 0) dX12_tells_20 (by decide) ?_
    refine j_sipush (pc := 21) (v := 200) dX12_tells_21 (by decide) ?_
    obtain ⟨r6, h5, eh5, H⟩ := bd_x H
    refine j_callS (pc := 24) dX12_tells_24 mlX12_142 wyX12_in (tX12_in eh5) (by decide) rfl (by simp [Value.category]) rfl ?_
    refine j_if_eq (pc := 27) (tgt := 59) dX12_tells_27 (by decide) (fun c7 => ?_) (fun c7 => ?_)
    · rw [if_pos c7] at H
      refine Jx.sub (L' := [some (.ref 0), none, none, none, none]) (⟨rfl, trivial⟩) ?_
      exact jX12_tells_59 h5 H
    · rw [if_neg c7] at H
      refine j_iload_n (pc := 30) dX12_tells_30 rfl ?_
      obtain ⟨r9, h8, eh8, H⟩ := bd_x H
      refine j_callS (pc := 31) dX12_tells_31 mlX12_178 wyX12_isDepth (tX12_isDepth eh8) (by decide) rfl (by simp [Value.category]) rfl ?_
      refine j_if_eq (pc := 34) (tgt := 59) dX12_tells_34 (by decide) (fun c10 => ?_) (fun c10 => ?_)
      · rw [if_pos c10] at H
        refine Jx.sub (L' := [some (.ref 0), none, none, none, none]) (⟨rfl, trivial⟩) ?_
        exact jX12_tells_59 h8 H
      · rw [if_neg c10] at H
        refine j_iload (pc := 37) dX12_tells_37 rfl ?_
        refine j_iconst (pc := 39) (v := 0) dX12_tells_39 (by decide) ?_
        refine j_iconst (pc := 40) (v := 2) dX12_tells_40 (by decide) ?_
        obtain ⟨r12, h11, eh11, H⟩ := bd_x H
        refine j_callS (pc := 41) dX12_tells_41 mlX12_142 wyX12_in (tX12_in eh11) (by decide) rfl (by simp [Value.category]) rfl ?_
        refine j_if_eq (pc := 44) (tgt := 59) dX12_tells_44 (by decide) (fun c13 => ?_) (fun c13 => ?_)
        · rw [if_pos c13] at H
          refine Jx.sub (L' := [some (.ref 0), none, none, none, none]) (⟨rfl, trivial⟩) ?_
          exact jX12_tells_59 h11 H
        · rw [if_neg c13] at H
          refine j_aload_n (pc := 47) dX12_tells_47 rfl ?_
          refine j_iload_n (pc := 48) dX12_tells_48 rfl ?_
          refine j_iload_n (pc := 49) dX12_tells_49 rfl ?_
          refine j_iload_n (pc := 50) dX12_tells_50 rfl ?_
          refine j_iload (pc := 51) dX12_tells_51 rfl ?_
          obtain ⟨r15, h14, eh14, H⟩ := bd_x H
          refine j_callV (pc := 53) dX12_tells_53 mlX12_354 wyX12_toldBy (tX12_toldBy eh14) (by decide) rfl rfl rfl rfl (by simp [Value.category]) rfl ?_
          refine j_goto (pc := 56) (tgt := 63) dX12_tells_56 (by decide) ?_
          exact j_ireturn (pc := 63) dX12_tells_63 rfl (ri_1 H) (ri_2 H)

noncomputable def fX12_letting_121 (k4 : Int32 → Int32 → Int32 → HS → Option (Int32 × HS)) (v1 : Int32) (v3 : Int32) (s1 : Int32) (s0 : Int32) (h : HS) : Option (Int32 × HS) := nm ((s0 ||| s1)) (fun v2_18 => nm (v3 + (1 : Int32)) (fun v3_19 => k4 v1 v2_18 v3_19 h))
set_option maxRecDepth 100000 in
theorem jX12_letting_121 {r : Int32} {h0 : HS} (k4 : Int32 → Int32 → Int32 → HS → Option (Int32 × HS)) (hk4 : ∀ (v1 : Int32) (v2 : Int32) (v3 : Int32) (h : HS), k4 v1 v2 v3 h = some (r, h0) → Jx skM RX12 cX12_letting 7 (some .int) 4 (some (.int r)) h0 4 [some (.ref 0), some (.int v1), some (.int v2), some (.int v3), none, none, none] [] h) (v1 : Int32) (v3 : Int32) (s1 : Int32) (s0 : Int32) (h : HS) (H : fX12_letting_121 k4 v1 v3 s1 s0 h = some (r, h0)) : Jx skM RX12 cX12_letting 7 (some .int) 4 (some (.int r)) h0 121 [some (.ref 0), some (.int v1), none, some (.int v3), none, none, none] [.int s1, .int s0] h := by
  unfold fX12_letting_121 at H
  refine j_ior (pc := 121) dX12_letting_121 ?_
  obtain ⟨v2_18, ev2_18, H⟩ := nm_x H
  refine j_topi ev2_18 ?_
  refine j_istore_n (pc := 122) (L' := [some (.ref 0), some (.int v1), some (.int v2_18), some (.int v3), none, none, none]) dX12_letting_122 (by decide) rfl ?_
  obtain ⟨v3_19, ev3_19, H⟩ := nm_x H
  refine j_iinc (pc := 123) (L' := [some (.ref 0), some (.int v1), some (.int v2_18), some (.int v3_19), none, none, none]) (w := 1) dX12_letting_123 rfl (by decide) (by decide) v3_19 ev3_19 rfl ?_
  refine j_goto (pc := 126) (tgt := 4) dX12_letting_126 (by decide) ?_
  refine Jx.sub (L' := [some (.ref 0), some (.int v1), some (.int v2_18), some (.int v3_19), none, none, none]) (⟨rfl, ⟨rfl, ⟨rfl, ⟨rfl, trivial⟩⟩⟩⟩) ?_
  exact hk4 v1 v2_18 v3_19 h H
noncomputable def fX12_letting_100 (k4 : Int32 → Int32 → Int32 → HS → Option (Int32 × HS)) (k25 : Int32 → Int32 → Int32 → Int32 → Int32 → HS → Option (Int32 × HS)) (v1 : Int32) (v2 : Int32) (v3 : Int32) (v5 : Int32) (s0 : Int32) (h : HS) : Option (Int32 × HS) := nm (v5 + (1 : Int32)) (fun v5_20 => k25 v1 v2 v3 s0 v5_20 h)
set_option maxRecDepth 100000 in
theorem jX12_letting_100 {r : Int32} {h0 : HS} (k4 : Int32 → Int32 → Int32 → HS → Option (Int32 × HS)) (k25 : Int32 → Int32 → Int32 → Int32 → Int32 → HS → Option (Int32 × HS)) (hk4 : ∀ (v1 : Int32) (v2 : Int32) (v3 : Int32) (h : HS), k4 v1 v2 v3 h = some (r, h0) → Jx skM RX12 cX12_letting 7 (some .int) 4 (some (.int r)) h0 4 [some (.ref 0), some (.int v1), some (.int v2), some (.int v3), none, none, none] [] h) (hk25 : ∀ (v1 : Int32) (v2 : Int32) (v3 : Int32) (v4 : Int32) (v5 : Int32) (h : HS), k25 v1 v2 v3 v4 v5 h = some (r, h0) → Jx skM RX12 cX12_letting 7 (some .int) 4 (some (.int r)) h0 25 [some (.ref 0), some (.int v1), some (.int v2), some (.int v3), some (.int v4), some (.int v5), none] [] h) (v1 : Int32) (v2 : Int32) (v3 : Int32) (v5 : Int32) (s0 : Int32) (h : HS) (H : fX12_letting_100 k4 k25 v1 v2 v3 v5 s0 h = some (r, h0)) : Jx skM RX12 cX12_letting 7 (some .int) 4 (some (.int r)) h0 100 [some (.ref 0), some (.int v1), some (.int v2), some (.int v3), none, some (.int v5), none] [.int s0] h := by
  unfold fX12_letting_100 at H
  refine j_istore (pc := 100) (L' := [some (.ref 0), some (.int v1), some (.int v2), some (.int v3), some (.int s0), some (.int v5), none]) dX12_letting_100 (by decide) rfl ?_
  obtain ⟨v5_20, ev5_20, H⟩ := nm_x H
  refine j_iinc (pc := 102) (L' := [some (.ref 0), some (.int v1), some (.int v2), some (.int v3), some (.int s0), some (.int v5_20), none]) (w := 1) dX12_letting_102 rfl (by decide) (by decide) v5_20 ev5_20 rfl ?_
  refine j_goto (pc := 105) (tgt := 25) dX12_letting_105 (by decide) ?_
  refine Jx.sub (L' := [some (.ref 0), some (.int v1), some (.int v2), some (.int v3), some (.int s0), some (.int v5_20), none]) (⟨rfl, ⟨rfl, ⟨rfl, ⟨rfl, ⟨rfl, ⟨rfl, trivial⟩⟩⟩⟩⟩⟩) ?_
  exact hk25 v1 v2 v3 s0 v5_20 h H
noncomputable def fX12_letting_99 (k4 : Int32 → Int32 → Int32 → HS → Option (Int32 × HS)) (k25 : Int32 → Int32 → Int32 → Int32 → Int32 → HS → Option (Int32 × HS)) (v1 : Int32) (v2 : Int32) (v3 : Int32) (v5 : Int32) (h : HS) : Option (Int32 × HS) := fX12_letting_100 k4 k25 v1 v2 v3 v5 (0 : Int32) h
set_option maxRecDepth 100000 in
theorem jX12_letting_99 {r : Int32} {h0 : HS} (k4 : Int32 → Int32 → Int32 → HS → Option (Int32 × HS)) (k25 : Int32 → Int32 → Int32 → Int32 → Int32 → HS → Option (Int32 × HS)) (hk4 : ∀ (v1 : Int32) (v2 : Int32) (v3 : Int32) (h : HS), k4 v1 v2 v3 h = some (r, h0) → Jx skM RX12 cX12_letting 7 (some .int) 4 (some (.int r)) h0 4 [some (.ref 0), some (.int v1), some (.int v2), some (.int v3), none, none, none] [] h) (hk25 : ∀ (v1 : Int32) (v2 : Int32) (v3 : Int32) (v4 : Int32) (v5 : Int32) (h : HS), k25 v1 v2 v3 v4 v5 h = some (r, h0) → Jx skM RX12 cX12_letting 7 (some .int) 4 (some (.int r)) h0 25 [some (.ref 0), some (.int v1), some (.int v2), some (.int v3), some (.int v4), some (.int v5), none] [] h) (v1 : Int32) (v2 : Int32) (v3 : Int32) (v5 : Int32) (h : HS) (H : fX12_letting_99 k4 k25 v1 v2 v3 v5 h = some (r, h0)) : Jx skM RX12 cX12_letting 7 (some .int) 4 (some (.int r)) h0 99 [some (.ref 0), some (.int v1), some (.int v2), some (.int v3), none, some (.int v5), none] [] h := by
  unfold fX12_letting_99 at H
  refine j_iconst (pc := 99) (v := 0) dX12_letting_99 (by decide) ?_
  refine Jx.sub (L' := [some (.ref 0), some (.int v1), some (.int v2), some (.int v3), none, some (.int v5), none]) (⟨rfl, ⟨rfl, ⟨rfl, ⟨rfl, ⟨rfl, trivial⟩⟩⟩⟩⟩) ?_
  exact jX12_letting_100 _ _ hk4 hk25 v1 v2 v3 v5 (0 : Int32) h H
noncomputable def fX12_letting_25 (k4 : Int32 → Int32 → Int32 → HS → Option (Int32 × HS)) : Nat → Int32 → Int32 → Int32 → Int32 → Int32 → HS → Option (Int32 × HS)
  | 0, _, _, _, _, _, _ => none
  | n + 1, v1, v2, v3, v4, v5, h => if (gI h 0 53) ≤ v5 then (if v4 = 0 then (fX12_letting_121 k4 v1 v3 (0 : Int32) v2 h) else (fX12_letting_121 k4 v1 v3 (((1 : Int32) <<< (v3 &&& 31))) v2 h)) else (ck (inb v5 12) (ck (inb v5 12) (ck (inb v5 12) (bd (fX12_toldBy v3 ((gI h 24 v5.toNatClampNeg)) ((gI h 25 v5.toNatClampNeg)) ((gI h 26 v5.toNatClampNeg)) h) (fun r10 h9 => ck (inb v5 12) (nm ((iabs (r10 - (gI h9 27 v5.toNatClampNeg)))) (fun v6_12 => ck (inb v3 6) (ck (inb v3 6) (nm (pI h9 28 v3.toNatClampNeg ((gI h9 28 v3.toNatClampNeg) + v6_12)) (fun h14 => if v4 = 0 then (fX12_letting_99 k4 (fX12_letting_25 k4 n) v1 v2 v3 v5 h14) else (if v1 < v6_12 then (fX12_letting_99 k4 (fX12_letting_25 k4 n) v1 v2 v3 v5 h14) else (fX12_letting_100 k4 (fX12_letting_25 k4 n) v1 v2 v3 v5 (1 : Int32) h14))))))))))))
set_option maxRecDepth 100000 in
theorem jX12_letting_25 {r : Int32} {h0 : HS} (k4 : Int32 → Int32 → Int32 → HS → Option (Int32 × HS)) (hk4 : ∀ (v1 : Int32) (v2 : Int32) (v3 : Int32) (h : HS), k4 v1 v2 v3 h = some (r, h0) → Jx skM RX12 cX12_letting 7 (some .int) 4 (some (.int r)) h0 4 [some (.ref 0), some (.int v1), some (.int v2), some (.int v3), none, none, none] [] h) : ∀ (n : Nat) (v1 : Int32) (v2 : Int32) (v3 : Int32) (v4 : Int32) (v5 : Int32) (h : HS), fX12_letting_25 k4 n v1 v2 v3 v4 v5 h = some (r, h0) → Jx skM RX12 cX12_letting 7 (some .int) 4 (some (.int r)) h0 25 [some (.ref 0), some (.int v1), some (.int v2), some (.int v3), some (.int v4), some (.int v5), none] [] h := by
  intro n
  induction n with
  | zero => intro v1 v2 v3 v4 v5  h H; cases H
  | succ n ih =>
    intro v1 v2 v3 v4 v5  h H
    rw [fX12_letting_25] at H
    refine j_iload (pc := 25) dX12_letting_25 rfl ?_
    refine j_aload_n (pc := 27) dX12_letting_27 rfl ?_
    refine j_getI (pc := 28) dX12_letting_28 flX12_351 rfl ?_
    refine j_icmp_ge (pc := 31) (tgt := 108) dX12_letting_31 (by decide) (fun c4 => ?_) (fun c4 => ?_)
    · rw [if_pos c4] at H
      refine j_iload_n (pc := 108) dX12_letting_108 rfl ?_
      refine j_iload (pc := 109) dX12_letting_109 rfl ?_
      refine j_if_eq (pc := 111) (tgt := 120) dX12_letting_111 (by decide) (fun c5 => ?_) (fun c5 => ?_)
      · rw [if_pos c5] at H
        refine j_iconst (pc := 120) (v := 0) dX12_letting_120 (by decide) ?_
        refine Jx.sub (L' := [some (.ref 0), some (.int v1), none, some (.int v3), none, none, none]) (⟨rfl, ⟨rfl, ⟨rfl, trivial⟩⟩⟩) ?_
        exact jX12_letting_121 _ hk4 v1 v3 (0 : Int32) v2 h H
      · rw [if_neg c5] at H
        refine j_iconst (pc := 114) (v := 1) dX12_letting_114 (by decide) ?_
        refine j_iload_n (pc := 115) dX12_letting_115 rfl ?_
        refine j_ishl (pc := 116) dX12_letting_116 ?_
        refine j_goto (pc := 117) (tgt := 121) dX12_letting_117 (by decide) ?_
        refine Jx.sub (L' := [some (.ref 0), some (.int v1), none, some (.int v3), none, none, none]) (⟨rfl, ⟨rfl, ⟨rfl, trivial⟩⟩⟩) ?_
        exact jX12_letting_121 _ hk4 v1 v3 (((1 : Int32) <<< (v3 &&& 31))) v2 h H
    · rw [if_neg c4] at H
      refine j_aload_n (pc := 34) dX12_letting_34 rfl ?_
      refine j_iload_n (pc := 35) dX12_letting_35 rfl ?_
      refine j_aload_n (pc := 36) dX12_letting_36 rfl ?_
      refine j_getR (pc := 37) (b := 24) dX12_letting_37 flX12_88 rfl ?_
      refine j_iload (pc := 40) dX12_letting_40 rfl ?_
      obtain ⟨b6, H⟩ := ck_x H
      refine j_iaload (pc := 42) dX12_letting_42 rfl b6 rfl ?_
      refine j_aload_n (pc := 43) dX12_letting_43 rfl ?_
      refine j_getR (pc := 44) (b := 25) dX12_letting_44 flX12_91 rfl ?_
      refine j_iload (pc := 47) dX12_letting_47 rfl ?_
      obtain ⟨b7, H⟩ := ck_x H
      refine j_iaload (pc := 49) dX12_letting_49 rfl b7 rfl ?_
      refine j_aload_n (pc := 50) dX12_letting_50 rfl ?_
      refine j_getR (pc := 51) (b := 26) dX12_letting_51 flX12_94 rfl ?_
      refine j_iload (pc := 54) dX12_letting_54 rfl ?_
      obtain ⟨b8, H⟩ := ck_x H
      refine j_iaload (pc := 56) dX12_letting_56 rfl b8 rfl ?_
      obtain ⟨r10, h9, eh9, H⟩ := bd_x H
      refine j_callV (pc := 57) dX12_letting_57 mlX12_354 wyX12_toldBy (tX12_toldBy eh9) (by decide) rfl rfl rfl rfl (by simp [Value.category]) rfl ?_
      refine j_aload_n (pc := 60) dX12_letting_60 rfl ?_
      refine j_getR (pc := 61) (b := 27) dX12_letting_61 flX12_97 rfl ?_
      refine j_iload (pc := 64) dX12_letting_64 rfl ?_
      obtain ⟨b11, H⟩ := ck_x H
      refine j_iaload (pc := 66) dX12_letting_66 rfl b11 rfl ?_
      refine j_isub (pc := 67) dX12_letting_67 ?_
      refine j_mabs (pc := 68) dX12_letting_68 wmX12_201 (by simp [Value.category]) ?_
      obtain ⟨v6_12, ev6_12, H⟩ := nm_x H
      refine j_topi ev6_12 ?_
      refine j_istore (pc := 71) (L' := [some (.ref 0), some (.int v1), some (.int v2), some (.int v3), some (.int v4), some (.int v5), some (.int v6_12)]) dX12_letting_71 (by decide) rfl ?_
      refine j_aload_n (pc := 73) dX12_letting_73 rfl ?_
      refine j_getR (pc := 74) (b := 28) dX12_letting_74 flX12_100 rfl ?_
      refine j_iload_n (pc := 77) dX12_letting_77 rfl ?_
      refine j_dup2 (pc := 78) dX12_letting_78 rfl rfl ?_
      obtain ⟨b13, H⟩ := ck_x H
      refine j_iaload (pc := 79) dX12_letting_79 rfl b13 rfl ?_
      refine j_iload (pc := 80) dX12_letting_80 rfl ?_
      refine j_iadd (pc := 82) dX12_letting_82 ?_
      obtain ⟨b15, H⟩ := ck_x H
      obtain ⟨h14, eh14, H⟩ := nm_x H
      refine j_iastore (pc := 83) dX12_letting_83 rfl b15 rfl h14 eh14 ?_
      refine j_iload (pc := 84) dX12_letting_84 rfl ?_
      refine j_if_eq (pc := 86) (tgt := 99) dX12_letting_86 (by decide) (fun c16 => ?_) (fun c16 => ?_)
      · rw [if_pos c16] at H
        refine Jx.sub (L' := [some (.ref 0), some (.int v1), some (.int v2), some (.int v3), none, some (.int v5), none]) (⟨rfl, ⟨rfl, ⟨rfl, ⟨rfl, ⟨rfl, trivial⟩⟩⟩⟩⟩) ?_
        exact jX12_letting_99 _ _ hk4 ih v1 v2 v3 v5 h14 H
      · rw [if_neg c16] at H
        refine j_iload (pc := 89) dX12_letting_89 rfl ?_
        refine j_iload_n (pc := 91) dX12_letting_91 rfl ?_
        refine j_icmp_gt (pc := 92) (tgt := 99) dX12_letting_92 (by decide) (fun c17 => ?_) (fun c17 => ?_)
        · rw [if_pos c17] at H
          refine Jx.sub (L' := [some (.ref 0), some (.int v1), some (.int v2), some (.int v3), none, some (.int v5), none]) (⟨rfl, ⟨rfl, ⟨rfl, ⟨rfl, ⟨rfl, trivial⟩⟩⟩⟩⟩) ?_
          exact jX12_letting_99 _ _ hk4 ih v1 v2 v3 v5 h14 H
        · rw [if_neg c17] at H
          refine j_iconst (pc := 95) (v := 1) dX12_letting_95 (by decide) ?_
          refine j_goto (pc := 96) (tgt := 100) dX12_letting_96 (by decide) ?_
          refine Jx.sub (L' := [some (.ref 0), some (.int v1), some (.int v2), some (.int v3), none, some (.int v5), none]) (⟨rfl, ⟨rfl, ⟨rfl, ⟨rfl, ⟨rfl, trivial⟩⟩⟩⟩⟩) ?_
          exact jX12_letting_100 _ _ hk4 ih v1 v2 v3 v5 (1 : Int32) h14 H
noncomputable def fX12_letting_4 : Nat → Int32 → Int32 → Int32 → HS → Option (Int32 × HS)
  | 0, _, _, _, _ => none
  | n + 1, v1, v2, v3, h => if (gI h 0 50) ≤ v3 then (some (v2, h)) else (ck (inb v3 6) (nm (pI h 28 v3.toNatClampNeg (0 : Int32)) (fun h2 => fX12_letting_25 (fX12_letting_4 n) FU v1 v2 v3 (1 : Int32) (0 : Int32) h2)))
set_option maxRecDepth 100000 in
theorem jX12_letting_4 {r : Int32} {h0 : HS} : ∀ (n : Nat) (v1 : Int32) (v2 : Int32) (v3 : Int32) (h : HS), fX12_letting_4 n v1 v2 v3 h = some (r, h0) → Jx skM RX12 cX12_letting 7 (some .int) 4 (some (.int r)) h0 4 [some (.ref 0), some (.int v1), some (.int v2), some (.int v3), none, none, none] [] h := by
  intro n
  induction n with
  | zero => intro v1 v2 v3  h H; cases H
  | succ n ih =>
    intro v1 v2 v3  h H
    rw [fX12_letting_4] at H
    refine j_iload_n (pc := 4) dX12_letting_4 rfl ?_
    refine j_aload_n (pc := 5) dX12_letting_5 rfl ?_
    refine j_getI (pc := 6) dX12_letting_6 flX12_345 rfl ?_
    refine j_icmp_ge (pc := 9) (tgt := 129) dX12_letting_9 (by decide) (fun c1 => ?_) (fun c1 => ?_)
    · rw [if_pos c1] at H
      refine j_iload_n (pc := 129) dX12_letting_129 rfl ?_
      exact j_ireturn (pc := 130) dX12_letting_130 rfl (ri_1 H) (ri_2 H)
    · rw [if_neg c1] at H
      refine j_aload_n (pc := 12) dX12_letting_12 rfl ?_
      refine j_getR (pc := 13) (b := 28) dX12_letting_13 flX12_100 rfl ?_
      refine j_iload_n (pc := 16) dX12_letting_16 rfl ?_
      refine j_iconst (pc := 17) (v := 0) dX12_letting_17 (by decide) ?_
      obtain ⟨b3, H⟩ := ck_x H
      obtain ⟨h2, eh2, H⟩ := nm_x H
      refine j_iastore (pc := 18) dX12_letting_18 rfl b3 rfl h2 eh2 ?_
      refine j_iconst (pc := 19) (v := 1) dX12_letting_19 (by decide) ?_
      refine j_istore (pc := 20) (L' := [some (.ref 0), some (.int v1), some (.int v2), some (.int v3), some (.int (1 : Int32)), none, none]) dX12_letting_20 (by decide) rfl ?_
      refine j_iconst (pc := 22) (v := 0) dX12_letting_22 (by decide) ?_
      refine j_istore (pc := 23) (L' := [some (.ref 0), some (.int v1), some (.int v2), some (.int v3), some (.int (1 : Int32)), some (.int (0 : Int32)), none]) dX12_letting_23 (by decide) rfl ?_
      refine Jx.sub (L' := [some (.ref 0), some (.int v1), some (.int v2), some (.int v3), some (.int (1 : Int32)), some (.int (0 : Int32)), none]) (⟨rfl, ⟨rfl, ⟨rfl, ⟨rfl, ⟨rfl, ⟨rfl, trivial⟩⟩⟩⟩⟩⟩) ?_
      exact jX12_letting_25 _ ih FU v1 v2 v3 (1 : Int32) (0 : Int32) h2 H
noncomputable def fX12_letting (p1 : Int32) (h : HS) : Option (Int32 × HS) := fX12_letting_4 FU p1 (0 : Int32) (0 : Int32) h
set_option maxRecDepth 100000 in
theorem tX12_letting {p1 : Int32} {r : Int32} {h h0 : HS} (H : fX12_letting p1 h = some (r, h0)) : Cn skM yX12_letting cX12_letting 7 (some .int) 4 [.ref 0, .int p1] h (some (.int r)) h0 := by
  refine Cn_of (L := [some (.ref 0), some (.int p1), none, none, none, none, none]) (by decide +kernel) (by simp [lg_sl, Value.category]) (fun ad => by simp [lg_sl, tv, Value.category]) (⟨rfl, ⟨rfl, trivial⟩⟩) ?_
  unfold fX12_letting at H
  refine j_iconst (pc := 0) (v := 0) dX12_letting_0 (by decide) ?_
  refine j_istore_n (pc := 1) (L' := [some (.ref 0), some (.int p1), some (.int (0 : Int32)), none, none, none, none]) dX12_letting_1 (by decide) rfl ?_
  refine j_iconst (pc := 2) (v := 0) dX12_letting_2 (by decide) ?_
  refine j_istore_n (pc := 3) (L' := [some (.ref 0), some (.int p1), some (.int (0 : Int32)), some (.int (0 : Int32)), none, none, none]) dX12_letting_3 (by decide) rfl ?_
  refine Jx.sub (L' := [some (.ref 0), some (.int p1), some (.int (0 : Int32)), some (.int (0 : Int32)), none, none, none]) (⟨rfl, ⟨rfl, ⟨rfl, ⟨rfl, trivial⟩⟩⟩⟩) ?_
  exact jX12_letting_4 FU p1 (0 : Int32) (0 : Int32) h H

noncomputable def fX12_fits_30 : Nat → Int32 → Int32 → HS → Option (Int32 × HS)
  | 0, _, _, _ => none
  | n + 1, v2, v3, h => if (gI h 0 50) ≤ v3 then (some (v2, h)) else (ck (inb v3 6) (bv (fX12_tell ((gI h 28 v3.toNatClampNeg)) h) (fun h10 => nm (v3 + (1 : Int32)) (fun v3_11 => fX12_fits_30 n v2 v3_11 h10))))
set_option maxRecDepth 100000 in
theorem jX12_fits_30 {r : Int32} {h0 : HS} : ∀ (n : Nat) (v2 : Int32) (v3 : Int32) (h : HS), fX12_fits_30 n v2 v3 h = some (r, h0) → Jx skM RX12 cX12_fits 4 (some .int) 5 (some (.int r)) h0 30 [some (.ref 0), none, some (.int v2), some (.int v3)] [] h := by
  intro n
  induction n with
  | zero => intro v2 v3  h H; cases H
  | succ n ih =>
    intro v2 v3  h H
    rw [fX12_fits_30] at H
    refine j_iload_n (pc := 30) dX12_fits_30 rfl ?_
    refine j_aload_n (pc := 31) dX12_fits_31 rfl ?_
    refine j_getI (pc := 32) dX12_fits_32 flX12_345 rfl ?_
    refine j_icmp_ge (pc := 35) (tgt := 54) dX12_fits_35 (by decide) (fun c8 => ?_) (fun c8 => ?_)
    · rw [if_pos c8] at H
      refine j_iload_n (pc := 54) dX12_fits_54 rfl ?_
      exact j_ireturn (pc := 55) dX12_fits_55 rfl (ri_1 H) (ri_2 H)
    · rw [if_neg c8] at H
      refine j_aload_n (pc := 38) dX12_fits_38 rfl ?_
      refine j_aload_n (pc := 39) dX12_fits_39 rfl ?_
      refine j_getR (pc := 40) (b := 28) dX12_fits_40 flX12_100 rfl ?_
      refine j_iload_n (pc := 43) dX12_fits_43 rfl ?_
      obtain ⟨b9, H⟩ := ck_x H
      refine j_iaload (pc := 44) dX12_fits_44 rfl b9 rfl ?_
      obtain ⟨h10, eh10, H⟩ := bv_x H
      refine j_callV (pc := 45) dX12_fits_45 mlX12_210 wyX12_tell (tX12_tell eh10) (by decide) rfl rfl rfl rfl (by simp [Value.category]) rfl ?_
      obtain ⟨v3_11, ev3_11, H⟩ := nm_x H
      refine j_iinc (pc := 48) (L' := [some (.ref 0), none, some (.int v2), some (.int v3_11)]) (w := 1) dX12_fits_48 rfl (by decide) (by decide) v3_11 ev3_11 rfl ?_
      refine j_goto (pc := 51) (tgt := 30) dX12_fits_51 (by decide) ?_
      refine Jx.sub (L' := [some (.ref 0), none, some (.int v2), some (.int v3_11)]) (⟨rfl, ⟨rfl, ⟨rfl, trivial⟩⟩⟩) ?_
      exact ih v2 v3_11 h10 H
noncomputable def fX12_fits (p1 : Int32) (h : HS) : Option (Int32 × HS) := nm (pI h 0 22 (0 : Int32)) (fun h1 => bd (fX12_in p1 (0 : Int32) (99 : Int32) h1) (fun r3 h2 => if r3 = 0 then (some ((-1 : Int32), h2)) else (bd (fX12_letting p1 h2) (fun r6 h5 => nm (pI h5 0 21 (0 : Int32)) (fun h7 => fX12_fits_30 FU r6 (0 : Int32) h7)))))
set_option maxRecDepth 100000 in
theorem tX12_fits {p1 : Int32} {r : Int32} {h h0 : HS} (H : fX12_fits p1 h = some (r, h0)) : Cn skM yX12_fits cX12_fits 4 (some .int) 5 [.ref 0, .int p1] h (some (.int r)) h0 := by
  refine Cn_of (L := [some (.ref 0), some (.int p1), none, none]) (by decide +kernel) (by simp [lg_sl, Value.category]) (fun ad => by simp [lg_sl, tv, Value.category]) (⟨rfl, ⟨rfl, trivial⟩⟩) ?_
  unfold fX12_fits at H
  refine j_aload_n (pc := 0) dX12_fits_0 rfl ?_
  refine j_iconst (pc := 1) (v := 0) dX12_fits_1 (by decide) ?_
  obtain ⟨h1, eh1, H⟩ := nm_x H
  refine j_putI (pc := 2) dX12_fits_2 fpX12_133 rfl h1 eh1 ?_
  refine j_iload_n (pc := 5) dX12_fits_5 rfl ?_
  refine j_iconst (pc := 6) (v := 0) dX12_fits_6 (by decide) ?_
  refine j_bipush (pc := 7) (v := 99) dX12_fits_7 (by decide) ?_
  obtain ⟨r3, h2, eh2, H⟩ := bd_x H
  refine j_callS (pc := 9) dX12_fits_9 mlX12_142 wyX12_in (tX12_in eh2) (by decide) rfl (by simp [Value.category]) rfl ?_
  refine j_if_ne (pc := 12) (tgt := 17) dX12_fits_12 (by decide) (fun c4 => ?_) (fun c4 => ?_)
  · rw [if_neg c4] at H
    refine j_aload_n (pc := 17) dX12_fits_17 rfl ?_
    refine j_iload_n (pc := 18) dX12_fits_18 rfl ?_
    obtain ⟨r6, h5, eh5, H⟩ := bd_x H
    refine j_callV (pc := 19) dX12_fits_19 mlX12_358 wyX12_letting (tX12_letting eh5) (by decide) rfl rfl rfl rfl (by simp [Value.category]) rfl ?_
    refine j_istore_n (pc := 22) (L' := [some (.ref 0), some (.int p1), some (.int r6), none]) dX12_fits_22 (by decide) rfl ?_
    refine j_aload_n (pc := 23) dX12_fits_23 rfl ?_
    refine j_iconst (pc := 24) (v := 0) dX12_fits_24 (by decide) ?_
    obtain ⟨h7, eh7, H⟩ := nm_x H
    refine j_putI (pc := 25) dX12_fits_25 fpX12_136 rfl h7 eh7 ?_
    refine j_iconst (pc := 28) (v := 0) dX12_fits_28 (by decide) ?_
    refine j_istore_n (pc := 29) (L' := [some (.ref 0), some (.int p1), some (.int r6), some (.int (0 : Int32))]) dX12_fits_29 (by decide) rfl ?_
    refine Jx.sub (L' := [some (.ref 0), none, some (.int r6), some (.int (0 : Int32))]) (⟨rfl, ⟨rfl, ⟨rfl, trivial⟩⟩⟩) ?_
    exact jX12_fits_30 FU r6 (0 : Int32) h7 H
  · rw [if_pos c4] at H
    refine j_iconst (pc := 15) (v := -1) dX12_fits_15 (by decide) ?_
    exact j_ireturn (pc := 16) dX12_fits_16 rfl (ri_1 H) (ri_2 H)

noncomputable def fX12_look_222 (k53 : Int32 → Int32 → Int32 → Int32 → Int32 → Int32 → Int32 → HS → Option (Int32 × HS)) (k63 : Int32 → Int32 → Int32 → Int32 → Int32 → Int32 → Int32 → Int32 → HS → Option (Int32 × HS)) (v1 : Int32) (v2 : Int32) (v3 : Int32) (v7 : Int32) (v8 : Int32) (v9 : Int32) (h : HS) : Option (Int32 × HS) := nm (v8 + (1 : Int32)) (fun v8_29 => k63 v1 v2 v3 v9 v7 v8 v7 v8_29 h)
set_option maxRecDepth 100000 in
theorem jX12_look_222 {r : Int32} {h0 : HS} (k53 : Int32 → Int32 → Int32 → Int32 → Int32 → Int32 → Int32 → HS → Option (Int32 × HS)) (k63 : Int32 → Int32 → Int32 → Int32 → Int32 → Int32 → Int32 → Int32 → HS → Option (Int32 × HS)) (hk53 : ∀ (v1 : Int32) (v2 : Int32) (v3 : Int32) (v4 : Int32) (v5 : Int32) (v6 : Int32) (v7 : Int32) (h : HS), k53 v1 v2 v3 v4 v5 v6 v7 h = some (r, h0) → Jx skM RX12 cX12_look 13 (some .int) 5 (some (.int r)) h0 53 [some (.ref 0), some (.int v1), some (.int v2), some (.int v3), some (.int v4), some (.int v5), some (.int v6), some (.int v7), none, none, none, none, none] [] h) (hk63 : ∀ (v1 : Int32) (v2 : Int32) (v3 : Int32) (v4 : Int32) (v5 : Int32) (v6 : Int32) (v7 : Int32) (v8 : Int32) (h : HS), k63 v1 v2 v3 v4 v5 v6 v7 v8 h = some (r, h0) → Jx skM RX12 cX12_look 13 (some .int) 5 (some (.int r)) h0 63 [some (.ref 0), some (.int v1), some (.int v2), some (.int v3), some (.int v4), some (.int v5), some (.int v6), some (.int v7), some (.int v8), none, none, none, none] [] h) (v1 : Int32) (v2 : Int32) (v3 : Int32) (v7 : Int32) (v8 : Int32) (v9 : Int32) (h : HS) (H : fX12_look_222 k53 k63 v1 v2 v3 v7 v8 v9 h = some (r, h0)) : Jx skM RX12 cX12_look 13 (some .int) 5 (some (.int r)) h0 222 [some (.ref 0), some (.int v1), some (.int v2), some (.int v3), none, none, none, some (.int v7), some (.int v8), some (.int v9), none, none, none] [] h := by
  unfold fX12_look_222 at H
  refine j_iload (pc := 222) dX12_look_222 rfl ?_
  refine j_istore (pc := 224) (L' := [some (.ref 0), some (.int v1), some (.int v2), some (.int v3), some (.int v9), none, none, some (.int v7), some (.int v8), some (.int v9), none, none, none]) dX12_look_224 (by decide) rfl ?_
  refine j_iload (pc := 226) dX12_look_226 rfl ?_
  refine j_istore (pc := 228) (L' := [some (.ref 0), some (.int v1), some (.int v2), some (.int v3), some (.int v9), some (.int v7), none, some (.int v7), some (.int v8), some (.int v9), none, none, none]) dX12_look_228 (by decide) rfl ?_
  refine j_iload (pc := 230) dX12_look_230 rfl ?_
  refine j_istore (pc := 232) (L' := [some (.ref 0), some (.int v1), some (.int v2), some (.int v3), some (.int v9), some (.int v7), some (.int v8), some (.int v7), some (.int v8), some (.int v9), none, none, none]) dX12_look_232 (by decide) rfl ?_
  obtain ⟨v8_29, ev8_29, H⟩ := nm_x H
  refine j_iinc (pc := 234) (L' := [some (.ref 0), some (.int v1), some (.int v2), some (.int v3), some (.int v9), some (.int v7), some (.int v8), some (.int v7), some (.int v8_29), some (.int v9), none, none, none]) (w := 1) dX12_look_234 rfl (by decide) (by decide) v8_29 ev8_29 rfl ?_
  refine j_goto (pc := 237) (tgt := 63) dX12_look_237 (by decide) ?_
  refine Jx.sub (L' := [some (.ref 0), some (.int v1), some (.int v2), some (.int v3), some (.int v9), some (.int v7), some (.int v8), some (.int v7), some (.int v8_29), none, none, none, none]) (⟨rfl, ⟨rfl, ⟨rfl, ⟨rfl, ⟨rfl, ⟨rfl, ⟨rfl, ⟨rfl, ⟨rfl, trivial⟩⟩⟩⟩⟩⟩⟩⟩⟩) ?_
  exact hk63 v1 v2 v3 v9 v7 v8 v7 v8_29 h H
noncomputable def fX12_look_182 (k53 : Int32 → Int32 → Int32 → Int32 → Int32 → Int32 → Int32 → HS → Option (Int32 × HS)) (k63 : Int32 → Int32 → Int32 → Int32 → Int32 → Int32 → Int32 → Int32 → HS → Option (Int32 × HS)) (k111 : Int32 → Int32 → Int32 → Int32 → Int32 → Int32 → Int32 → Int32 → Int32 → Int32 → HS → Option (Int32 × HS)) (k126 : Int32 → Int32 → Int32 → Int32 → Int32 → Int32 → Int32 → Int32 → Int32 → Int32 → Int32 → Int32 → HS → Option (Int32 × HS)) (v1 : Int32) (v2 : Int32) (v3 : Int32) (v4 : Int32) (v5 : Int32) (v6 : Int32) (v7 : Int32) (v8 : Int32) (v9 : Int32) (v10 : Int32) (v12 : Int32) (s1 : Int32) (s0 : Int32) (h : HS) : Option (Int32 × HS) := nm ((s0 + s1)) (fun v11_42 => nm (v12 + (1 : Int32)) (fun v12_43 => k126 v1 v2 v3 v4 v5 v6 v7 v8 v9 v10 v11_42 v12_43 h))
set_option maxRecDepth 100000 in
theorem jX12_look_182 {r : Int32} {h0 : HS} (k53 : Int32 → Int32 → Int32 → Int32 → Int32 → Int32 → Int32 → HS → Option (Int32 × HS)) (k63 : Int32 → Int32 → Int32 → Int32 → Int32 → Int32 → Int32 → Int32 → HS → Option (Int32 × HS)) (k111 : Int32 → Int32 → Int32 → Int32 → Int32 → Int32 → Int32 → Int32 → Int32 → Int32 → HS → Option (Int32 × HS)) (k126 : Int32 → Int32 → Int32 → Int32 → Int32 → Int32 → Int32 → Int32 → Int32 → Int32 → Int32 → Int32 → HS → Option (Int32 × HS)) (hk53 : ∀ (v1 : Int32) (v2 : Int32) (v3 : Int32) (v4 : Int32) (v5 : Int32) (v6 : Int32) (v7 : Int32) (h : HS), k53 v1 v2 v3 v4 v5 v6 v7 h = some (r, h0) → Jx skM RX12 cX12_look 13 (some .int) 5 (some (.int r)) h0 53 [some (.ref 0), some (.int v1), some (.int v2), some (.int v3), some (.int v4), some (.int v5), some (.int v6), some (.int v7), none, none, none, none, none] [] h) (hk63 : ∀ (v1 : Int32) (v2 : Int32) (v3 : Int32) (v4 : Int32) (v5 : Int32) (v6 : Int32) (v7 : Int32) (v8 : Int32) (h : HS), k63 v1 v2 v3 v4 v5 v6 v7 v8 h = some (r, h0) → Jx skM RX12 cX12_look 13 (some .int) 5 (some (.int r)) h0 63 [some (.ref 0), some (.int v1), some (.int v2), some (.int v3), some (.int v4), some (.int v5), some (.int v6), some (.int v7), some (.int v8), none, none, none, none] [] h) (hk111 : ∀ (v1 : Int32) (v2 : Int32) (v3 : Int32) (v4 : Int32) (v5 : Int32) (v6 : Int32) (v7 : Int32) (v8 : Int32) (v9 : Int32) (v10 : Int32) (h : HS), k111 v1 v2 v3 v4 v5 v6 v7 v8 v9 v10 h = some (r, h0) → Jx skM RX12 cX12_look 13 (some .int) 5 (some (.int r)) h0 111 [some (.ref 0), some (.int v1), some (.int v2), some (.int v3), some (.int v4), some (.int v5), some (.int v6), some (.int v7), some (.int v8), some (.int v9), some (.int v10), none, none] [] h) (hk126 : ∀ (v1 : Int32) (v2 : Int32) (v3 : Int32) (v4 : Int32) (v5 : Int32) (v6 : Int32) (v7 : Int32) (v8 : Int32) (v9 : Int32) (v10 : Int32) (v11 : Int32) (v12 : Int32) (h : HS), k126 v1 v2 v3 v4 v5 v6 v7 v8 v9 v10 v11 v12 h = some (r, h0) → Jx skM RX12 cX12_look 13 (some .int) 5 (some (.int r)) h0 126 [some (.ref 0), some (.int v1), some (.int v2), some (.int v3), some (.int v4), some (.int v5), some (.int v6), some (.int v7), some (.int v8), some (.int v9), some (.int v10), some (.int v11), some (.int v12)] [] h) (v1 : Int32) (v2 : Int32) (v3 : Int32) (v4 : Int32) (v5 : Int32) (v6 : Int32) (v7 : Int32) (v8 : Int32) (v9 : Int32) (v10 : Int32) (v12 : Int32) (s1 : Int32) (s0 : Int32) (h : HS) (H : fX12_look_182 k53 k63 k111 k126 v1 v2 v3 v4 v5 v6 v7 v8 v9 v10 v12 s1 s0 h = some (r, h0)) : Jx skM RX12 cX12_look 13 (some .int) 5 (some (.int r)) h0 182 [some (.ref 0), some (.int v1), some (.int v2), some (.int v3), some (.int v4), some (.int v5), some (.int v6), some (.int v7), some (.int v8), some (.int v9), some (.int v10), none, some (.int v12)] [.int s1, .int s0] h := by
  unfold fX12_look_182 at H
  refine j_iadd (pc := 182) dX12_look_182 ?_
  obtain ⟨v11_42, ev11_42, H⟩ := nm_x H
  refine j_topi ev11_42 ?_
  refine j_istore (pc := 183) (L' := [some (.ref 0), some (.int v1), some (.int v2), some (.int v3), some (.int v4), some (.int v5), some (.int v6), some (.int v7), some (.int v8), some (.int v9), some (.int v10), some (.int v11_42), some (.int v12)]) dX12_look_183 (by decide) rfl ?_
  obtain ⟨v12_43, ev12_43, H⟩ := nm_x H
  refine j_iinc (pc := 185) (L' := [some (.ref 0), some (.int v1), some (.int v2), some (.int v3), some (.int v4), some (.int v5), some (.int v6), some (.int v7), some (.int v8), some (.int v9), some (.int v10), some (.int v11_42), some (.int v12_43)]) (w := 1) dX12_look_185 rfl (by decide) (by decide) v12_43 ev12_43 rfl ?_
  refine j_goto (pc := 188) (tgt := 126) dX12_look_188 (by decide) ?_
  refine Jx.sub (L' := [some (.ref 0), some (.int v1), some (.int v2), some (.int v3), some (.int v4), some (.int v5), some (.int v6), some (.int v7), some (.int v8), some (.int v9), some (.int v10), some (.int v11_42), some (.int v12_43)]) (⟨rfl, ⟨rfl, ⟨rfl, ⟨rfl, ⟨rfl, ⟨rfl, ⟨rfl, ⟨rfl, ⟨rfl, ⟨rfl, ⟨rfl, ⟨rfl, ⟨rfl, trivial⟩⟩⟩⟩⟩⟩⟩⟩⟩⟩⟩⟩⟩) ?_
  exact hk126 v1 v2 v3 v4 v5 v6 v7 v8 v9 v10 v11_42 v12_43 h H
noncomputable def fX12_look_181 (k53 : Int32 → Int32 → Int32 → Int32 → Int32 → Int32 → Int32 → HS → Option (Int32 × HS)) (k63 : Int32 → Int32 → Int32 → Int32 → Int32 → Int32 → Int32 → Int32 → HS → Option (Int32 × HS)) (k111 : Int32 → Int32 → Int32 → Int32 → Int32 → Int32 → Int32 → Int32 → Int32 → Int32 → HS → Option (Int32 × HS)) (k126 : Int32 → Int32 → Int32 → Int32 → Int32 → Int32 → Int32 → Int32 → Int32 → Int32 → Int32 → Int32 → HS → Option (Int32 × HS)) (v1 : Int32) (v2 : Int32) (v3 : Int32) (v4 : Int32) (v5 : Int32) (v6 : Int32) (v7 : Int32) (v8 : Int32) (v9 : Int32) (v10 : Int32) (v12 : Int32) (s0 : Int32) (h : HS) : Option (Int32 × HS) := fX12_look_182 k53 k63 k111 k126 v1 v2 v3 v4 v5 v6 v7 v8 v9 v10 v12 (0 : Int32) s0 h
set_option maxRecDepth 100000 in
theorem jX12_look_181 {r : Int32} {h0 : HS} (k53 : Int32 → Int32 → Int32 → Int32 → Int32 → Int32 → Int32 → HS → Option (Int32 × HS)) (k63 : Int32 → Int32 → Int32 → Int32 → Int32 → Int32 → Int32 → Int32 → HS → Option (Int32 × HS)) (k111 : Int32 → Int32 → Int32 → Int32 → Int32 → Int32 → Int32 → Int32 → Int32 → Int32 → HS → Option (Int32 × HS)) (k126 : Int32 → Int32 → Int32 → Int32 → Int32 → Int32 → Int32 → Int32 → Int32 → Int32 → Int32 → Int32 → HS → Option (Int32 × HS)) (hk53 : ∀ (v1 : Int32) (v2 : Int32) (v3 : Int32) (v4 : Int32) (v5 : Int32) (v6 : Int32) (v7 : Int32) (h : HS), k53 v1 v2 v3 v4 v5 v6 v7 h = some (r, h0) → Jx skM RX12 cX12_look 13 (some .int) 5 (some (.int r)) h0 53 [some (.ref 0), some (.int v1), some (.int v2), some (.int v3), some (.int v4), some (.int v5), some (.int v6), some (.int v7), none, none, none, none, none] [] h) (hk63 : ∀ (v1 : Int32) (v2 : Int32) (v3 : Int32) (v4 : Int32) (v5 : Int32) (v6 : Int32) (v7 : Int32) (v8 : Int32) (h : HS), k63 v1 v2 v3 v4 v5 v6 v7 v8 h = some (r, h0) → Jx skM RX12 cX12_look 13 (some .int) 5 (some (.int r)) h0 63 [some (.ref 0), some (.int v1), some (.int v2), some (.int v3), some (.int v4), some (.int v5), some (.int v6), some (.int v7), some (.int v8), none, none, none, none] [] h) (hk111 : ∀ (v1 : Int32) (v2 : Int32) (v3 : Int32) (v4 : Int32) (v5 : Int32) (v6 : Int32) (v7 : Int32) (v8 : Int32) (v9 : Int32) (v10 : Int32) (h : HS), k111 v1 v2 v3 v4 v5 v6 v7 v8 v9 v10 h = some (r, h0) → Jx skM RX12 cX12_look 13 (some .int) 5 (some (.int r)) h0 111 [some (.ref 0), some (.int v1), some (.int v2), some (.int v3), some (.int v4), some (.int v5), some (.int v6), some (.int v7), some (.int v8), some (.int v9), some (.int v10), none, none] [] h) (hk126 : ∀ (v1 : Int32) (v2 : Int32) (v3 : Int32) (v4 : Int32) (v5 : Int32) (v6 : Int32) (v7 : Int32) (v8 : Int32) (v9 : Int32) (v10 : Int32) (v11 : Int32) (v12 : Int32) (h : HS), k126 v1 v2 v3 v4 v5 v6 v7 v8 v9 v10 v11 v12 h = some (r, h0) → Jx skM RX12 cX12_look 13 (some .int) 5 (some (.int r)) h0 126 [some (.ref 0), some (.int v1), some (.int v2), some (.int v3), some (.int v4), some (.int v5), some (.int v6), some (.int v7), some (.int v8), some (.int v9), some (.int v10), some (.int v11), some (.int v12)] [] h) (v1 : Int32) (v2 : Int32) (v3 : Int32) (v4 : Int32) (v5 : Int32) (v6 : Int32) (v7 : Int32) (v8 : Int32) (v9 : Int32) (v10 : Int32) (v12 : Int32) (s0 : Int32) (h : HS) (H : fX12_look_181 k53 k63 k111 k126 v1 v2 v3 v4 v5 v6 v7 v8 v9 v10 v12 s0 h = some (r, h0)) : Jx skM RX12 cX12_look 13 (some .int) 5 (some (.int r)) h0 181 [some (.ref 0), some (.int v1), some (.int v2), some (.int v3), some (.int v4), some (.int v5), some (.int v6), some (.int v7), some (.int v8), some (.int v9), some (.int v10), none, some (.int v12)] [.int s0] h := by
  unfold fX12_look_181 at H
  refine j_iconst (pc := 181) (v := 0) dX12_look_181 (by decide) ?_
  refine Jx.sub (L' := [some (.ref 0), some (.int v1), some (.int v2), some (.int v3), some (.int v4), some (.int v5), some (.int v6), some (.int v7), some (.int v8), some (.int v9), some (.int v10), none, some (.int v12)]) (⟨rfl, ⟨rfl, ⟨rfl, ⟨rfl, ⟨rfl, ⟨rfl, ⟨rfl, ⟨rfl, ⟨rfl, ⟨rfl, ⟨rfl, ⟨rfl, trivial⟩⟩⟩⟩⟩⟩⟩⟩⟩⟩⟩⟩) ?_
  exact jX12_look_182 _ _ _ _ hk53 hk63 hk111 hk126 v1 v2 v3 v4 v5 v6 v7 v8 v9 v10 v12 (0 : Int32) s0 h H
noncomputable def fX12_look_126 (k53 : Int32 → Int32 → Int32 → Int32 → Int32 → Int32 → Int32 → HS → Option (Int32 × HS)) (k63 : Int32 → Int32 → Int32 → Int32 → Int32 → Int32 → Int32 → Int32 → HS → Option (Int32 × HS)) (k111 : Int32 → Int32 → Int32 → Int32 → Int32 → Int32 → Int32 → Int32 → Int32 → Int32 → HS → Option (Int32 × HS)) : Nat → Int32 → Int32 → Int32 → Int32 → Int32 → Int32 → Int32 → Int32 → Int32 → Int32 → Int32 → Int32 → HS → Option (Int32 × HS)
  | 0, _, _, _, _, _, _, _, _, _, _, _, _, _ => none
  | n + 1, v1, v2, v3, v4, v5, v6, v7, v8, v9, v10, v11, v12, h => if (gI h 0 50) ≤ v12 then (nm ((imax v9 v11)) (fun v9_31 => nm (v10 + (1 : Int32)) (fun v10_32 => k111 v1 v2 v3 v4 v5 v6 v7 v8 v9_31 v10_32 h))) else (bd (fX12_has v3 v10 h) (fun r34 h33 => if r34 = 0 then (fX12_look_181 k53 k63 k111 (fX12_look_126 k53 k63 k111 n) v1 v2 v3 v4 v5 v6 v7 v8 v9 v10 v12 v11 h33) else (bd (fX12_has v3 v12 h33) (fun r37 h36 => if r37 = 0 then (fX12_look_181 k53 k63 k111 (fX12_look_126 k53 k63 k111 n) v1 v2 v3 v4 v5 v6 v7 v8 v9 v10 v12 v11 h36) else (ck (inb v10 6) (ck (inb v12 6) (if v1 < (iabs ((gI h36 29 v10.toNatClampNeg) - (gI h36 29 v12.toNatClampNeg))) then (fX12_look_181 k53 k63 k111 (fX12_look_126 k53 k63 k111 n) v1 v2 v3 v4 v5 v6 v7 v8 v9 v10 v12 v11 h36) else (fX12_look_182 k53 k63 k111 (fX12_look_126 k53 k63 k111 n) v1 v2 v3 v4 v5 v6 v7 v8 v9 v10 v12 (1 : Int32) v11 h36))))))))
set_option maxRecDepth 100000 in
theorem jX12_look_126 {r : Int32} {h0 : HS} (k53 : Int32 → Int32 → Int32 → Int32 → Int32 → Int32 → Int32 → HS → Option (Int32 × HS)) (k63 : Int32 → Int32 → Int32 → Int32 → Int32 → Int32 → Int32 → Int32 → HS → Option (Int32 × HS)) (k111 : Int32 → Int32 → Int32 → Int32 → Int32 → Int32 → Int32 → Int32 → Int32 → Int32 → HS → Option (Int32 × HS)) (hk53 : ∀ (v1 : Int32) (v2 : Int32) (v3 : Int32) (v4 : Int32) (v5 : Int32) (v6 : Int32) (v7 : Int32) (h : HS), k53 v1 v2 v3 v4 v5 v6 v7 h = some (r, h0) → Jx skM RX12 cX12_look 13 (some .int) 5 (some (.int r)) h0 53 [some (.ref 0), some (.int v1), some (.int v2), some (.int v3), some (.int v4), some (.int v5), some (.int v6), some (.int v7), none, none, none, none, none] [] h) (hk63 : ∀ (v1 : Int32) (v2 : Int32) (v3 : Int32) (v4 : Int32) (v5 : Int32) (v6 : Int32) (v7 : Int32) (v8 : Int32) (h : HS), k63 v1 v2 v3 v4 v5 v6 v7 v8 h = some (r, h0) → Jx skM RX12 cX12_look 13 (some .int) 5 (some (.int r)) h0 63 [some (.ref 0), some (.int v1), some (.int v2), some (.int v3), some (.int v4), some (.int v5), some (.int v6), some (.int v7), some (.int v8), none, none, none, none] [] h) (hk111 : ∀ (v1 : Int32) (v2 : Int32) (v3 : Int32) (v4 : Int32) (v5 : Int32) (v6 : Int32) (v7 : Int32) (v8 : Int32) (v9 : Int32) (v10 : Int32) (h : HS), k111 v1 v2 v3 v4 v5 v6 v7 v8 v9 v10 h = some (r, h0) → Jx skM RX12 cX12_look 13 (some .int) 5 (some (.int r)) h0 111 [some (.ref 0), some (.int v1), some (.int v2), some (.int v3), some (.int v4), some (.int v5), some (.int v6), some (.int v7), some (.int v8), some (.int v9), some (.int v10), none, none] [] h) : ∀ (n : Nat) (v1 : Int32) (v2 : Int32) (v3 : Int32) (v4 : Int32) (v5 : Int32) (v6 : Int32) (v7 : Int32) (v8 : Int32) (v9 : Int32) (v10 : Int32) (v11 : Int32) (v12 : Int32) (h : HS), fX12_look_126 k53 k63 k111 n v1 v2 v3 v4 v5 v6 v7 v8 v9 v10 v11 v12 h = some (r, h0) → Jx skM RX12 cX12_look 13 (some .int) 5 (some (.int r)) h0 126 [some (.ref 0), some (.int v1), some (.int v2), some (.int v3), some (.int v4), some (.int v5), some (.int v6), some (.int v7), some (.int v8), some (.int v9), some (.int v10), some (.int v11), some (.int v12)] [] h := by
  intro n
  induction n with
  | zero => intro v1 v2 v3 v4 v5 v6 v7 v8 v9 v10 v11 v12  h H; cases H
  | succ n ih =>
    intro v1 v2 v3 v4 v5 v6 v7 v8 v9 v10 v11 v12  h H
    rw [fX12_look_126] at H
    refine j_iload (pc := 126) dX12_look_126 rfl ?_
    refine j_aload_n (pc := 128) dX12_look_128 rfl ?_
    refine j_getI (pc := 129) dX12_look_129 flX12_345 rfl ?_
    refine j_icmp_ge (pc := 132) (tgt := 191) dX12_look_132 (by decide) (fun c30 => ?_) (fun c30 => ?_)
    · rw [if_pos c30] at H
      refine j_iload (pc := 191) dX12_look_191 rfl ?_
      refine j_iload (pc := 193) dX12_look_193 rfl ?_
      refine j_mmax (pc := 195) dX12_look_195 wmX12_159 (by simp [Value.category]) ?_
      obtain ⟨v9_31, ev9_31, H⟩ := nm_x H
      refine j_topi ev9_31 ?_
      refine j_istore (pc := 198) (L' := [some (.ref 0), some (.int v1), some (.int v2), some (.int v3), some (.int v4), some (.int v5), some (.int v6), some (.int v7), some (.int v8), some (.int v9_31), some (.int v10), some (.int v11), some (.int v12)]) dX12_look_198 (by decide) rfl ?_
      obtain ⟨v10_32, ev10_32, H⟩ := nm_x H
      refine j_iinc (pc := 200) (L' := [some (.ref 0), some (.int v1), some (.int v2), some (.int v3), some (.int v4), some (.int v5), some (.int v6), some (.int v7), some (.int v8), some (.int v9_31), some (.int v10_32), some (.int v11), some (.int v12)]) (w := 1) dX12_look_200 rfl (by decide) (by decide) v10_32 ev10_32 rfl ?_
      refine j_goto (pc := 203) (tgt := 111) dX12_look_203 (by decide) ?_
      refine Jx.sub (L' := [some (.ref 0), some (.int v1), some (.int v2), some (.int v3), some (.int v4), some (.int v5), some (.int v6), some (.int v7), some (.int v8), some (.int v9_31), some (.int v10_32), none, none]) (⟨rfl, ⟨rfl, ⟨rfl, ⟨rfl, ⟨rfl, ⟨rfl, ⟨rfl, ⟨rfl, ⟨rfl, ⟨rfl, ⟨rfl, trivial⟩⟩⟩⟩⟩⟩⟩⟩⟩⟩⟩) ?_
      exact hk111 v1 v2 v3 v4 v5 v6 v7 v8 v9_31 v10_32 h H
    · rw [if_neg c30] at H
      refine j_iload (pc := 135) dX12_look_135 rfl ?_
      refine j_iload_n (pc := 137) dX12_look_137 rfl ?_
      refine j_iload (pc := 138) dX12_look_138 rfl ?_
      obtain ⟨r34, h33, eh33, H⟩ := bd_x H
      refine j_callS (pc := 140) dX12_look_140 mlX12_366 wyX12_has (tX12_has eh33) (by decide) rfl (by simp [Value.category]) rfl ?_
      refine j_if_eq (pc := 143) (tgt := 181) dX12_look_143 (by decide) (fun c35 => ?_) (fun c35 => ?_)
      · rw [if_pos c35] at H
        refine Jx.sub (L' := [some (.ref 0), some (.int v1), some (.int v2), some (.int v3), some (.int v4), some (.int v5), some (.int v6), some (.int v7), some (.int v8), some (.int v9), some (.int v10), none, some (.int v12)]) (⟨rfl, ⟨rfl, ⟨rfl, ⟨rfl, ⟨rfl, ⟨rfl, ⟨rfl, ⟨rfl, ⟨rfl, ⟨rfl, ⟨rfl, ⟨rfl, trivial⟩⟩⟩⟩⟩⟩⟩⟩⟩⟩⟩⟩) ?_
        exact jX12_look_181 _ _ _ _ hk53 hk63 hk111 ih v1 v2 v3 v4 v5 v6 v7 v8 v9 v10 v12 v11 h33 H
      · rw [if_neg c35] at H
        refine j_iload_n (pc := 146) dX12_look_146 rfl ?_
        refine j_iload (pc := 147) dX12_look_147 rfl ?_
        obtain ⟨r37, h36, eh36, H⟩ := bd_x H
        refine j_callS (pc := 149) dX12_look_149 mlX12_366 wyX12_has (tX12_has eh36) (by decide) rfl (by simp [Value.category]) rfl ?_
        refine j_if_eq (pc := 152) (tgt := 181) dX12_look_152 (by decide) (fun c38 => ?_) (fun c38 => ?_)
        · rw [if_pos c38] at H
          refine Jx.sub (L' := [some (.ref 0), some (.int v1), some (.int v2), some (.int v3), some (.int v4), some (.int v5), some (.int v6), some (.int v7), some (.int v8), some (.int v9), some (.int v10), none, some (.int v12)]) (⟨rfl, ⟨rfl, ⟨rfl, ⟨rfl, ⟨rfl, ⟨rfl, ⟨rfl, ⟨rfl, ⟨rfl, ⟨rfl, ⟨rfl, ⟨rfl, trivial⟩⟩⟩⟩⟩⟩⟩⟩⟩⟩⟩⟩) ?_
          exact jX12_look_181 _ _ _ _ hk53 hk63 hk111 ih v1 v2 v3 v4 v5 v6 v7 v8 v9 v10 v12 v11 h36 H
        · rw [if_neg c38] at H
          refine j_aload_n (pc := 155) dX12_look_155 rfl ?_
          refine j_getR (pc := 156) (b := 29) dX12_look_156 flX12_103 rfl ?_
          refine j_iload (pc := 159) dX12_look_159 rfl ?_
          obtain ⟨b39, H⟩ := ck_x H
          refine j_iaload (pc := 161) dX12_look_161 rfl b39 rfl ?_
          refine j_aload_n (pc := 162) dX12_look_162 rfl ?_
          refine j_getR (pc := 163) (b := 29) dX12_look_163 flX12_103 rfl ?_
          refine j_iload (pc := 166) dX12_look_166 rfl ?_
          obtain ⟨b40, H⟩ := ck_x H
          refine j_iaload (pc := 168) dX12_look_168 rfl b40 rfl ?_
          refine j_isub (pc := 169) dX12_look_169 ?_
          refine j_mabs (pc := 170) dX12_look_170 wmX12_201 (by simp [Value.category]) ?_
          refine j_iload_n (pc := 173) dX12_look_173 rfl ?_
          refine j_icmp_gt (pc := 174) (tgt := 181) dX12_look_174 (by decide) (fun c41 => ?_) (fun c41 => ?_)
          · rw [if_pos c41] at H
            refine Jx.sub (L' := [some (.ref 0), some (.int v1), some (.int v2), some (.int v3), some (.int v4), some (.int v5), some (.int v6), some (.int v7), some (.int v8), some (.int v9), some (.int v10), none, some (.int v12)]) (⟨rfl, ⟨rfl, ⟨rfl, ⟨rfl, ⟨rfl, ⟨rfl, ⟨rfl, ⟨rfl, ⟨rfl, ⟨rfl, ⟨rfl, ⟨rfl, trivial⟩⟩⟩⟩⟩⟩⟩⟩⟩⟩⟩⟩) ?_
            exact jX12_look_181 _ _ _ _ hk53 hk63 hk111 ih v1 v2 v3 v4 v5 v6 v7 v8 v9 v10 v12 v11 h36 H
          · rw [if_neg c41] at H
            refine j_iconst (pc := 177) (v := 1) dX12_look_177 (by decide) ?_
            refine j_goto (pc := 178) (tgt := 182) dX12_look_178 (by decide) ?_
            refine Jx.sub (L' := [some (.ref 0), some (.int v1), some (.int v2), some (.int v3), some (.int v4), some (.int v5), some (.int v6), some (.int v7), some (.int v8), some (.int v9), some (.int v10), none, some (.int v12)]) (⟨rfl, ⟨rfl, ⟨rfl, ⟨rfl, ⟨rfl, ⟨rfl, ⟨rfl, ⟨rfl, ⟨rfl, ⟨rfl, ⟨rfl, ⟨rfl, trivial⟩⟩⟩⟩⟩⟩⟩⟩⟩⟩⟩⟩) ?_
            exact jX12_look_182 _ _ _ _ hk53 hk63 hk111 ih v1 v2 v3 v4 v5 v6 v7 v8 v9 v10 v12 (1 : Int32) v11 h36 H
noncomputable def fX12_look_111 (k53 : Int32 → Int32 → Int32 → Int32 → Int32 → Int32 → Int32 → HS → Option (Int32 × HS)) (k63 : Int32 → Int32 → Int32 → Int32 → Int32 → Int32 → Int32 → Int32 → HS → Option (Int32 × HS)) : Nat → Int32 → Int32 → Int32 → Int32 → Int32 → Int32 → Int32 → Int32 → Int32 → Int32 → HS → Option (Int32 × HS)
  | 0, _, _, _, _, _, _, _, _, _, _, _ => none
  | n + 1, v1, v2, v3, v4, v5, v6, v7, v8, v9, v10, h => if (gI h 0 50) ≤ v10 then (if v5 = (-1 : Int32) then (fX12_look_222 k53 k63 v1 v2 v3 v7 v8 v9 h) else (if v9 < v4 then (fX12_look_222 k53 k63 v1 v2 v3 v7 v8 v9 h) else (nm (v8 + (1 : Int32)) (fun v8_28 => k63 v1 v2 v3 v4 v5 v6 v7 v8_28 h)))) else (fX12_look_126 k53 k63 (fX12_look_111 k53 k63 n) FU v1 v2 v3 v4 v5 v6 v7 v8 v9 v10 (0 : Int32) (0 : Int32) h)
set_option maxRecDepth 100000 in
theorem jX12_look_111 {r : Int32} {h0 : HS} (k53 : Int32 → Int32 → Int32 → Int32 → Int32 → Int32 → Int32 → HS → Option (Int32 × HS)) (k63 : Int32 → Int32 → Int32 → Int32 → Int32 → Int32 → Int32 → Int32 → HS → Option (Int32 × HS)) (hk53 : ∀ (v1 : Int32) (v2 : Int32) (v3 : Int32) (v4 : Int32) (v5 : Int32) (v6 : Int32) (v7 : Int32) (h : HS), k53 v1 v2 v3 v4 v5 v6 v7 h = some (r, h0) → Jx skM RX12 cX12_look 13 (some .int) 5 (some (.int r)) h0 53 [some (.ref 0), some (.int v1), some (.int v2), some (.int v3), some (.int v4), some (.int v5), some (.int v6), some (.int v7), none, none, none, none, none] [] h) (hk63 : ∀ (v1 : Int32) (v2 : Int32) (v3 : Int32) (v4 : Int32) (v5 : Int32) (v6 : Int32) (v7 : Int32) (v8 : Int32) (h : HS), k63 v1 v2 v3 v4 v5 v6 v7 v8 h = some (r, h0) → Jx skM RX12 cX12_look 13 (some .int) 5 (some (.int r)) h0 63 [some (.ref 0), some (.int v1), some (.int v2), some (.int v3), some (.int v4), some (.int v5), some (.int v6), some (.int v7), some (.int v8), none, none, none, none] [] h) : ∀ (n : Nat) (v1 : Int32) (v2 : Int32) (v3 : Int32) (v4 : Int32) (v5 : Int32) (v6 : Int32) (v7 : Int32) (v8 : Int32) (v9 : Int32) (v10 : Int32) (h : HS), fX12_look_111 k53 k63 n v1 v2 v3 v4 v5 v6 v7 v8 v9 v10 h = some (r, h0) → Jx skM RX12 cX12_look 13 (some .int) 5 (some (.int r)) h0 111 [some (.ref 0), some (.int v1), some (.int v2), some (.int v3), some (.int v4), some (.int v5), some (.int v6), some (.int v7), some (.int v8), some (.int v9), some (.int v10), none, none] [] h := by
  intro n
  induction n with
  | zero => intro v1 v2 v3 v4 v5 v6 v7 v8 v9 v10  h H; cases H
  | succ n ih =>
    intro v1 v2 v3 v4 v5 v6 v7 v8 v9 v10  h H
    rw [fX12_look_111] at H
    refine j_iload (pc := 111) dX12_look_111 rfl ?_
    refine j_aload_n (pc := 113) dX12_look_113 rfl ?_
    refine j_getI (pc := 114) dX12_look_114 flX12_345 rfl ?_
    refine j_icmp_ge (pc := 117) (tgt := 206) dX12_look_117 (by decide) (fun c25 => ?_) (fun c25 => ?_)
    · rw [if_pos c25] at H
      refine j_iload (pc := 206) dX12_look_206 rfl ?_
      refine j_iconst (pc := 208) (v := -1) dX12_look_208 (by decide) ?_
      refine j_icmp_eq (pc := 209) (tgt := 222) dX12_look_209 (by decide) (fun c26 => ?_) (fun c26 => ?_)
      · rw [if_pos c26] at H
        refine Jx.sub (L' := [some (.ref 0), some (.int v1), some (.int v2), some (.int v3), none, none, none, some (.int v7), some (.int v8), some (.int v9), none, none, none]) (⟨rfl, ⟨rfl, ⟨rfl, ⟨rfl, ⟨rfl, ⟨rfl, ⟨rfl, trivial⟩⟩⟩⟩⟩⟩⟩) ?_
        exact jX12_look_222 _ _ hk53 hk63 v1 v2 v3 v7 v8 v9 h H
      · rw [if_neg c26] at H
        refine j_iload (pc := 212) dX12_look_212 rfl ?_
        refine j_iload (pc := 214) dX12_look_214 rfl ?_
        refine j_icmp_lt (pc := 216) (tgt := 222) dX12_look_216 (by decide) (fun c27 => ?_) (fun c27 => ?_)
        · rw [if_pos c27] at H
          refine Jx.sub (L' := [some (.ref 0), some (.int v1), some (.int v2), some (.int v3), none, none, none, some (.int v7), some (.int v8), some (.int v9), none, none, none]) (⟨rfl, ⟨rfl, ⟨rfl, ⟨rfl, ⟨rfl, ⟨rfl, ⟨rfl, trivial⟩⟩⟩⟩⟩⟩⟩) ?_
          exact jX12_look_222 _ _ hk53 hk63 v1 v2 v3 v7 v8 v9 h H
        · rw [if_neg c27] at H
          refine j_goto (pc := 219) (tgt := 234) dX12_look_219 (by decide) ?_
          obtain ⟨v8_28, ev8_28, H⟩ := nm_x H
          refine j_iinc (pc := 234) (L' := [some (.ref 0), some (.int v1), some (.int v2), some (.int v3), some (.int v4), some (.int v5), some (.int v6), some (.int v7), some (.int v8_28), some (.int v9), some (.int v10), none, none]) (w := 1) dX12_look_234 rfl (by decide) (by decide) v8_28 ev8_28 rfl ?_
          refine j_goto (pc := 237) (tgt := 63) dX12_look_237 (by decide) ?_
          refine Jx.sub (L' := [some (.ref 0), some (.int v1), some (.int v2), some (.int v3), some (.int v4), some (.int v5), some (.int v6), some (.int v7), some (.int v8_28), none, none, none, none]) (⟨rfl, ⟨rfl, ⟨rfl, ⟨rfl, ⟨rfl, ⟨rfl, ⟨rfl, ⟨rfl, ⟨rfl, trivial⟩⟩⟩⟩⟩⟩⟩⟩⟩) ?_
          exact hk63 v1 v2 v3 v4 v5 v6 v7 v8_28 h H
    · rw [if_neg c25] at H
      refine j_iconst (pc := 120) (v := 0) dX12_look_120 (by decide) ?_
      refine j_istore (pc := 121) (L' := [some (.ref 0), some (.int v1), some (.int v2), some (.int v3), some (.int v4), some (.int v5), some (.int v6), some (.int v7), some (.int v8), some (.int v9), some (.int v10), some (.int (0 : Int32)), none]) dX12_look_121 (by decide) rfl ?_
      refine j_iconst (pc := 123) (v := 0) dX12_look_123 (by decide) ?_
      refine j_istore (pc := 124) (L' := [some (.ref 0), some (.int v1), some (.int v2), some (.int v3), some (.int v4), some (.int v5), some (.int v6), some (.int v7), some (.int v8), some (.int v9), some (.int v10), some (.int (0 : Int32)), some (.int (0 : Int32))]) dX12_look_124 (by decide) rfl ?_
      refine Jx.sub (L' := [some (.ref 0), some (.int v1), some (.int v2), some (.int v3), some (.int v4), some (.int v5), some (.int v6), some (.int v7), some (.int v8), some (.int v9), some (.int v10), some (.int (0 : Int32)), some (.int (0 : Int32))]) (⟨rfl, ⟨rfl, ⟨rfl, ⟨rfl, ⟨rfl, ⟨rfl, ⟨rfl, ⟨rfl, ⟨rfl, ⟨rfl, ⟨rfl, ⟨rfl, ⟨rfl, trivial⟩⟩⟩⟩⟩⟩⟩⟩⟩⟩⟩⟩⟩) ?_
      exact jX12_look_126 _ _ _ hk53 hk63 ih FU v1 v2 v3 v4 v5 v6 v7 v8 v9 v10 (0 : Int32) (0 : Int32) h H
noncomputable def fX12_look_72 (k53 : Int32 → Int32 → Int32 → Int32 → Int32 → Int32 → Int32 → HS → Option (Int32 × HS)) (k63 : Int32 → Int32 → Int32 → Int32 → Int32 → Int32 → Int32 → Int32 → HS → Option (Int32 × HS)) : Nat → Int32 → Int32 → Int32 → Int32 → Int32 → Int32 → Int32 → Int32 → Int32 → HS → Option (Int32 × HS)
  | 0, _, _, _, _, _, _, _, _, _, _ => none
  | n + 1, v1, v2, v3, v4, v5, v6, v7, v8, v9, h => if (gI h 0 50) ≤ v9 then (fX12_look_111 k53 k63 FU v1 v2 v3 v4 v5 v6 v7 v8 (0 : Int32) (0 : Int32) h) else (bd (fX12_toldBy v9 v7 v2 v8 h) (fun r21 h20 => ck (inb v9 6) (nm (pI h20 29 v9.toNatClampNeg r21) (fun h22 => nm (v9 + (1 : Int32)) (fun v9_24 => fX12_look_72 k53 k63 n v1 v2 v3 v4 v5 v6 v7 v8 v9_24 h22)))))
set_option maxRecDepth 100000 in
theorem jX12_look_72 {r : Int32} {h0 : HS} (k53 : Int32 → Int32 → Int32 → Int32 → Int32 → Int32 → Int32 → HS → Option (Int32 × HS)) (k63 : Int32 → Int32 → Int32 → Int32 → Int32 → Int32 → Int32 → Int32 → HS → Option (Int32 × HS)) (hk53 : ∀ (v1 : Int32) (v2 : Int32) (v3 : Int32) (v4 : Int32) (v5 : Int32) (v6 : Int32) (v7 : Int32) (h : HS), k53 v1 v2 v3 v4 v5 v6 v7 h = some (r, h0) → Jx skM RX12 cX12_look 13 (some .int) 5 (some (.int r)) h0 53 [some (.ref 0), some (.int v1), some (.int v2), some (.int v3), some (.int v4), some (.int v5), some (.int v6), some (.int v7), none, none, none, none, none] [] h) (hk63 : ∀ (v1 : Int32) (v2 : Int32) (v3 : Int32) (v4 : Int32) (v5 : Int32) (v6 : Int32) (v7 : Int32) (v8 : Int32) (h : HS), k63 v1 v2 v3 v4 v5 v6 v7 v8 h = some (r, h0) → Jx skM RX12 cX12_look 13 (some .int) 5 (some (.int r)) h0 63 [some (.ref 0), some (.int v1), some (.int v2), some (.int v3), some (.int v4), some (.int v5), some (.int v6), some (.int v7), some (.int v8), none, none, none, none] [] h) : ∀ (n : Nat) (v1 : Int32) (v2 : Int32) (v3 : Int32) (v4 : Int32) (v5 : Int32) (v6 : Int32) (v7 : Int32) (v8 : Int32) (v9 : Int32) (h : HS), fX12_look_72 k53 k63 n v1 v2 v3 v4 v5 v6 v7 v8 v9 h = some (r, h0) → Jx skM RX12 cX12_look 13 (some .int) 5 (some (.int r)) h0 72 [some (.ref 0), some (.int v1), some (.int v2), some (.int v3), some (.int v4), some (.int v5), some (.int v6), some (.int v7), some (.int v8), some (.int v9), none, none, none] [] h := by
  intro n
  induction n with
  | zero => intro v1 v2 v3 v4 v5 v6 v7 v8 v9  h H; cases H
  | succ n ih =>
    intro v1 v2 v3 v4 v5 v6 v7 v8 v9  h H
    rw [fX12_look_72] at H
    refine j_iload (pc := 72) dX12_look_72 rfl ?_
    refine j_aload_n (pc := 74) dX12_look_74 rfl ?_
    refine j_getI (pc := 75) dX12_look_75 flX12_345 rfl ?_
    refine j_icmp_ge (pc := 78) (tgt := 105) dX12_look_78 (by decide) (fun c19 => ?_) (fun c19 => ?_)
    · rw [if_pos c19] at H
      refine j_iconst (pc := 105) (v := 0) dX12_look_105 (by decide) ?_
      refine j_istore (pc := 106) (L' := [some (.ref 0), some (.int v1), some (.int v2), some (.int v3), some (.int v4), some (.int v5), some (.int v6), some (.int v7), some (.int v8), some (.int (0 : Int32)), none, none, none]) dX12_look_106 (by decide) rfl ?_
      refine j_iconst (pc := 108) (v := 0) dX12_look_108 (by decide) ?_
      refine j_istore (pc := 109) (L' := [some (.ref 0), some (.int v1), some (.int v2), some (.int v3), some (.int v4), some (.int v5), some (.int v6), some (.int v7), some (.int v8), some (.int (0 : Int32)), some (.int (0 : Int32)), none, none]) dX12_look_109 (by decide) rfl ?_
      refine Jx.sub (L' := [some (.ref 0), some (.int v1), some (.int v2), some (.int v3), some (.int v4), some (.int v5), some (.int v6), some (.int v7), some (.int v8), some (.int (0 : Int32)), some (.int (0 : Int32)), none, none]) (⟨rfl, ⟨rfl, ⟨rfl, ⟨rfl, ⟨rfl, ⟨rfl, ⟨rfl, ⟨rfl, ⟨rfl, ⟨rfl, ⟨rfl, trivial⟩⟩⟩⟩⟩⟩⟩⟩⟩⟩⟩) ?_
      exact jX12_look_111 _ _ hk53 hk63 FU v1 v2 v3 v4 v5 v6 v7 v8 (0 : Int32) (0 : Int32) h H
    · rw [if_neg c19] at H
      refine j_aload_n (pc := 81) dX12_look_81 rfl ?_
      refine j_getR (pc := 82) (b := 29) dX12_look_82 flX12_103 rfl ?_
      refine j_iload (pc := 85) dX12_look_85 rfl ?_
      refine j_aload_n (pc := 87) dX12_look_87 rfl ?_
      refine j_iload (pc := 88) dX12_look_88 rfl ?_
      refine j_iload (pc := 90) dX12_look_90 rfl ?_
      refine j_iload_n (pc := 92) dX12_look_92 rfl ?_
      refine j_iload (pc := 93) dX12_look_93 rfl ?_
      obtain ⟨r21, h20, eh20, H⟩ := bd_x H
      refine j_callV (pc := 95) dX12_look_95 mlX12_354 wyX12_toldBy (tX12_toldBy eh20) (by decide) rfl rfl rfl rfl (by simp [Value.category]) rfl ?_
      obtain ⟨b23, H⟩ := ck_x H
      obtain ⟨h22, eh22, H⟩ := nm_x H
      refine j_iastore (pc := 98) dX12_look_98 rfl b23 rfl h22 eh22 ?_
      obtain ⟨v9_24, ev9_24, H⟩ := nm_x H
      refine j_iinc (pc := 99) (L' := [some (.ref 0), some (.int v1), some (.int v2), some (.int v3), some (.int v4), some (.int v5), some (.int v6), some (.int v7), some (.int v8), some (.int v9_24), none, none, none]) (w := 1) dX12_look_99 rfl (by decide) (by decide) v9_24 ev9_24 rfl ?_
      refine j_goto (pc := 102) (tgt := 72) dX12_look_102 (by decide) ?_
      refine Jx.sub (L' := [some (.ref 0), some (.int v1), some (.int v2), some (.int v3), some (.int v4), some (.int v5), some (.int v6), some (.int v7), some (.int v8), some (.int v9_24), none, none, none]) (⟨rfl, ⟨rfl, ⟨rfl, ⟨rfl, ⟨rfl, ⟨rfl, ⟨rfl, ⟨rfl, ⟨rfl, ⟨rfl, trivial⟩⟩⟩⟩⟩⟩⟩⟩⟩⟩) ?_
      exact ih v1 v2 v3 v4 v5 v6 v7 v8 v9_24 h22 H
noncomputable def fX12_look_63 (k53 : Int32 → Int32 → Int32 → Int32 → Int32 → Int32 → Int32 → HS → Option (Int32 × HS)) : Nat → Int32 → Int32 → Int32 → Int32 → Int32 → Int32 → Int32 → Int32 → HS → Option (Int32 × HS)
  | 0, _, _, _, _, _, _, _, _, _ => none
  | n + 1, v1, v2, v3, v4, v5, v6, v7, v8, h => if (3 : Int32) ≤ v8 then (nm (v7 + (1 : Int32)) (fun v7_18 => k53 v1 v2 v3 v4 v5 v6 v7_18 h)) else (fX12_look_72 k53 (fX12_look_63 k53 n) FU v1 v2 v3 v4 v5 v6 v7 v8 (0 : Int32) h)
set_option maxRecDepth 100000 in
theorem jX12_look_63 {r : Int32} {h0 : HS} (k53 : Int32 → Int32 → Int32 → Int32 → Int32 → Int32 → Int32 → HS → Option (Int32 × HS)) (hk53 : ∀ (v1 : Int32) (v2 : Int32) (v3 : Int32) (v4 : Int32) (v5 : Int32) (v6 : Int32) (v7 : Int32) (h : HS), k53 v1 v2 v3 v4 v5 v6 v7 h = some (r, h0) → Jx skM RX12 cX12_look 13 (some .int) 5 (some (.int r)) h0 53 [some (.ref 0), some (.int v1), some (.int v2), some (.int v3), some (.int v4), some (.int v5), some (.int v6), some (.int v7), none, none, none, none, none] [] h) : ∀ (n : Nat) (v1 : Int32) (v2 : Int32) (v3 : Int32) (v4 : Int32) (v5 : Int32) (v6 : Int32) (v7 : Int32) (v8 : Int32) (h : HS), fX12_look_63 k53 n v1 v2 v3 v4 v5 v6 v7 v8 h = some (r, h0) → Jx skM RX12 cX12_look 13 (some .int) 5 (some (.int r)) h0 63 [some (.ref 0), some (.int v1), some (.int v2), some (.int v3), some (.int v4), some (.int v5), some (.int v6), some (.int v7), some (.int v8), none, none, none, none] [] h := by
  intro n
  induction n with
  | zero => intro v1 v2 v3 v4 v5 v6 v7 v8  h H; cases H
  | succ n ih =>
    intro v1 v2 v3 v4 v5 v6 v7 v8  h H
    rw [fX12_look_63] at H
    refine j_iload (pc := 63) dX12_look_63 rfl ?_
    refine j_iconst (pc := 65) (v := 3) dX12_look_65 (by decide) ?_
    refine j_icmp_ge (pc := 66) (tgt := 240) dX12_look_66 (by decide) (fun c17 => ?_) (fun c17 => ?_)
    · rw [if_pos c17] at H
      obtain ⟨v7_18, ev7_18, H⟩ := nm_x H
      refine j_iinc (pc := 240) (L' := [some (.ref 0), some (.int v1), some (.int v2), some (.int v3), some (.int v4), some (.int v5), some (.int v6), some (.int v7_18), some (.int v8), none, none, none, none]) (w := 1) dX12_look_240 rfl (by decide) (by decide) v7_18 ev7_18 rfl ?_
      refine j_goto (pc := 243) (tgt := 53) dX12_look_243 (by decide) ?_
      refine Jx.sub (L' := [some (.ref 0), some (.int v1), some (.int v2), some (.int v3), some (.int v4), some (.int v5), some (.int v6), some (.int v7_18), none, none, none, none, none]) (⟨rfl, ⟨rfl, ⟨rfl, ⟨rfl, ⟨rfl, ⟨rfl, ⟨rfl, ⟨rfl, trivial⟩⟩⟩⟩⟩⟩⟩⟩) ?_
      exact hk53 v1 v2 v3 v4 v5 v6 v7_18 h H
    · rw [if_neg c17] at H
      refine j_iconst (pc := 69) (v := 0) dX12_look_69 (by decide) ?_
      refine j_istore (pc := 70) (L' := [some (.ref 0), some (.int v1), some (.int v2), some (.int v3), some (.int v4), some (.int v5), some (.int v6), some (.int v7), some (.int v8), some (.int (0 : Int32)), none, none, none]) dX12_look_70 (by decide) rfl ?_
      refine Jx.sub (L' := [some (.ref 0), some (.int v1), some (.int v2), some (.int v3), some (.int v4), some (.int v5), some (.int v6), some (.int v7), some (.int v8), some (.int (0 : Int32)), none, none, none]) (⟨rfl, ⟨rfl, ⟨rfl, ⟨rfl, ⟨rfl, ⟨rfl, ⟨rfl, ⟨rfl, ⟨rfl, ⟨rfl, trivial⟩⟩⟩⟩⟩⟩⟩⟩⟩⟩) ?_
      exact jX12_look_72 _ _ hk53 ih FU v1 v2 v3 v4 v5 v6 v7 v8 (0 : Int32) h H
noncomputable def fX12_look_53 : Nat → Int32 → Int32 → Int32 → Int32 → Int32 → Int32 → Int32 → HS → Option (Int32 × HS)
  | 0, _, _, _, _, _, _, _, _ => none
  | n + 1, v1, v2, v3, v4, v5, v6, v7, h => if (24 : Int32) < v7 then (nm (pI h 0 21 (0 : Int32)) (fun h14 => bv (fX12_tell v5 h14) (fun h15 => bv (fX12_tell v6 h15) (fun h16 => some (v4, h16))))) else (fX12_look_63 (fX12_look_53 n) FU v1 v2 v3 v4 v5 v6 v7 (0 : Int32) h)
set_option maxRecDepth 100000 in
theorem jX12_look_53 {r : Int32} {h0 : HS} : ∀ (n : Nat) (v1 : Int32) (v2 : Int32) (v3 : Int32) (v4 : Int32) (v5 : Int32) (v6 : Int32) (v7 : Int32) (h : HS), fX12_look_53 n v1 v2 v3 v4 v5 v6 v7 h = some (r, h0) → Jx skM RX12 cX12_look 13 (some .int) 5 (some (.int r)) h0 53 [some (.ref 0), some (.int v1), some (.int v2), some (.int v3), some (.int v4), some (.int v5), some (.int v6), some (.int v7), none, none, none, none, none] [] h := by
  intro n
  induction n with
  | zero => intro v1 v2 v3 v4 v5 v6 v7  h H; cases H
  | succ n ih =>
    intro v1 v2 v3 v4 v5 v6 v7  h H
    rw [fX12_look_53] at H
    refine j_iload (pc := 53) dX12_look_53 rfl ?_
    refine j_bipush (pc := 55) (v := 24) dX12_look_55 (by decide) ?_
    refine j_icmp_gt (pc := 57) (tgt := 246) dX12_look_57 (by decide) (fun c13 => ?_) (fun c13 => ?_)
    · rw [if_pos c13] at H
      refine j_aload_n (pc := 246) dX12_look_246 rfl ?_
      refine j_iconst (pc := 247) (v := 0) dX12_look_247 (by decide) ?_
      obtain ⟨h14, eh14, H⟩ := nm_x H
      refine j_putI (pc := 248) dX12_look_248 fpX12_136 rfl h14 eh14 ?_
      refine j_aload_n (pc := 251) dX12_look_251 rfl ?_
      refine j_iload (pc := 252) dX12_look_252 rfl ?_
      obtain ⟨h15, eh15, H⟩ := bv_x H
      refine j_callV (pc := 254) dX12_look_254 mlX12_210 wyX12_tell (tX12_tell eh15) (by decide) rfl rfl rfl rfl (by simp [Value.category]) rfl ?_
      refine j_aload_n (pc := 257) dX12_look_257 rfl ?_
      refine j_iload (pc := 258) dX12_look_258 rfl ?_
      obtain ⟨h16, eh16, H⟩ := bv_x H
      refine j_callV (pc := 260) dX12_look_260 mlX12_210 wyX12_tell (tX12_tell eh16) (by decide) rfl rfl rfl rfl (by simp [Value.category]) rfl ?_
      refine j_iload (pc := 263) dX12_look_263 rfl ?_
      exact j_ireturn (pc := 265) dX12_look_265 rfl (ri_1 H) (ri_2 H)
    · rw [if_neg c13] at H
      refine j_iconst (pc := 60) (v := 0) dX12_look_60 (by decide) ?_
      refine j_istore (pc := 61) (L' := [some (.ref 0), some (.int v1), some (.int v2), some (.int v3), some (.int v4), some (.int v5), some (.int v6), some (.int v7), some (.int (0 : Int32)), none, none, none, none]) dX12_look_61 (by decide) rfl ?_
      refine Jx.sub (L' := [some (.ref 0), some (.int v1), some (.int v2), some (.int v3), some (.int v4), some (.int v5), some (.int v6), some (.int v7), some (.int (0 : Int32)), none, none, none, none]) (⟨rfl, ⟨rfl, ⟨rfl, ⟨rfl, ⟨rfl, ⟨rfl, ⟨rfl, ⟨rfl, ⟨rfl, trivial⟩⟩⟩⟩⟩⟩⟩⟩⟩) ?_
      exact jX12_look_63 _ ih FU v1 v2 v3 v4 v5 v6 v7 (0 : Int32) h H
noncomputable def fX12_look (p1 : Int32) (p2 : Int32) (h : HS) : Option (Int32 × HS) := nm (pI h 0 22 (0 : Int32)) (fun h1 => bd (fX12_in p1 (0 : Int32) (99 : Int32) h1) (fun r3 h2 => if r3 = 0 then (some ((-1 : Int32), h2)) else (bd (fX12_isDepth p2 h2) (fun r6 h5 => if r6 = 0 then (some ((-1 : Int32), h5)) else (bd (fX12_letting p1 h5) (fun r9 h8 => bd (fJ6_bitCount_0f7a4 r9 h8) (fun r11 h10 => if (2 : Int32) ≤ r11 then (fX12_look_53 FU p1 p2 r9 (0 : Int32) (-1 : Int32) (0 : Int32) (0 : Int32) h10) else (some ((-2 : Int32), h10)))))))))
set_option maxRecDepth 100000 in
theorem tX12_look {p1 : Int32} {p2 : Int32} {r : Int32} {h h0 : HS} (H : fX12_look p1 p2 h = some (r, h0)) : Cn skM yX12_look cX12_look 13 (some .int) 5 [.ref 0, .int p1, .int p2] h (some (.int r)) h0 := by
  refine Cn_of (L := [some (.ref 0), some (.int p1), some (.int p2), none, none, none, none, none, none, none, none, none, none]) (by decide +kernel) (by simp [lg_sl, Value.category]) (fun ad => by simp [lg_sl, tv, Value.category]) (⟨rfl, ⟨rfl, ⟨rfl, trivial⟩⟩⟩) ?_
  unfold fX12_look at H
  refine j_aload_n (pc := 0) dX12_look_0 rfl ?_
  refine j_iconst (pc := 1) (v := 0) dX12_look_1 (by decide) ?_
  obtain ⟨h1, eh1, H⟩ := nm_x H
  refine j_putI (pc := 2) dX12_look_2 fpX12_133 rfl h1 eh1 ?_
  refine j_iload_n (pc := 5) dX12_look_5 rfl ?_
  refine j_iconst (pc := 6) (v := 0) dX12_look_6 (by decide) ?_
  refine j_bipush (pc := 7) (v := 99) dX12_look_7 (by decide) ?_
  obtain ⟨r3, h2, eh2, H⟩ := bd_x H
  refine j_callS (pc := 9) dX12_look_9 mlX12_142 wyX12_in (tX12_in eh2) (by decide) rfl (by simp [Value.category]) rfl ?_
  refine j_if_eq (pc := 12) (tgt := 22) dX12_look_12 (by decide) (fun c4 => ?_) (fun c4 => ?_)
  · rw [if_pos c4] at H
    refine j_iconst (pc := 22) (v := -1) dX12_look_22 (by decide) ?_
    exact j_ireturn (pc := 23) dX12_look_23 rfl (ri_1 H) (ri_2 H)
  · rw [if_neg c4] at H
    refine j_iload_n (pc := 15) dX12_look_15 rfl ?_
    obtain ⟨r6, h5, eh5, H⟩ := bd_x H
    refine j_callS (pc := 16) dX12_look_16 mlX12_178 wyX12_isDepth (tX12_isDepth eh5) (by decide) rfl (by simp [Value.category]) rfl ?_
    refine j_if_ne (pc := 19) (tgt := 24) dX12_look_19 (by decide) (fun c7 => ?_) (fun c7 => ?_)
    · rw [if_neg c7] at H
      refine j_aload_n (pc := 24) dX12_look_24 rfl ?_
      refine j_iload_n (pc := 25) dX12_look_25 rfl ?_
      obtain ⟨r9, h8, eh8, H⟩ := bd_x H
      refine j_callV (pc := 26) dX12_look_26 mlX12_358 wyX12_letting (tX12_letting eh8) (by decide) rfl rfl rfl rfl (by simp [Value.category]) rfl ?_
      refine j_istore_n (pc := 29) (L' := [some (.ref 0), some (.int p1), some (.int p2), some (.int r9), none, none, none, none, none, none, none, none, none]) dX12_look_29 (by decide) rfl ?_
      refine j_iload_n (pc := 30) dX12_look_30 rfl ?_
      obtain ⟨r11, h10, eh10, H⟩ := bd_x H
      refine j_callS (pc := 31) dX12_look_31 mlX12_361 wyJ6_bitCount_0f7a4 (tJ6_bitCount_0f7a4 eh10) (by decide) rfl (by simp [Value.category]) rfl ?_
      refine j_iconst (pc := 34) (v := 2) dX12_look_34 (by decide) ?_
      refine j_icmp_ge (pc := 35) (tgt := 41) dX12_look_35 (by decide) (fun c12 => ?_) (fun c12 => ?_)
      · rw [if_pos c12] at H
        refine j_iconst (pc := 41) (v := 0) dX12_look_41 (by decide) ?_
        refine j_istore (pc := 42) (L' := [some (.ref 0), some (.int p1), some (.int p2), some (.int r9), some (.int (0 : Int32)), none, none, none, none, none, none, none, none]) dX12_look_42 (by decide) rfl ?_
        refine j_iconst (pc := 44) (v := -1) dX12_look_44 (by decide) ?_
        refine j_istore (pc := 45) (L' := [some (.ref 0), some (.int p1), some (.int p2), some (.int r9), some (.int (0 : Int32)), some (.int (-1 : Int32)), none, none, none, none, none, none, none]) dX12_look_45 (by decide) rfl ?_
        refine j_iconst (pc := 47) (v := 0) dX12_look_47 (by decide) ?_
        refine j_istore (pc := 48) (L' := [some (.ref 0), some (.int p1), some (.int p2), some (.int r9), some (.int (0 : Int32)), some (.int (-1 : Int32)), some (.int (0 : Int32)), none, none, none, none, none, none]) dX12_look_48 (by decide) rfl ?_
        refine j_iconst (pc := 50) (v := 0) dX12_look_50 (by decide) ?_
        refine j_istore (pc := 51) (L' := [some (.ref 0), some (.int p1), some (.int p2), some (.int r9), some (.int (0 : Int32)), some (.int (-1 : Int32)), some (.int (0 : Int32)), some (.int (0 : Int32)), none, none, none, none, none]) dX12_look_51 (by decide) rfl ?_
        refine Jx.sub (L' := [some (.ref 0), some (.int p1), some (.int p2), some (.int r9), some (.int (0 : Int32)), some (.int (-1 : Int32)), some (.int (0 : Int32)), some (.int (0 : Int32)), none, none, none, none, none]) (⟨rfl, ⟨rfl, ⟨rfl, ⟨rfl, ⟨rfl, ⟨rfl, ⟨rfl, ⟨rfl, trivial⟩⟩⟩⟩⟩⟩⟩⟩) ?_
        exact jX12_look_53 FU p1 p2 r9 (0 : Int32) (-1 : Int32) (0 : Int32) (0 : Int32) h10 H
      · rw [if_neg c12] at H
        refine j_bipush (pc := 38) (v := -2) dX12_look_38 (by decide) ?_
        exact j_ireturn (pc := 40) dX12_look_40 rfl (ri_1 H) (ri_2 H)
    · rw [if_pos c7] at H
      refine j_iconst (pc := 22) (v := -1) dX12_look_22 (by decide) ?_
      exact j_ireturn (pc := 23) dX12_look_23 rfl (ri_1 H) (ri_2 H)

noncomputable def fX12_air (p1 : Int32) (h : HS) : Option (Int32 × HS) := nm (pI h 0 22 (0 : Int32)) (fun h1 => bd (fX12_in p1 (0 : Int32) (99999 : Int32) h1) (fun r3 h2 => if r3 = 0 then (some ((-1 : Int32), h2)) else (nm ((gI h2 0 15)) (fun v2_5 => nm (pI h2 0 15 p1) (fun h6 => some (v2_5, h6))))))
set_option maxRecDepth 100000 in
theorem tX12_air {p1 : Int32} {r : Int32} {h h0 : HS} (H : fX12_air p1 h = some (r, h0)) : Cn skM yX12_air cX12_air 3 (some .int) 1 [.ref 0, .int p1] h (some (.int r)) h0 := by
  refine Cn_of (L := [some (.ref 0), some (.int p1), none]) (by decide +kernel) (by simp [lg_sl, Value.category]) (fun ad => by simp [lg_sl, tv, Value.category]) (⟨rfl, ⟨rfl, trivial⟩⟩) ?_
  unfold fX12_air at H
  refine j_aload_n (pc := 0) dX12_air_0 rfl ?_
  refine j_iconst (pc := 1) (v := 0) dX12_air_1 (by decide) ?_
  obtain ⟨h1, eh1, H⟩ := nm_x H
  refine j_putI (pc := 2) dX12_air_2 fpX12_133 rfl h1 eh1 ?_
  refine j_iload_n (pc := 5) dX12_air_5 rfl ?_
  refine j_iconst (pc := 6) (v := 0) dX12_air_6 (by decide) ?_
  refine j_ldc (pc := 7) dX12_air_7 wkX12_162 ?_
  obtain ⟨r3, h2, eh2, H⟩ := bd_x H
  refine j_callS (pc := 9) dX12_air_9 mlX12_142 wyX12_in (tX12_in eh2) (by decide) rfl (by simp [Value.category]) rfl ?_
  refine j_if_ne (pc := 12) (tgt := 17) dX12_air_12 (by decide) (fun c4 => ?_) (fun c4 => ?_)
  · rw [if_neg c4] at H
    refine j_aload_n (pc := 17) dX12_air_17 rfl ?_
    refine j_getI (pc := 18) dX12_air_18 flX12_368 rfl ?_
    obtain ⟨v2_5, ev2_5, H⟩ := nm_x H
    refine j_topi ev2_5 ?_
    refine j_istore_n (pc := 21) (L' := [some (.ref 0), some (.int p1), some (.int v2_5)]) dX12_air_21 (by decide) rfl ?_
    refine j_aload_n (pc := 22) dX12_air_22 rfl ?_
    refine j_iload_n (pc := 23) dX12_air_23 rfl ?_
    obtain ⟨h6, eh6, H⟩ := nm_x H
    refine j_putI (pc := 24) dX12_air_24 fpX12_368 rfl h6 eh6 ?_
    refine j_iload_n (pc := 27) dX12_air_27 rfl ?_
    exact j_ireturn (pc := 28) dX12_air_28 rfl (ri_1 H) (ri_2 H)
  · rw [if_pos c4] at H
    refine j_iconst (pc := 15) (v := -1) dX12_air_15 (by decide) ?_
    exact j_ireturn (pc := 16) dX12_air_16 rfl (ri_1 H) (ri_2 H)

noncomputable def fX12_airFor (p1 : Int32) (p2 : Int32) (h : HS) : Option (Int32 × HS) := some ((((p1 * (p2 + (10 : Int32))) + (9 : Int32)) / (10 : Int32)), h)
set_option maxRecDepth 100000 in
theorem tX12_airFor {p1 : Int32} {p2 : Int32} {r : Int32} {h h0 : HS} (H : fX12_airFor p1 p2 h = some (r, h0)) : Cn skM yX12_airFor cX12_airFor 2 (some .int) 0 [.int p1, .int p2] h (some (.int r)) h0 := by
  refine Cn_of (L := [some (.int p1), some (.int p2)]) (by decide +kernel) (by simp [lg_sl, Value.category]) (fun ad => by simp [lg_sl, tv, Value.category]) (⟨rfl, ⟨rfl, trivial⟩⟩) ?_
  unfold fX12_airFor at H
  refine j_iload_n (pc := 0) dX12_airFor_0 rfl ?_
  refine j_iload_n (pc := 1) dX12_airFor_1 rfl ?_
  refine j_bipush (pc := 2) (v := 10) dX12_airFor_2 (by decide) ?_
  refine j_iadd (pc := 4) dX12_airFor_4 ?_
  refine j_imul (pc := 5) dX12_airFor_5 ?_
  refine j_bipush (pc := 6) (v := 9) dX12_airFor_6 (by decide) ?_
  refine j_iadd (pc := 8) dX12_airFor_8 ?_
  refine j_bipush (pc := 9) (v := 10) dX12_airFor_9 (by decide) ?_
  refine j_idiv (pc := 11) dX12_airFor_11 (by decide) ?_
  exact j_ireturn (pc := 12) dX12_airFor_12 rfl (ri_1 H) (ri_2 H)

noncomputable def fX12_blow (p1 : Int32) (p2 : Int32) (h : HS) : Option (Int32 × HS) := nm (pI h 0 22 (0 : Int32)) (fun h1 => bd (fX12_isOf p1 (0 : Int32) h1) (fun r3 h2 => if r3 = 0 then (some ((-1 : Int32), h2)) else (bd (fX12_isDepth p2 h2) (fun r6 h5 => if r6 = 0 then (some ((-1 : Int32), h5)) else (ck (inb p1 15) (bd (fX12_airFor ((gI h5 5 p1.toNatClampNeg)) p2 h5) (fun r10 h9 => if r10 ≤ (gI h9 0 15) then (nm (pI h9 0 15 ((gI h9 0 15) - r10)) (fun h12 => ck (inb p1 15) (nm (pI h12 5 p1.toNatClampNeg (0 : Int32)) (fun h13 => some ((gI h13 0 15), h13))))) else (some ((-2 : Int32), h9)))))))))
set_option maxRecDepth 100000 in
theorem tX12_blow {p1 : Int32} {p2 : Int32} {r : Int32} {h h0 : HS} (H : fX12_blow p1 p2 h = some (r, h0)) : Cn skM yX12_blow cX12_blow 4 (some .int) 3 [.ref 0, .int p1, .int p2] h (some (.int r)) h0 := by
  refine Cn_of (L := [some (.ref 0), some (.int p1), some (.int p2), none]) (by decide +kernel) (by simp [lg_sl, Value.category]) (fun ad => by simp [lg_sl, tv, Value.category]) (⟨rfl, ⟨rfl, ⟨rfl, trivial⟩⟩⟩) ?_
  unfold fX12_blow at H
  refine j_aload_n (pc := 0) dX12_blow_0 rfl ?_
  refine j_iconst (pc := 1) (v := 0) dX12_blow_1 (by decide) ?_
  obtain ⟨h1, eh1, H⟩ := nm_x H
  refine j_putI (pc := 2) dX12_blow_2 fpX12_133 rfl h1 eh1 ?_
  refine j_aload_n (pc := 5) dX12_blow_5 rfl ?_
  refine j_iload_n (pc := 6) dX12_blow_6 rfl ?_
  refine j_iconst (pc := 7) (v := 0) dX12_blow_7 (by decide) ?_
  obtain ⟨r3, h2, eh2, H⟩ := bd_x H
  refine j_callV (pc := 8) dX12_blow_8 mlX12_284 wyX12_isOf (tX12_isOf eh2) (by decide) rfl rfl rfl rfl (by simp [Value.category]) rfl ?_
  refine j_if_eq (pc := 11) (tgt := 21) dX12_blow_11 (by decide) (fun c4 => ?_) (fun c4 => ?_)
  · rw [if_pos c4] at H
    refine j_iconst (pc := 21) (v := -1) dX12_blow_21 (by decide) ?_
    exact j_ireturn (pc := 22) dX12_blow_22 rfl (ri_1 H) (ri_2 H)
  · rw [if_neg c4] at H
    refine j_iload_n (pc := 14) dX12_blow_14 rfl ?_
    obtain ⟨r6, h5, eh5, H⟩ := bd_x H
    refine j_callS (pc := 15) dX12_blow_15 mlX12_178 wyX12_isDepth (tX12_isDepth eh5) (by decide) rfl (by simp [Value.category]) rfl ?_
    refine j_if_ne (pc := 18) (tgt := 23) dX12_blow_18 (by decide) (fun c7 => ?_) (fun c7 => ?_)
    · rw [if_neg c7] at H
      refine j_aload_n (pc := 23) dX12_blow_23 rfl ?_
      refine j_getR (pc := 24) (b := 5) dX12_blow_24 flX12_22 rfl ?_
      refine j_iload_n (pc := 27) dX12_blow_27 rfl ?_
      obtain ⟨b8, H⟩ := ck_x H
      refine j_iaload (pc := 28) dX12_blow_28 rfl b8 rfl ?_
      refine j_iload_n (pc := 29) dX12_blow_29 rfl ?_
      obtain ⟨r10, h9, eh9, H⟩ := bd_x H
      refine j_callS (pc := 30) dX12_blow_30 mlX12_371 wyX12_airFor (tX12_airFor eh9) (by decide) rfl (by simp [Value.category]) rfl ?_
      refine j_istore_n (pc := 33) (L' := [some (.ref 0), some (.int p1), some (.int p2), some (.int r10)]) dX12_blow_33 (by decide) rfl ?_
      refine j_iload_n (pc := 34) dX12_blow_34 rfl ?_
      refine j_aload_n (pc := 35) dX12_blow_35 rfl ?_
      refine j_getI (pc := 36) dX12_blow_36 flX12_368 rfl ?_
      refine j_icmp_le (pc := 39) (tgt := 45) dX12_blow_39 (by decide) (fun c11 => ?_) (fun c11 => ?_)
      · rw [if_pos c11] at H
        refine j_aload_n (pc := 45) dX12_blow_45 rfl ?_
        refine j_dup (pc := 46) dX12_blow_46 rfl ?_
        refine j_getI (pc := 47) dX12_blow_47 flX12_368 rfl ?_
        refine j_iload_n (pc := 50) dX12_blow_50 rfl ?_
        refine j_isub (pc := 51) dX12_blow_51 ?_
        obtain ⟨h12, eh12, H⟩ := nm_x H
        refine j_putI (pc := 52) dX12_blow_52 fpX12_368 rfl h12 eh12 ?_
        refine j_aload_n (pc := 55) dX12_blow_55 rfl ?_
        refine j_getR (pc := 56) (b := 5) dX12_blow_56 flX12_22 rfl ?_
        refine j_iload_n (pc := 59) dX12_blow_59 rfl ?_
        refine j_iconst (pc := 60) (v := 0) dX12_blow_60 (by decide) ?_
        obtain ⟨b14, H⟩ := ck_x H
        obtain ⟨h13, eh13, H⟩ := nm_x H
        refine j_iastore (pc := 61) dX12_blow_61 rfl b14 rfl h13 eh13 ?_
        refine j_aload_n (pc := 62) dX12_blow_62 rfl ?_
        refine j_getI (pc := 63) dX12_blow_63 flX12_368 rfl ?_
        exact j_ireturn (pc := 66) dX12_blow_66 rfl (ri_1 H) (ri_2 H)
      · rw [if_neg c11] at H
        refine j_bipush (pc := 42) (v := -2) dX12_blow_42 (by decide) ?_
        exact j_ireturn (pc := 44) dX12_blow_44 rfl (ri_1 H) (ri_2 H)
    · rw [if_pos c7] at H
      refine j_iconst (pc := 21) (v := -1) dX12_blow_21 (by decide) ?_
      exact j_ireturn (pc := 22) dX12_blow_22 rfl (ri_1 H) (ri_2 H)

noncomputable def fX12_areTanks_26 : Nat → Int32 → Int32 → HS → Option (Int32 × HS)
  | 0, _, _, _ => none
  | n + 1, v1, v3, h => if (gI h 0 0) ≤ v3 then (some ((1 : Int32), h)) else (bd (fX12_has v1 v3 h) (fun r8 h7 => if r8 = 0 then (nm (v3 + (1 : Int32)) (fun v3_10 => fX12_areTanks_26 n v1 v3_10 h7)) else (ck (inb v3 15) (if (gI h7 1 v3.toNatClampNeg) = 0 then (nm (v3 + (1 : Int32)) (fun v3_13 => fX12_areTanks_26 n v1 v3_13 h7)) else (some ((0 : Int32), h7))))))
set_option maxRecDepth 100000 in
theorem jX12_areTanks_26 {r : Int32} {h0 : HS} : ∀ (n : Nat) (v1 : Int32) (v3 : Int32) (h : HS), fX12_areTanks_26 n v1 v3 h = some (r, h0) → Jx skM RX12 cX12_areTanks 4 (some .boolean) 1 (some (.int r)) h0 26 [some (.ref 0), some (.int v1), none, some (.int v3)] [] h := by
  intro n
  induction n with
  | zero => intro v1 v3  h H; cases H
  | succ n ih =>
    intro v1 v3  h H
    rw [fX12_areTanks_26] at H
    refine j_iload_n (pc := 26) dX12_areTanks_26 rfl ?_
    refine j_aload_n (pc := 27) dX12_areTanks_27 rfl ?_
    refine j_getI (pc := 28) dX12_areTanks_28 flX12_139 rfl ?_
    refine j_icmp_ge (pc := 31) (tgt := 59) dX12_areTanks_31 (by decide) (fun c6 => ?_) (fun c6 => ?_)
    · rw [if_pos c6] at H
      refine j_iconst (pc := 59) (v := 1) dX12_areTanks_59 (by decide) ?_
      exact j_zreturn (pc := 60) dX12_areTanks_60 rfl (rz1 H) (ri_2 H)
    · rw [if_neg c6] at H
      refine j_iload_n (pc := 34) dX12_areTanks_34 rfl ?_
      refine j_iload_n (pc := 35) dX12_areTanks_35 rfl ?_
      obtain ⟨r8, h7, eh7, H⟩ := bd_x H
      refine j_callS (pc := 36) dX12_areTanks_36 mlX12_366 wyX12_has (tX12_has eh7) (by decide) rfl (by simp [Value.category]) rfl ?_
      refine j_if_eq (pc := 39) (tgt := 53) dX12_areTanks_39 (by decide) (fun c9 => ?_) (fun c9 => ?_)
      · rw [if_pos c9] at H
        obtain ⟨v3_10, ev3_10, H⟩ := nm_x H
        refine j_iinc (pc := 53) (L' := [some (.ref 0), some (.int v1), none, some (.int v3_10)]) (w := 1) dX12_areTanks_53 rfl (by decide) (by decide) v3_10 ev3_10 rfl ?_
        refine j_goto (pc := 56) (tgt := 26) dX12_areTanks_56 (by decide) ?_
        refine Jx.sub (L' := [some (.ref 0), some (.int v1), none, some (.int v3_10)]) (⟨rfl, ⟨rfl, ⟨rfl, trivial⟩⟩⟩) ?_
        exact ih v1 v3_10 h7 H
      · rw [if_neg c9] at H
        refine j_aload_n (pc := 42) dX12_areTanks_42 rfl ?_
        refine j_getR (pc := 43) (b := 1) dX12_areTanks_43 flX12_9 rfl ?_
        refine j_iload_n (pc := 46) dX12_areTanks_46 rfl ?_
        obtain ⟨b11, H⟩ := ck_x H
        refine j_iaload (pc := 47) dX12_areTanks_47 rfl b11 rfl ?_
        refine j_if_eq (pc := 48) (tgt := 53) dX12_areTanks_48 (by decide) (fun c12 => ?_) (fun c12 => ?_)
        · rw [if_pos c12] at H
          obtain ⟨v3_13, ev3_13, H⟩ := nm_x H
          refine j_iinc (pc := 53) (L' := [some (.ref 0), some (.int v1), none, some (.int v3_13)]) (w := 1) dX12_areTanks_53 rfl (by decide) (by decide) v3_13 ev3_13 rfl ?_
          refine j_goto (pc := 56) (tgt := 26) dX12_areTanks_56 (by decide) ?_
          refine Jx.sub (L' := [some (.ref 0), some (.int v1), none, some (.int v3_13)]) (⟨rfl, ⟨rfl, ⟨rfl, trivial⟩⟩⟩) ?_
          exact ih v1 v3_13 h7 H
        · rw [if_neg c12] at H
          refine j_iconst (pc := 51) (v := 0) dX12_areTanks_51 (by decide) ?_
          exact j_zreturn (pc := 52) dX12_areTanks_52 rfl (rz0 H) (ri_2 H)
noncomputable def fX12_areTanks (p1 : Int32) (p2 : Int32) (h : HS) : Option (Int32 × HS) := if p1 ≤ 0 then (some ((0 : Int32), h)) else (if ((1 : Int32) <<< ((gI h 0 0) &&& 31)) ≤ p1 then (some ((0 : Int32), h)) else (bd (fJ6_bitCount_0f7a4 p1 h) (fun r4 h3 => if r4 ≤ p2 then (fX12_areTanks_26 FU p1 (0 : Int32) h3) else (some ((0 : Int32), h3)))))
set_option maxRecDepth 100000 in
theorem tX12_areTanks {p1 : Int32} {p2 : Int32} {r : Int32} {h h0 : HS} (H : fX12_areTanks p1 p2 h = some (r, h0)) : Cn skM yX12_areTanks cX12_areTanks 4 (some .boolean) 1 [.ref 0, .int p1, .int p2] h (some (.int r)) h0 := by
  refine Cn_of (L := [some (.ref 0), some (.int p1), some (.int p2), none]) (by decide +kernel) (by simp [lg_sl, Value.category]) (fun ad => by simp [lg_sl, tv, Value.category]) (⟨rfl, ⟨rfl, ⟨rfl, trivial⟩⟩⟩) ?_
  unfold fX12_areTanks at H
  refine j_iload_n (pc := 0) dX12_areTanks_0 rfl ?_
  refine j_if_le (pc := 1) (tgt := 22) dX12_areTanks_1 (by decide) (fun c1 => ?_) (fun c1 => ?_)
  · rw [if_pos c1] at H
    refine j_iconst (pc := 22) (v := 0) dX12_areTanks_22 (by decide) ?_
    exact j_zreturn (pc := 23) dX12_areTanks_23 rfl (rz0 H) (ri_2 H)
  · rw [if_neg c1] at H
    refine j_iload_n (pc := 4) dX12_areTanks_4 rfl ?_
    refine j_iconst (pc := 5) (v := 1) dX12_areTanks_5 (by decide) ?_
    refine j_aload_n (pc := 6) dX12_areTanks_6 rfl ?_
    refine j_getI (pc := 7) dX12_areTanks_7 flX12_139 rfl ?_
    refine j_ishl (pc := 10) dX12_areTanks_10 ?_
    refine j_icmp_ge (pc := 11) (tgt := 22) dX12_areTanks_11 (by decide) (fun c2 => ?_) (fun c2 => ?_)
    · rw [if_pos c2] at H
      refine j_iconst (pc := 22) (v := 0) dX12_areTanks_22 (by decide) ?_
      exact j_zreturn (pc := 23) dX12_areTanks_23 rfl (rz0 H) (ri_2 H)
    · rw [if_neg c2] at H
      refine j_iload_n (pc := 14) dX12_areTanks_14 rfl ?_
      obtain ⟨r4, h3, eh3, H⟩ := bd_x H
      refine j_callS (pc := 15) dX12_areTanks_15 mlX12_361 wyJ6_bitCount_0f7a4 (tJ6_bitCount_0f7a4 eh3) (by decide) rfl (by simp [Value.category]) rfl ?_
      refine j_iload_n (pc := 18) dX12_areTanks_18 rfl ?_
      refine j_icmp_le (pc := 19) (tgt := 24) dX12_areTanks_19 (by decide) (fun c5 => ?_) (fun c5 => ?_)
      · rw [if_pos c5] at H
        refine j_iconst (pc := 24) (v := 0) dX12_areTanks_24 (by decide) ?_
        refine j_istore_n (pc := 25) (L' := [some (.ref 0), some (.int p1), some (.int p2), some (.int (0 : Int32))]) dX12_areTanks_25 (by decide) rfl ?_
        refine Jx.sub (L' := [some (.ref 0), some (.int p1), none, some (.int (0 : Int32))]) (⟨rfl, ⟨rfl, ⟨rfl, trivial⟩⟩⟩) ?_
        exact jX12_areTanks_26 FU p1 (0 : Int32) h3 H
      · rw [if_neg c5] at H
        refine j_iconst (pc := 22) (v := 0) dX12_areTanks_22 (by decide) ?_
        exact j_zreturn (pc := 23) dX12_areTanks_23 rfl (rz0 H) (ri_2 H)
