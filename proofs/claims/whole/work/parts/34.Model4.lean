theorem dX12_rise_0 : decode cX12_rise 0 = .ok (.aload_n 0, 1) := by decide +kernel
theorem dX12_rise_1 : decode cX12_rise 1 = .ok (.iconst 0, 1) := by decide +kernel
theorem dX12_rise_2 : decode cX12_rise 2 = .ok (.putfield 133, 3) := by decide +kernel
theorem dX12_rise_5 : decode cX12_rise 5 = .ok (.aload_n 0, 1) := by decide +kernel
theorem dX12_rise_6 : decode cX12_rise 6 = .ok (.iload_n 1, 1) := by decide +kernel
theorem dX12_rise_7 : decode cX12_rise 7 = .ok (.bipush 8, 2) := by decide +kernel
theorem dX12_rise_9 : decode cX12_rise 9 = .ok (.invokevirtual 374, 3) := by decide +kernel
theorem dX12_rise_12 : decode cX12_rise 12 = .ok (.ifCond .eq 10, 3) := by decide +kernel
theorem dX12_rise_15 : decode cX12_rise 15 = .ok (.iload_n 2, 1) := by decide +kernel
theorem dX12_rise_16 : decode cX12_rise 16 = .ok (.invokestatic 178, 3) := by decide +kernel
theorem dX12_rise_19 : decode cX12_rise 19 = .ok (.ifCond .ne 5, 3) := by decide +kernel
theorem dX12_rise_22 : decode cX12_rise 22 = .ok (.iconst (-1), 1) := by decide +kernel
theorem dX12_rise_23 : decode cX12_rise 23 = .ok (.ireturn, 1) := by decide +kernel
theorem dX12_rise_24 : decode cX12_rise 24 = .ok (.iconst (-1), 1) := by decide +kernel
theorem dX12_rise_25 : decode cX12_rise 25 = .ok (.istore_n 3, 1) := by decide +kernel
theorem dX12_rise_26 : decode cX12_rise 26 = .ok (.iconst 0, 1) := by decide +kernel
theorem dX12_rise_27 : decode cX12_rise 27 = .ok (.istore 4, 2) := by decide +kernel
theorem dX12_rise_29 : decode cX12_rise 29 = .ok (.iconst 0, 1) := by decide +kernel
theorem dX12_rise_30 : decode cX12_rise 30 = .ok (.istore 5, 2) := by decide +kernel
theorem dX12_rise_32 : decode cX12_rise 32 = .ok (.iload 5, 2) := by decide +kernel
theorem dX12_rise_34 : decode cX12_rise 34 = .ok (.iload_n 1, 1) := by decide +kernel
theorem dX12_rise_35 : decode cX12_rise 35 = .ok (.if_icmp .gt 148, 3) := by decide +kernel
theorem dX12_rise_38 : decode cX12_rise 38 = .ok (.iload 5, 2) := by decide +kernel
theorem dX12_rise_40 : decode cX12_rise 40 = .ok (.iload_n 1, 1) := by decide +kernel
theorem dX12_rise_41 : decode cX12_rise 41 = .ok (.iconst (-1), 1) := by decide +kernel
theorem dX12_rise_42 : decode cX12_rise 42 = .ok (.ixor, 1) := by decide +kernel
theorem dX12_rise_43 : decode cX12_rise 43 = .ok (.iand, 1) := by decide +kernel
theorem dX12_rise_44 : decode cX12_rise 44 = .ok (.ifCond .eq 6, 3) := by decide +kernel
theorem dX12_rise_47 : decode cX12_rise 47 = .ok (.goto 130, 3) := by decide +kernel
theorem dX12_rise_50 : decode cX12_rise 50 = .ok (.iconst 0, 1) := by decide +kernel
theorem dX12_rise_51 : decode cX12_rise 51 = .ok (.istore 6, 2) := by decide +kernel
theorem dX12_rise_53 : decode cX12_rise 53 = .ok (.aload_n 0, 1) := by decide +kernel
theorem dX12_rise_54 : decode cX12_rise 54 = .ok (.iload_n 2, 1) := by decide +kernel
theorem dX12_rise_55 : decode cX12_rise 55 = .ok (.invokevirtual 198, 3) := by decide +kernel
theorem dX12_rise_58 : decode cX12_rise 58 = .ok (.istore 7, 2) := by decide +kernel
theorem dX12_rise_60 : decode cX12_rise 60 = .ok (.iconst 0, 1) := by decide +kernel
theorem dX12_rise_61 : decode cX12_rise 61 = .ok (.istore 8, 2) := by decide +kernel
theorem dX12_rise_63 : decode cX12_rise 63 = .ok (.iload 8, 2) := by decide +kernel
theorem dX12_rise_65 : decode cX12_rise 65 = .ok (.aload_n 0, 1) := by decide +kernel
theorem dX12_rise_66 : decode cX12_rise 66 = .ok (.getfield 139, 3) := by decide +kernel
theorem dX12_rise_69 : decode cX12_rise 69 = .ok (.if_icmp .ge 50, 3) := by decide +kernel
theorem dX12_rise_72 : decode cX12_rise 72 = .ok (.iload 5, 2) := by decide +kernel
theorem dX12_rise_74 : decode cX12_rise 74 = .ok (.iload 8, 2) := by decide +kernel
theorem dX12_rise_76 : decode cX12_rise 76 = .ok (.invokestatic 366, 3) := by decide +kernel
theorem dX12_rise_79 : decode cX12_rise 79 = .ok (.ifCond .ne 6, 3) := by decide +kernel
theorem dX12_rise_82 : decode cX12_rise 82 = .ok (.goto 31, 3) := by decide +kernel
theorem dX12_rise_85 : decode cX12_rise 85 = .ok (.iload 6, 2) := by decide +kernel
theorem dX12_rise_87 : decode cX12_rise 87 = .ok (.aload_n 0, 1) := by decide +kernel
theorem dX12_rise_88 : decode cX12_rise 88 = .ok (.getfield 22, 3) := by decide +kernel
theorem dX12_rise_91 : decode cX12_rise 91 = .ok (.iload 8, 2) := by decide +kernel
theorem dX12_rise_93 : decode cX12_rise 93 = .ok (.iaload, 1) := by decide +kernel
theorem dX12_rise_94 : decode cX12_rise 94 = .ok (.iload_n 2, 1) := by decide +kernel
theorem dX12_rise_95 : decode cX12_rise 95 = .ok (.invokestatic 371, 3) := by decide +kernel
theorem dX12_rise_98 : decode cX12_rise 98 = .ok (.iadd, 1) := by decide +kernel
theorem dX12_rise_99 : decode cX12_rise 99 = .ok (.istore 6, 2) := by decide +kernel
theorem dX12_rise_101 : decode cX12_rise 101 = .ok (.iload 7, 2) := by decide +kernel
theorem dX12_rise_103 : decode cX12_rise 103 = .ok (.aload_n 0, 1) := by decide +kernel
theorem dX12_rise_104 : decode cX12_rise 104 = .ok (.getfield 22, 3) := by decide +kernel
theorem dX12_rise_107 : decode cX12_rise 107 = .ok (.iload 8, 2) := by decide +kernel
theorem dX12_rise_109 : decode cX12_rise 109 = .ok (.iaload, 1) := by decide +kernel
theorem dX12_rise_110 : decode cX12_rise 110 = .ok (.isub, 1) := by decide +kernel
theorem dX12_rise_111 : decode cX12_rise 111 = .ok (.istore 7, 2) := by decide +kernel
theorem dX12_rise_113 : decode cX12_rise 113 = .ok (.iinc 8 1, 3) := by decide +kernel
theorem dX12_rise_116 : decode cX12_rise 116 = .ok (.goto (-53), 3) := by decide +kernel
theorem dX12_rise_119 : decode cX12_rise 119 = .ok (.iload 7, 2) := by decide +kernel
theorem dX12_rise_121 : decode cX12_rise 121 = .ok (.ifCond .ge 56, 3) := by decide +kernel
theorem dX12_rise_124 : decode cX12_rise 124 = .ok (.iload 6, 2) := by decide +kernel
theorem dX12_rise_126 : decode cX12_rise 126 = .ok (.aload_n 0, 1) := by decide +kernel
theorem dX12_rise_127 : decode cX12_rise 127 = .ok (.getfield 368, 3) := by decide +kernel
theorem dX12_rise_130 : decode cX12_rise 130 = .ok (.if_icmp .le 6, 3) := by decide +kernel
theorem dX12_rise_133 : decode cX12_rise 133 = .ok (.goto 44, 3) := by decide +kernel
theorem dX12_rise_136 : decode cX12_rise 136 = .ok (.iload_n 3, 1) := by decide +kernel
theorem dX12_rise_137 : decode cX12_rise 137 = .ok (.iconst (-1), 1) := by decide +kernel
theorem dX12_rise_138 : decode cX12_rise 138 = .ok (.if_icmp .eq 32, 3) := by decide +kernel
theorem dX12_rise_141 : decode cX12_rise 141 = .ok (.iload 6, 2) := by decide +kernel
theorem dX12_rise_143 : decode cX12_rise 143 = .ok (.iload 4, 2) := by decide +kernel
theorem dX12_rise_145 : decode cX12_rise 145 = .ok (.if_icmp .gt 32, 3) := by decide +kernel
theorem dX12_rise_148 : decode cX12_rise 148 = .ok (.iload 6, 2) := by decide +kernel
theorem dX12_rise_150 : decode cX12_rise 150 = .ok (.iload 4, 2) := by decide +kernel
theorem dX12_rise_152 : decode cX12_rise 152 = .ok (.if_icmp .ne 18, 3) := by decide +kernel
theorem dX12_rise_155 : decode cX12_rise 155 = .ok (.iload 5, 2) := by decide +kernel
theorem dX12_rise_157 : decode cX12_rise 157 = .ok (.invokestatic 361, 3) := by decide +kernel
theorem dX12_rise_160 : decode cX12_rise 160 = .ok (.iload_n 3, 1) := by decide +kernel
theorem dX12_rise_161 : decode cX12_rise 161 = .ok (.invokestatic 361, 3) := by decide +kernel
theorem dX12_rise_164 : decode cX12_rise 164 = .ok (.if_icmp .lt 6, 3) := by decide +kernel
theorem dX12_rise_167 : decode cX12_rise 167 = .ok (.goto 10, 3) := by decide +kernel
theorem dX12_rise_170 : decode cX12_rise 170 = .ok (.iload 5, 2) := by decide +kernel
theorem dX12_rise_172 : decode cX12_rise 172 = .ok (.istore_n 3, 1) := by decide +kernel
theorem dX12_rise_173 : decode cX12_rise 173 = .ok (.iload 6, 2) := by decide +kernel
theorem dX12_rise_175 : decode cX12_rise 175 = .ok (.istore 4, 2) := by decide +kernel
theorem dX12_rise_177 : decode cX12_rise 177 = .ok (.iinc 5 1, 3) := by decide +kernel
theorem dX12_rise_180 : decode cX12_rise 180 = .ok (.goto (-148), 3) := by decide +kernel
theorem dX12_rise_183 : decode cX12_rise 183 = .ok (.iload_n 3, 1) := by decide +kernel
theorem dX12_rise_184 : decode cX12_rise 184 = .ok (.iconst (-1), 1) := by decide +kernel
theorem dX12_rise_185 : decode cX12_rise 185 = .ok (.if_icmp .ne 6, 3) := by decide +kernel
theorem dX12_rise_188 : decode cX12_rise 188 = .ok (.bipush (-2), 2) := by decide +kernel
theorem dX12_rise_190 : decode cX12_rise 190 = .ok (.ireturn, 1) := by decide +kernel
theorem dX12_rise_191 : decode cX12_rise 191 = .ok (.aload_n 0, 1) := by decide +kernel
theorem dX12_rise_192 : decode cX12_rise 192 = .ok (.iload_n 2, 1) := by decide +kernel
theorem dX12_rise_193 : decode cX12_rise 193 = .ok (.invokevirtual 198, 3) := by decide +kernel
theorem dX12_rise_196 : decode cX12_rise 196 = .ok (.ifCond .ge 8, 3) := by decide +kernel
theorem dX12_rise_199 : decode cX12_rise 199 = .ok (.iconst 0, 1) := by decide +kernel
theorem dX12_rise_200 : decode cX12_rise 200 = .ok (.istore_n 3, 1) := by decide +kernel
theorem dX12_rise_201 : decode cX12_rise 201 = .ok (.iconst 0, 1) := by decide +kernel
theorem dX12_rise_202 : decode cX12_rise 202 = .ok (.istore 4, 2) := by decide +kernel
theorem dX12_rise_204 : decode cX12_rise 204 = .ok (.aload_n 0, 1) := by decide +kernel
theorem dX12_rise_205 : decode cX12_rise 205 = .ok (.iconst 0, 1) := by decide +kernel
theorem dX12_rise_206 : decode cX12_rise 206 = .ok (.putfield 136, 3) := by decide +kernel
theorem dX12_rise_209 : decode cX12_rise 209 = .ok (.aload_n 0, 1) := by decide +kernel
theorem dX12_rise_210 : decode cX12_rise 210 = .ok (.iload_n 3, 1) := by decide +kernel
theorem dX12_rise_211 : decode cX12_rise 211 = .ok (.invokevirtual 210, 3) := by decide +kernel
theorem dX12_rise_214 : decode cX12_rise 214 = .ok (.aload_n 0, 1) := by decide +kernel
theorem dX12_rise_215 : decode cX12_rise 215 = .ok (.aload_n 0, 1) := by decide +kernel
theorem dX12_rise_216 : decode cX12_rise 216 = .ok (.getfield 368, 3) := by decide +kernel
theorem dX12_rise_219 : decode cX12_rise 219 = .ok (.iload 4, 2) := by decide +kernel
theorem dX12_rise_221 : decode cX12_rise 221 = .ok (.isub, 1) := by decide +kernel
theorem dX12_rise_222 : decode cX12_rise 222 = .ok (.invokevirtual 210, 3) := by decide +kernel
theorem dX12_rise_225 : decode cX12_rise 225 = .ok (.iload_n 3, 1) := by decide +kernel
theorem dX12_rise_226 : decode cX12_rise 226 = .ok (.invokestatic 361, 3) := by decide +kernel
theorem dX12_rise_229 : decode cX12_rise 229 = .ok (.ireturn, 1) := by decide +kernel
theorem dX12_times_0 : decode cX12_times 0 = .ok (.aload_n 0, 1) := by decide +kernel
theorem dX12_times_1 : decode cX12_times 1 = .ok (.iconst 0, 1) := by decide +kernel
theorem dX12_times_2 : decode cX12_times 2 = .ok (.putfield 133, 3) := by decide +kernel
theorem dX12_times_5 : decode cX12_times 5 = .ok (.aload_n 0, 1) := by decide +kernel
theorem dX12_times_6 : decode cX12_times 6 = .ok (.iload_n 1, 1) := by decide +kernel
theorem dX12_times_7 : decode cX12_times 7 = .ok (.bipush 15, 2) := by decide +kernel
theorem dX12_times_9 : decode cX12_times 9 = .ok (.invokevirtual 374, 3) := by decide +kernel
theorem dX12_times_12 : decode cX12_times 12 = .ok (.ifCond .eq 10, 3) := by decide +kernel
theorem dX12_times_15 : decode cX12_times 15 = .ok (.iload_n 2, 1) := by decide +kernel
theorem dX12_times_16 : decode cX12_times 16 = .ok (.invokestatic 178, 3) := by decide +kernel
theorem dX12_times_19 : decode cX12_times 19 = .ok (.ifCond .ne 5, 3) := by decide +kernel
theorem dX12_times_22 : decode cX12_times 22 = .ok (.iconst (-1), 1) := by decide +kernel
theorem dX12_times_23 : decode cX12_times 23 = .ok (.ireturn, 1) := by decide +kernel
theorem dX12_times_24 : decode cX12_times 24 = .ok (.iconst 0, 1) := by decide +kernel
theorem dX12_times_25 : decode cX12_times 25 = .ok (.istore_n 3, 1) := by decide +kernel
theorem dX12_times_26 : decode cX12_times 26 = .ok (.iconst 0, 1) := by decide +kernel
theorem dX12_times_27 : decode cX12_times 27 = .ok (.istore 4, 2) := by decide +kernel
theorem dX12_times_29 : decode cX12_times 29 = .ok (.iload 4, 2) := by decide +kernel
theorem dX12_times_31 : decode cX12_times 31 = .ok (.aload_n 0, 1) := by decide +kernel
theorem dX12_times_32 : decode cX12_times 32 = .ok (.getfield 139, 3) := by decide +kernel
theorem dX12_times_35 : decode cX12_times 35 = .ok (.if_icmp .ge 32, 3) := by decide +kernel
theorem dX12_times_38 : decode cX12_times 38 = .ok (.iload_n 1, 1) := by decide +kernel
theorem dX12_times_39 : decode cX12_times 39 = .ok (.iload 4, 2) := by decide +kernel
theorem dX12_times_41 : decode cX12_times 41 = .ok (.invokestatic 366, 3) := by decide +kernel
theorem dX12_times_44 : decode cX12_times 44 = .ok (.ifCond .eq 17, 3) := by decide +kernel
theorem dX12_times_47 : decode cX12_times 47 = .ok (.iload_n 3, 1) := by decide +kernel
theorem dX12_times_48 : decode cX12_times 48 = .ok (.aload_n 0, 1) := by decide +kernel
theorem dX12_times_49 : decode cX12_times 49 = .ok (.getfield 19, 3) := by decide +kernel
theorem dX12_times_52 : decode cX12_times 52 = .ok (.iload 4, 2) := by decide +kernel
theorem dX12_times_54 : decode cX12_times 54 = .ok (.iaload, 1) := by decide +kernel
theorem dX12_times_55 : decode cX12_times 55 = .ok (.iload_n 2, 1) := by decide +kernel
theorem dX12_times_56 : decode cX12_times 56 = .ok (.invokestatic 371, 3) := by decide +kernel
theorem dX12_times_59 : decode cX12_times 59 = .ok (.iadd, 1) := by decide +kernel
theorem dX12_times_60 : decode cX12_times 60 = .ok (.istore_n 3, 1) := by decide +kernel
theorem dX12_times_61 : decode cX12_times 61 = .ok (.iinc 4 1, 3) := by decide +kernel
theorem dX12_times_64 : decode cX12_times 64 = .ok (.goto (-35), 3) := by decide +kernel
theorem dX12_times_67 : decode cX12_times 67 = .ok (.iload_n 3, 1) := by decide +kernel
theorem dX12_times_68 : decode cX12_times 68 = .ok (.ifCond .ne 5, 3) := by decide +kernel
theorem dX12_times_71 : decode cX12_times 71 = .ok (.iconst (-1), 1) := by decide +kernel
theorem dX12_times_72 : decode cX12_times 72 = .ok (.ireturn, 1) := by decide +kernel
theorem dX12_times_73 : decode cX12_times 73 = .ok (.aload_n 0, 1) := by decide +kernel
theorem dX12_times_74 : decode cX12_times 74 = .ok (.iconst 0, 1) := by decide +kernel
theorem dX12_times_75 : decode cX12_times 75 = .ok (.putfield 136, 3) := by decide +kernel
theorem dX12_times_78 : decode cX12_times 78 = .ok (.aload_n 0, 1) := by decide +kernel
theorem dX12_times_79 : decode cX12_times 79 = .ok (.aload_n 0, 1) := by decide +kernel
theorem dX12_times_80 : decode cX12_times 80 = .ok (.getfield 368, 3) := by decide +kernel
theorem dX12_times_83 : decode cX12_times 83 = .ok (.iload_n 3, 1) := by decide +kernel
theorem dX12_times_84 : decode cX12_times 84 = .ok (.irem, 1) := by decide +kernel
theorem dX12_times_85 : decode cX12_times 85 = .ok (.invokevirtual 210, 3) := by decide +kernel
theorem dX12_times_88 : decode cX12_times 88 = .ok (.aload_n 0, 1) := by decide +kernel
theorem dX12_times_89 : decode cX12_times 89 = .ok (.getfield 368, 3) := by decide +kernel
theorem dX12_times_92 : decode cX12_times 92 = .ok (.iload_n 3, 1) := by decide +kernel
theorem dX12_times_93 : decode cX12_times 93 = .ok (.idiv, 1) := by decide +kernel
theorem dX12_times_94 : decode cX12_times 94 = .ok (.ireturn, 1) := by decide +kernel
theorem dX12_eats_0 : decode cX12_eats 0 = .ok (.aload_n 0, 1) := by decide +kernel
theorem dX12_eats_1 : decode cX12_eats 1 = .ok (.iconst 0, 1) := by decide +kernel
theorem dX12_eats_2 : decode cX12_eats 2 = .ok (.putfield 133, 3) := by decide +kernel
theorem dX12_eats_5 : decode cX12_eats 5 = .ok (.aload_n 0, 1) := by decide +kernel
theorem dX12_eats_6 : decode cX12_eats 6 = .ok (.iload_n 1, 1) := by decide +kernel
theorem dX12_eats_7 : decode cX12_eats 7 = .ok (.iconst 1, 1) := by decide +kernel
theorem dX12_eats_8 : decode cX12_eats 8 = .ok (.invokevirtual 284, 3) := by decide +kernel
theorem dX12_eats_11 : decode cX12_eats 11 = .ok (.ifCond .eq 55, 3) := by decide +kernel
theorem dX12_eats_14 : decode cX12_eats 14 = .ok (.iload_n 2, 1) := by decide +kernel
theorem dX12_eats_15 : decode cX12_eats 15 = .ok (.iconst 0, 1) := by decide +kernel
theorem dX12_eats_16 : decode cX12_eats 16 = .ok (.bipush 50, 2) := by decide +kernel
theorem dX12_eats_18 : decode cX12_eats 18 = .ok (.invokestatic 142, 3) := by decide +kernel
theorem dX12_eats_21 : decode cX12_eats 21 = .ok (.ifCond .eq 45, 3) := by decide +kernel
theorem dX12_eats_24 : decode cX12_eats 24 = .ok (.iload_n 3, 1) := by decide +kernel
theorem dX12_eats_25 : decode cX12_eats 25 = .ok (.iconst 0, 1) := by decide +kernel
theorem dX12_eats_26 : decode cX12_eats 26 = .ok (.bipush 100, 2) := by decide +kernel
theorem dX12_eats_28 : decode cX12_eats 28 = .ok (.invokestatic 142, 3) := by decide +kernel
theorem dX12_eats_31 : decode cX12_eats 31 = .ok (.ifCond .eq 35, 3) := by decide +kernel
theorem dX12_eats_34 : decode cX12_eats 34 = .ok (.iload 4, 2) := by decide +kernel
theorem dX12_eats_36 : decode cX12_eats 36 = .ok (.iconst (-1), 1) := by decide +kernel
theorem dX12_eats_37 : decode cX12_eats 37 = .ok (.if_icmp .eq 31, 3) := by decide +kernel
theorem dX12_eats_40 : decode cX12_eats 40 = .ok (.iload 4, 2) := by decide +kernel
theorem dX12_eats_42 : decode cX12_eats 42 = .ok (.iload_n 1, 1) := by decide +kernel
theorem dX12_eats_43 : decode cX12_eats 43 = .ok (.if_icmp .eq 23, 3) := by decide +kernel
theorem dX12_eats_46 : decode cX12_eats 46 = .ok (.aload_n 0, 1) := by decide +kernel
theorem dX12_eats_47 : decode cX12_eats 47 = .ok (.iload 4, 2) := by decide +kernel
theorem dX12_eats_49 : decode cX12_eats 49 = .ok (.invokevirtual 146, 3) := by decide +kernel
theorem dX12_eats_52 : decode cX12_eats 52 = .ok (.ifCond .eq 14, 3) := by decide +kernel
theorem dX12_eats_55 : decode cX12_eats 55 = .ok (.aload_n 0, 1) := by decide +kernel
theorem dX12_eats_56 : decode cX12_eats 56 = .ok (.getfield 9, 3) := by decide +kernel
theorem dX12_eats_59 : decode cX12_eats 59 = .ok (.iload 4, 2) := by decide +kernel
theorem dX12_eats_61 : decode cX12_eats 61 = .ok (.iaload, 1) := by decide +kernel
theorem dX12_eats_62 : decode cX12_eats 62 = .ok (.iconst 1, 1) := by decide +kernel
theorem dX12_eats_63 : decode cX12_eats 63 = .ok (.if_icmp .le 5, 3) := by decide +kernel
theorem dX12_eats_66 : decode cX12_eats 66 = .ok (.iconst 0, 1) := by decide +kernel
theorem dX12_eats_67 : decode cX12_eats 67 = .ok (.ireturn, 1) := by decide +kernel
theorem dX12_eats_68 : decode cX12_eats 68 = .ok (.aload_n 0, 1) := by decide +kernel
theorem dX12_eats_69 : decode cX12_eats 69 = .ok (.getfield 106, 3) := by decide +kernel
theorem dX12_eats_72 : decode cX12_eats 72 = .ok (.iload_n 1, 1) := by decide +kernel
theorem dX12_eats_73 : decode cX12_eats 73 = .ok (.iload_n 2, 1) := by decide +kernel
theorem dX12_eats_74 : decode cX12_eats 74 = .ok (.iastore, 1) := by decide +kernel
theorem dX12_eats_75 : decode cX12_eats 75 = .ok (.aload_n 0, 1) := by decide +kernel
theorem dX12_eats_76 : decode cX12_eats 76 = .ok (.getfield 109, 3) := by decide +kernel
theorem dX12_eats_79 : decode cX12_eats 79 = .ok (.iload_n 1, 1) := by decide +kernel
theorem dX12_eats_80 : decode cX12_eats 80 = .ok (.iload_n 3, 1) := by decide +kernel
theorem dX12_eats_81 : decode cX12_eats 81 = .ok (.iastore, 1) := by decide +kernel
theorem dX12_eats_82 : decode cX12_eats 82 = .ok (.aload_n 0, 1) := by decide +kernel
theorem dX12_eats_83 : decode cX12_eats 83 = .ok (.getfield 112, 3) := by decide +kernel
theorem dX12_eats_86 : decode cX12_eats 86 = .ok (.iload_n 1, 1) := by decide +kernel
theorem dX12_eats_87 : decode cX12_eats 87 = .ok (.iload 4, 2) := by decide +kernel
theorem dX12_eats_89 : decode cX12_eats 89 = .ok (.iastore, 1) := by decide +kernel
theorem dX12_eats_90 : decode cX12_eats 90 = .ok (.iconst 1, 1) := by decide +kernel
theorem dX12_eats_91 : decode cX12_eats 91 = .ok (.ireturn, 1) := by decide +kernel
theorem dX12_days_0 : decode cX12_days 0 = .ok (.aload_n 0, 1) := by decide +kernel
theorem dX12_days_1 : decode cX12_days 1 = .ok (.iconst 0, 1) := by decide +kernel
theorem dX12_days_2 : decode cX12_days 2 = .ok (.putfield 133, 3) := by decide +kernel
theorem dX12_days_5 : decode cX12_days 5 = .ok (.iload_n 1, 1) := by decide +kernel
theorem dX12_days_6 : decode cX12_days 6 = .ok (.iconst 0, 1) := by decide +kernel
theorem dX12_days_7 : decode cX12_days 7 = .ok (.sipush 400, 3) := by decide +kernel
theorem dX12_days_10 : decode cX12_days 10 = .ok (.invokestatic 142, 3) := by decide +kernel
theorem dX12_days_13 : decode cX12_days 13 = .ok (.ifCond .ne 5, 3) := by decide +kernel
theorem dX12_days_16 : decode cX12_days 16 = .ok (.iconst (-1), 1) := by decide +kernel
theorem dX12_days_17 : decode cX12_days 17 = .ok (.ireturn, 1) := by decide +kernel
theorem dX12_days_18 : decode cX12_days 18 = .ok (.iconst 0, 1) := by decide +kernel
theorem dX12_days_19 : decode cX12_days 19 = .ok (.istore_n 2, 1) := by decide +kernel
theorem dX12_days_20 : decode cX12_days 20 = .ok (.iload_n 2, 1) := by decide +kernel
theorem dX12_days_21 : decode cX12_days 21 = .ok (.iload_n 1, 1) := by decide +kernel
theorem dX12_days_22 : decode cX12_days 22 = .ok (.if_icmp .ge 13, 3) := by decide +kernel
theorem dX12_days_25 : decode cX12_days 25 = .ok (.aload_n 0, 1) := by decide +kernel
theorem dX12_days_26 : decode cX12_days 26 = .ok (.invokevirtual 295, 3) := by decide +kernel
theorem dX12_days_29 : decode cX12_days 29 = .ok (.iinc 2 1, 3) := by decide +kernel
theorem dX12_days_32 : decode cX12_days 32 = .ok (.goto (-12), 3) := by decide +kernel
theorem dX12_days_35 : decode cX12_days 35 = .ok (.iconst 0, 1) := by decide +kernel
theorem dX12_days_36 : decode cX12_days 36 = .ok (.istore_n 2, 1) := by decide +kernel
theorem dX12_days_37 : decode cX12_days 37 = .ok (.iconst 0, 1) := by decide +kernel
theorem dX12_days_38 : decode cX12_days 38 = .ok (.istore_n 3, 1) := by decide +kernel
theorem dX12_days_39 : decode cX12_days 39 = .ok (.iload_n 3, 1) := by decide +kernel
theorem dX12_days_40 : decode cX12_days 40 = .ok (.aload_n 0, 1) := by decide +kernel
theorem dX12_days_41 : decode cX12_days 41 = .ok (.getfield 139, 3) := by decide +kernel
theorem dX12_days_44 : decode cX12_days 44 = .ok (.if_icmp .ge 36, 3) := by decide +kernel
theorem dX12_days_47 : decode cX12_days 47 = .ok (.iload_n 2, 1) := by decide +kernel
theorem dX12_days_48 : decode cX12_days 48 = .ok (.aload_n 0, 1) := by decide +kernel
theorem dX12_days_49 : decode cX12_days 49 = .ok (.getfield 9, 3) := by decide +kernel
theorem dX12_days_52 : decode cX12_days 52 = .ok (.iload_n 3, 1) := by decide +kernel
theorem dX12_days_53 : decode cX12_days 53 = .ok (.iaload, 1) := by decide +kernel
theorem dX12_days_54 : decode cX12_days 54 = .ok (.iconst 1, 1) := by decide +kernel
theorem dX12_days_55 : decode cX12_days 55 = .ok (.if_icmp .ne 16, 3) := by decide +kernel
theorem dX12_days_58 : decode cX12_days 58 = .ok (.aload_n 0, 1) := by decide +kernel
theorem dX12_days_59 : decode cX12_days 59 = .ok (.getfield 22, 3) := by decide +kernel
theorem dX12_days_62 : decode cX12_days 62 = .ok (.iload_n 3, 1) := by decide +kernel
theorem dX12_days_63 : decode cX12_days 63 = .ok (.iaload, 1) := by decide +kernel
theorem dX12_days_64 : decode cX12_days 64 = .ok (.ifCond .ne 7, 3) := by decide +kernel
theorem dX12_days_67 : decode cX12_days 67 = .ok (.iconst 1, 1) := by decide +kernel
theorem dX12_days_68 : decode cX12_days 68 = .ok (.goto 4, 3) := by decide +kernel
theorem dX12_days_71 : decode cX12_days 71 = .ok (.iconst 0, 1) := by decide +kernel
theorem dX12_days_72 : decode cX12_days 72 = .ok (.iadd, 1) := by decide +kernel
theorem dX12_days_73 : decode cX12_days 73 = .ok (.istore_n 2, 1) := by decide +kernel
theorem dX12_days_74 : decode cX12_days 74 = .ok (.iinc 3 1, 3) := by decide +kernel
theorem dX12_days_77 : decode cX12_days 77 = .ok (.goto (-38), 3) := by decide +kernel
theorem dX12_days_80 : decode cX12_days 80 = .ok (.iload_n 2, 1) := by decide +kernel
theorem dX12_days_81 : decode cX12_days 81 = .ok (.ireturn, 1) := by decide +kernel
theorem dX12_lastsFor_0 : decode cX12_lastsFor 0 = .ok (.aload_n 0, 1) := by decide +kernel
theorem dX12_lastsFor_1 : decode cX12_lastsFor 1 = .ok (.getfield 262, 3) := by decide +kernel
theorem dX12_lastsFor_4 : decode cX12_lastsFor 4 = .ok (.istore_n 2, 1) := by decide +kernel
theorem dX12_lastsFor_5 : decode cX12_lastsFor 5 = .ok (.bipush (-2), 2) := by decide +kernel
theorem dX12_lastsFor_7 : decode cX12_lastsFor 7 = .ok (.istore_n 3, 1) := by decide +kernel
theorem dX12_lastsFor_8 : decode cX12_lastsFor 8 = .ok (.aload_n 0, 1) := by decide +kernel
theorem dX12_lastsFor_9 : decode cX12_lastsFor 9 = .ok (.invokevirtual 292, 3) := by decide +kernel
theorem dX12_lastsFor_12 : decode cX12_lastsFor 12 = .ok (.iconst 0, 1) := by decide +kernel
theorem dX12_lastsFor_13 : decode cX12_lastsFor 13 = .ok (.istore 4, 2) := by decide +kernel
theorem dX12_lastsFor_15 : decode cX12_lastsFor 15 = .ok (.iload 4, 2) := by decide +kernel
theorem dX12_lastsFor_17 : decode cX12_lastsFor 17 = .ok (.sipush 400, 3) := by decide +kernel
theorem dX12_lastsFor_20 : decode cX12_lastsFor 20 = .ok (.if_icmp .gt 28, 3) := by decide +kernel
theorem dX12_lastsFor_23 : decode cX12_lastsFor 23 = .ok (.iload_n 3, 1) := by decide +kernel
theorem dX12_lastsFor_24 : decode cX12_lastsFor 24 = .ok (.ifCond .ge 24, 3) := by decide +kernel
theorem dX12_lastsFor_27 : decode cX12_lastsFor 27 = .ok (.aload_n 0, 1) := by decide +kernel
theorem dX12_lastsFor_28 : decode cX12_lastsFor 28 = .ok (.iload_n 1, 1) := by decide +kernel
theorem dX12_lastsFor_29 : decode cX12_lastsFor 29 = .ok (.invokevirtual 329, 3) := by decide +kernel
theorem dX12_lastsFor_32 : decode cX12_lastsFor 32 = .ok (.ifCond .ne 6, 3) := by decide +kernel
theorem dX12_lastsFor_35 : decode cX12_lastsFor 35 = .ok (.iload 4, 2) := by decide +kernel
theorem dX12_lastsFor_37 : decode cX12_lastsFor 37 = .ok (.istore_n 3, 1) := by decide +kernel
theorem dX12_lastsFor_38 : decode cX12_lastsFor 38 = .ok (.aload_n 0, 1) := by decide +kernel
theorem dX12_lastsFor_39 : decode cX12_lastsFor 39 = .ok (.invokevirtual 295, 3) := by decide +kernel
theorem dX12_lastsFor_42 : decode cX12_lastsFor 42 = .ok (.iinc 4 1, 3) := by decide +kernel
theorem dX12_lastsFor_45 : decode cX12_lastsFor 45 = .ok (.goto (-30), 3) := by decide +kernel
theorem dX12_lastsFor_48 : decode cX12_lastsFor 48 = .ok (.aload_n 0, 1) := by decide +kernel
theorem dX12_lastsFor_49 : decode cX12_lastsFor 49 = .ok (.invokevirtual 298, 3) := by decide +kernel
theorem dX12_lastsFor_52 : decode cX12_lastsFor 52 = .ok (.aload_n 0, 1) := by decide +kernel
theorem dX12_lastsFor_53 : decode cX12_lastsFor 53 = .ok (.iload_n 2, 1) := by decide +kernel
theorem dX12_lastsFor_54 : decode cX12_lastsFor 54 = .ok (.putfield 262, 3) := by decide +kernel
theorem dX12_lastsFor_57 : decode cX12_lastsFor 57 = .ok (.iload_n 3, 1) := by decide +kernel
theorem dX12_lastsFor_58 : decode cX12_lastsFor 58 = .ok (.ireturn, 1) := by decide +kernel
theorem dX12_lasts_0 : decode cX12_lasts 0 = .ok (.aload_n 0, 1) := by decide +kernel
theorem dX12_lasts_1 : decode cX12_lasts 1 = .ok (.iconst 0, 1) := by decide +kernel
theorem dX12_lasts_2 : decode cX12_lasts 2 = .ok (.putfield 133, 3) := by decide +kernel
theorem dX12_lasts_5 : decode cX12_lasts 5 = .ok (.iload_n 1, 1) := by decide +kernel
theorem dX12_lasts_6 : decode cX12_lasts 6 = .ok (.invokestatic 178, 3) := by decide +kernel
theorem dX12_lasts_9 : decode cX12_lasts 9 = .ok (.ifCond .eq 11, 3) := by decide +kernel
theorem dX12_lasts_12 : decode cX12_lasts 12 = .ok (.aload_n 0, 1) := by decide +kernel
theorem dX12_lasts_13 : decode cX12_lasts 13 = .ok (.iload_n 1, 1) := by decide +kernel
theorem dX12_lasts_14 : decode cX12_lasts 14 = .ok (.invokevirtual 377, 3) := by decide +kernel
theorem dX12_lasts_17 : decode cX12_lasts 17 = .ok (.goto 4, 3) := by decide +kernel
theorem dX12_lasts_20 : decode cX12_lasts 20 = .ok (.iconst (-1), 1) := by decide +kernel
theorem dX12_lasts_21 : decode cX12_lasts 21 = .ok (.ireturn, 1) := by decide +kernel
theorem dX12_shift_0 : decode cX12_shift 0 = .ok (.aload_n 0, 1) := by decide +kernel
theorem dX12_shift_1 : decode cX12_shift 1 = .ok (.iconst 0, 1) := by decide +kernel
theorem dX12_shift_2 : decode cX12_shift 2 = .ok (.putfield 133, 3) := by decide +kernel
theorem dX12_shift_5 : decode cX12_shift 5 = .ok (.iload_n 1, 1) := by decide +kernel
theorem dX12_shift_6 : decode cX12_shift 6 = .ok (.invokestatic 178, 3) := by decide +kernel
theorem dX12_shift_9 : decode cX12_shift 9 = .ok (.ifCond .ne 5, 3) := by decide +kernel
theorem dX12_shift_12 : decode cX12_shift 12 = .ok (.iconst (-1), 1) := by decide +kernel
theorem dX12_shift_13 : decode cX12_shift 13 = .ok (.ireturn, 1) := by decide +kernel
theorem dX12_shift_14 : decode cX12_shift 14 = .ok (.iconst (-1), 1) := by decide +kernel
theorem dX12_shift_15 : decode cX12_shift 15 = .ok (.istore_n 2, 1) := by decide +kernel
theorem dX12_shift_16 : decode cX12_shift 16 = .ok (.iconst (-1), 1) := by decide +kernel
theorem dX12_shift_17 : decode cX12_shift 17 = .ok (.istore_n 3, 1) := by decide +kernel
theorem dX12_shift_18 : decode cX12_shift 18 = .ok (.iconst 0, 1) := by decide +kernel
theorem dX12_shift_19 : decode cX12_shift 19 = .ok (.istore 4, 2) := by decide +kernel
theorem dX12_shift_21 : decode cX12_shift 21 = .ok (.iconst 0, 1) := by decide +kernel
theorem dX12_shift_22 : decode cX12_shift 22 = .ok (.istore 5, 2) := by decide +kernel
theorem dX12_shift_24 : decode cX12_shift 24 = .ok (.iload 5, 2) := by decide +kernel
theorem dX12_shift_26 : decode cX12_shift 26 = .ok (.aload_n 0, 1) := by decide +kernel
theorem dX12_shift_27 : decode cX12_shift 27 = .ok (.getfield 139, 3) := by decide +kernel
theorem dX12_shift_30 : decode cX12_shift 30 = .ok (.if_icmp .ge 165, 3) := by decide +kernel
theorem dX12_shift_33 : decode cX12_shift 33 = .ok (.iconst 0, 1) := by decide +kernel
theorem dX12_shift_34 : decode cX12_shift 34 = .ok (.istore 6, 2) := by decide +kernel
theorem dX12_shift_36 : decode cX12_shift 36 = .ok (.iload 6, 2) := by decide +kernel
theorem dX12_shift_38 : decode cX12_shift 38 = .ok (.aload_n 0, 1) := by decide +kernel
theorem dX12_shift_39 : decode cX12_shift 39 = .ok (.getfield 139, 3) := by decide +kernel
theorem dX12_shift_42 : decode cX12_shift 42 = .ok (.if_icmp .ge 147, 3) := by decide +kernel
theorem dX12_shift_45 : decode cX12_shift 45 = .ok (.iload 5, 2) := by decide +kernel
theorem dX12_shift_47 : decode cX12_shift 47 = .ok (.iload 6, 2) := by decide +kernel
theorem dX12_shift_49 : decode cX12_shift 49 = .ok (.if_icmp .eq 134, 3) := by decide +kernel
theorem dX12_shift_52 : decode cX12_shift 52 = .ok (.aload_n 0, 1) := by decide +kernel
theorem dX12_shift_53 : decode cX12_shift 53 = .ok (.getfield 9, 3) := by decide +kernel
theorem dX12_shift_56 : decode cX12_shift 56 = .ok (.iload 5, 2) := by decide +kernel
theorem dX12_shift_58 : decode cX12_shift 58 = .ok (.iaload, 1) := by decide +kernel
theorem dX12_shift_59 : decode cX12_shift 59 = .ok (.iconst 1, 1) := by decide +kernel
theorem dX12_shift_60 : decode cX12_shift 60 = .ok (.if_icmp .ne 123, 3) := by decide +kernel
theorem dX12_shift_63 : decode cX12_shift 63 = .ok (.aload_n 0, 1) := by decide +kernel
theorem dX12_shift_64 : decode cX12_shift 64 = .ok (.getfield 9, 3) := by decide +kernel
theorem dX12_shift_67 : decode cX12_shift 67 = .ok (.iload 6, 2) := by decide +kernel
theorem dX12_shift_69 : decode cX12_shift 69 = .ok (.iaload, 1) := by decide +kernel
theorem dX12_shift_70 : decode cX12_shift 70 = .ok (.iconst 1, 1) := by decide +kernel
theorem dX12_shift_71 : decode cX12_shift 71 = .ok (.if_icmp .ne 112, 3) := by decide +kernel
theorem dX12_shift_74 : decode cX12_shift 74 = .ok (.aload_n 0, 1) := by decide +kernel
theorem dX12_shift_75 : decode cX12_shift 75 = .ok (.getfield 22, 3) := by decide +kernel
theorem dX12_shift_78 : decode cX12_shift 78 = .ok (.iload 5, 2) := by decide +kernel
theorem dX12_shift_80 : decode cX12_shift 80 = .ok (.iaload, 1) := by decide +kernel
theorem dX12_shift_81 : decode cX12_shift 81 = .ok (.ifCond .eq 102, 3) := by decide +kernel
theorem dX12_shift_84 : decode cX12_shift 84 = .ok (.aload_n 0, 1) := by decide +kernel
theorem dX12_shift_85 : decode cX12_shift 85 = .ok (.iload 6, 2) := by decide +kernel
theorem dX12_shift_87 : decode cX12_shift 87 = .ok (.invokevirtual 307, 3) := by decide +kernel
theorem dX12_shift_90 : decode cX12_shift 90 = .ok (.aload_n 0, 1) := by decide +kernel
theorem dX12_shift_91 : decode cX12_shift 91 = .ok (.getfield 22, 3) := by decide +kernel
theorem dX12_shift_94 : decode cX12_shift 94 = .ok (.iload 5, 2) := by decide +kernel
theorem dX12_shift_96 : decode cX12_shift 96 = .ok (.iaload, 1) := by decide +kernel
theorem dX12_shift_97 : decode cX12_shift 97 = .ok (.if_icmp .ge 6, 3) := by decide +kernel
theorem dX12_shift_100 : decode cX12_shift 100 = .ok (.goto 83, 3) := by decide +kernel
theorem dX12_shift_103 : decode cX12_shift 103 = .ok (.aload_n 0, 1) := by decide +kernel
theorem dX12_shift_104 : decode cX12_shift 104 = .ok (.invokevirtual 292, 3) := by decide +kernel
theorem dX12_shift_107 : decode cX12_shift 107 = .ok (.aload_n 0, 1) := by decide +kernel
theorem dX12_shift_108 : decode cX12_shift 108 = .ok (.getfield 22, 3) := by decide +kernel
theorem dX12_shift_111 : decode cX12_shift 111 = .ok (.iload 6, 2) := by decide +kernel
theorem dX12_shift_113 : decode cX12_shift 113 = .ok (.dup2, 1) := by decide +kernel
theorem dX12_shift_114 : decode cX12_shift 114 = .ok (.iaload, 1) := by decide +kernel
theorem dX12_shift_115 : decode cX12_shift 115 = .ok (.aload_n 0, 1) := by decide +kernel
theorem dX12_shift_116 : decode cX12_shift 116 = .ok (.getfield 22, 3) := by decide +kernel
theorem dX12_shift_119 : decode cX12_shift 119 = .ok (.iload 5, 2) := by decide +kernel
theorem dX12_shift_121 : decode cX12_shift 121 = .ok (.iaload, 1) := by decide +kernel
theorem dX12_shift_122 : decode cX12_shift 122 = .ok (.iadd, 1) := by decide +kernel
theorem dX12_shift_123 : decode cX12_shift 123 = .ok (.iastore, 1) := by decide +kernel
theorem dX12_shift_124 : decode cX12_shift 124 = .ok (.aload_n 0, 1) := by decide +kernel
theorem dX12_shift_125 : decode cX12_shift 125 = .ok (.getfield 22, 3) := by decide +kernel
theorem dX12_shift_128 : decode cX12_shift 128 = .ok (.iload 5, 2) := by decide +kernel
theorem dX12_shift_130 : decode cX12_shift 130 = .ok (.iconst 0, 1) := by decide +kernel
theorem dX12_shift_131 : decode cX12_shift 131 = .ok (.iastore, 1) := by decide +kernel
theorem dX12_shift_132 : decode cX12_shift 132 = .ok (.aload_n 0, 1) := by decide +kernel
theorem dX12_shift_133 : decode cX12_shift 133 = .ok (.iload_n 1, 1) := by decide +kernel
theorem dX12_shift_134 : decode cX12_shift 134 = .ok (.invokevirtual 377, 3) := by decide +kernel
theorem dX12_shift_137 : decode cX12_shift 137 = .ok (.istore 7, 2) := by decide +kernel
theorem dX12_shift_139 : decode cX12_shift 139 = .ok (.aload_n 0, 1) := by decide +kernel
theorem dX12_shift_140 : decode cX12_shift 140 = .ok (.invokevirtual 298, 3) := by decide +kernel
theorem dX12_shift_143 : decode cX12_shift 143 = .ok (.iload 7, 2) := by decide +kernel
theorem dX12_shift_145 : decode cX12_shift 145 = .ok (.ifCond .ge 9, 3) := by decide +kernel
theorem dX12_shift_148 : decode cX12_shift 148 = .ok (.sipush 1000, 3) := by decide +kernel
theorem dX12_shift_151 : decode cX12_shift 151 = .ok (.goto 5, 3) := by decide +kernel
theorem dX12_shift_154 : decode cX12_shift 154 = .ok (.iload 7, 2) := by decide +kernel
theorem dX12_shift_156 : decode cX12_shift 156 = .ok (.istore 7, 2) := by decide +kernel
theorem dX12_shift_158 : decode cX12_shift 158 = .ok (.iload_n 2, 1) := by decide +kernel
theorem dX12_shift_159 : decode cX12_shift 159 = .ok (.iconst (-1), 1) := by decide +kernel
theorem dX12_shift_160 : decode cX12_shift 160 = .ok (.if_icmp .eq 13, 3) := by decide +kernel
theorem dX12_shift_163 : decode cX12_shift 163 = .ok (.iload 7, 2) := by decide +kernel
theorem dX12_shift_165 : decode cX12_shift 165 = .ok (.iload 4, 2) := by decide +kernel
theorem dX12_shift_167 : decode cX12_shift 167 = .ok (.if_icmp .gt 6, 3) := by decide +kernel
theorem dX12_shift_170 : decode cX12_shift 170 = .ok (.goto 13, 3) := by decide +kernel
theorem dX12_shift_173 : decode cX12_shift 173 = .ok (.iload 5, 2) := by decide +kernel
theorem dX12_shift_175 : decode cX12_shift 175 = .ok (.istore_n 2, 1) := by decide +kernel
theorem dX12_shift_176 : decode cX12_shift 176 = .ok (.iload 6, 2) := by decide +kernel
theorem dX12_shift_178 : decode cX12_shift 178 = .ok (.istore_n 3, 1) := by decide +kernel
theorem dX12_shift_179 : decode cX12_shift 179 = .ok (.iload 7, 2) := by decide +kernel
theorem dX12_shift_181 : decode cX12_shift 181 = .ok (.istore 4, 2) := by decide +kernel
theorem dX12_shift_183 : decode cX12_shift 183 = .ok (.iinc 6 1, 3) := by decide +kernel
theorem dX12_shift_186 : decode cX12_shift 186 = .ok (.goto (-150), 3) := by decide +kernel
theorem dX12_shift_189 : decode cX12_shift 189 = .ok (.iinc 5 1, 3) := by decide +kernel
theorem dX12_shift_192 : decode cX12_shift 192 = .ok (.goto (-168), 3) := by decide +kernel
theorem dX12_shift_195 : decode cX12_shift 195 = .ok (.iload_n 2, 1) := by decide +kernel
theorem dX12_shift_196 : decode cX12_shift 196 = .ok (.iconst (-1), 1) := by decide +kernel
theorem dX12_shift_197 : decode cX12_shift 197 = .ok (.if_icmp .ne 6, 3) := by decide +kernel
theorem dX12_shift_200 : decode cX12_shift 200 = .ok (.bipush (-2), 2) := by decide +kernel
theorem dX12_shift_202 : decode cX12_shift 202 = .ok (.ireturn, 1) := by decide +kernel
theorem dX12_shift_203 : decode cX12_shift 203 = .ok (.aload_n 0, 1) := by decide +kernel
theorem dX12_shift_204 : decode cX12_shift 204 = .ok (.iconst 0, 1) := by decide +kernel
theorem dX12_shift_205 : decode cX12_shift 205 = .ok (.putfield 136, 3) := by decide +kernel
theorem dX12_shift_208 : decode cX12_shift 208 = .ok (.aload_n 0, 1) := by decide +kernel
theorem dX12_shift_209 : decode cX12_shift 209 = .ok (.iload_n 2, 1) := by decide +kernel
theorem dX12_shift_210 : decode cX12_shift 210 = .ok (.invokevirtual 210, 3) := by decide +kernel
theorem dX12_shift_213 : decode cX12_shift 213 = .ok (.aload_n 0, 1) := by decide +kernel
theorem dX12_shift_214 : decode cX12_shift 214 = .ok (.iload_n 3, 1) := by decide +kernel
theorem dX12_shift_215 : decode cX12_shift 215 = .ok (.invokevirtual 210, 3) := by decide +kernel
theorem dX12_shift_218 : decode cX12_shift 218 = .ok (.iload 4, 2) := by decide +kernel
theorem dX12_shift_220 : decode cX12_shift 220 = .ok (.sipush 1000, 3) := by decide +kernel
theorem dX12_shift_223 : decode cX12_shift 223 = .ok (.if_icmp .ne 7, 3) := by decide +kernel
theorem dX12_shift_226 : decode cX12_shift 226 = .ok (.iconst (-1), 1) := by decide +kernel
theorem dX12_shift_227 : decode cX12_shift 227 = .ok (.goto 5, 3) := by decide +kernel
theorem dX12_shift_230 : decode cX12_shift 230 = .ok (.iload 4, 2) := by decide +kernel
theorem dX12_shift_232 : decode cX12_shift 232 = .ok (.ireturn, 1) := by decide +kernel
theorem dX12_ground_0 : decode cX12_ground 0 = .ok (.aload_n 0, 1) := by decide +kernel
theorem dX12_ground_1 : decode cX12_ground 1 = .ok (.iconst 0, 1) := by decide +kernel
theorem dX12_ground_2 : decode cX12_ground 2 = .ok (.putfield 133, 3) := by decide +kernel
theorem dX12_ground_5 : decode cX12_ground 5 = .ok (.iload_n 1, 1) := by decide +kernel
theorem dX12_ground_6 : decode cX12_ground 6 = .ok (.invokestatic 178, 3) := by decide +kernel
theorem dX12_ground_9 : decode cX12_ground 9 = .ok (.ifCond .eq 14, 3) := by decide +kernel
theorem dX12_ground_12 : decode cX12_ground 12 = .ok (.iload_n 2, 1) := by decide +kernel
theorem dX12_ground_13 : decode cX12_ground 13 = .ok (.iconst 0, 1) := by decide +kernel
theorem dX12_ground_14 : decode cX12_ground 14 = .ok (.sipush 999, 3) := by decide +kernel
theorem dX12_ground_17 : decode cX12_ground 17 = .ok (.invokestatic 142, 3) := by decide +kernel
theorem dX12_ground_20 : decode cX12_ground 20 = .ok (.ifCond .ne 5, 3) := by decide +kernel
theorem dX12_ground_23 : decode cX12_ground 23 = .ok (.iconst (-1), 1) := by decide +kernel
theorem dX12_ground_24 : decode cX12_ground 24 = .ok (.ireturn, 1) := by decide +kernel
theorem dX12_ground_25 : decode cX12_ground 25 = .ok (.iconst 0, 1) := by decide +kernel
theorem dX12_ground_26 : decode cX12_ground 26 = .ok (.aload_n 0, 1) := by decide +kernel
theorem dX12_ground_27 : decode cX12_ground 27 = .ok (.iload_n 1, 1) := by decide +kernel
theorem dX12_ground_28 : decode cX12_ground 28 = .ok (.invokevirtual 198, 3) := by decide +kernel
theorem dX12_ground_31 : decode cX12_ground 31 = .ok (.iload_n 2, 1) := by decide +kernel
theorem dX12_ground_32 : decode cX12_ground 32 = .ok (.iadd, 1) := by decide +kernel
theorem dX12_ground_33 : decode cX12_ground 33 = .ok (.iconst 1, 1) := by decide +kernel
theorem dX12_ground_34 : decode cX12_ground 34 = .ok (.iadd, 1) := by decide +kernel
theorem dX12_ground_35 : decode cX12_ground 35 = .ok (.invokestatic 159, 3) := by decide +kernel
theorem dX12_ground_38 : decode cX12_ground 38 = .ok (.istore_n 3, 1) := by decide +kernel
theorem dX12_ground_39 : decode cX12_ground 39 = .ok (.iload_n 3, 1) := by decide +kernel
theorem dX12_ground_40 : decode cX12_ground 40 = .ok (.istore 4, 2) := by decide +kernel
theorem dX12_ground_42 : decode cX12_ground 42 = .ok (.aload_n 0, 1) := by decide +kernel
theorem dX12_ground_43 : decode cX12_ground 43 = .ok (.invokevirtual 292, 3) := by decide +kernel
theorem dX12_ground_46 : decode cX12_ground 46 = .ok (.iconst 0, 1) := by decide +kernel
theorem dX12_ground_47 : decode cX12_ground 47 = .ok (.istore 5, 2) := by decide +kernel
theorem dX12_ground_49 : decode cX12_ground 49 = .ok (.iload 4, 2) := by decide +kernel
theorem dX12_ground_51 : decode cX12_ground 51 = .ok (.ifCond .le 125, 3) := by decide +kernel
theorem dX12_ground_54 : decode cX12_ground 54 = .ok (.iconst (-1), 1) := by decide +kernel
theorem dX12_ground_55 : decode cX12_ground 55 = .ok (.istore 6, 2) := by decide +kernel
theorem dX12_ground_57 : decode cX12_ground 57 = .ok (.iconst 0, 1) := by decide +kernel
theorem dX12_ground_58 : decode cX12_ground 58 = .ok (.istore 7, 2) := by decide +kernel
theorem dX12_ground_60 : decode cX12_ground 60 = .ok (.iload 7, 2) := by decide +kernel
theorem dX12_ground_62 : decode cX12_ground 62 = .ok (.aload_n 0, 1) := by decide +kernel
theorem dX12_ground_63 : decode cX12_ground 63 = .ok (.getfield 139, 3) := by decide +kernel
theorem dX12_ground_66 : decode cX12_ground 66 = .ok (.if_icmp .ge 56, 3) := by decide +kernel
theorem dX12_ground_69 : decode cX12_ground 69 = .ok (.aload_n 0, 1) := by decide +kernel
theorem dX12_ground_70 : decode cX12_ground 70 = .ok (.getfield 9, 3) := by decide +kernel
theorem dX12_ground_73 : decode cX12_ground 73 = .ok (.iload 7, 2) := by decide +kernel
theorem dX12_ground_75 : decode cX12_ground 75 = .ok (.iaload, 1) := by decide +kernel
theorem dX12_ground_76 : decode cX12_ground 76 = .ok (.ifCond .ne 40, 3) := by decide +kernel
theorem dX12_ground_79 : decode cX12_ground 79 = .ok (.iload 5, 2) := by decide +kernel
theorem dX12_ground_81 : decode cX12_ground 81 = .ok (.iload 7, 2) := by decide +kernel
theorem dX12_ground_83 : decode cX12_ground 83 = .ok (.invokestatic 366, 3) := by decide +kernel
theorem dX12_ground_86 : decode cX12_ground 86 = .ok (.ifCond .ne 30, 3) := by decide +kernel
theorem dX12_ground_89 : decode cX12_ground 89 = .ok (.iload 6, 2) := by decide +kernel
theorem dX12_ground_91 : decode cX12_ground 91 = .ok (.iconst (-1), 1) := by decide +kernel
theorem dX12_ground_92 : decode cX12_ground 92 = .ok (.if_icmp .eq 20, 3) := by decide +kernel
theorem dX12_ground_95 : decode cX12_ground 95 = .ok (.aload_n 0, 1) := by decide +kernel
theorem dX12_ground_96 : decode cX12_ground 96 = .ok (.getfield 22, 3) := by decide +kernel
theorem dX12_ground_99 : decode cX12_ground 99 = .ok (.iload 7, 2) := by decide +kernel
theorem dX12_ground_101 : decode cX12_ground 101 = .ok (.iaload, 1) := by decide +kernel
theorem dX12_ground_102 : decode cX12_ground 102 = .ok (.aload_n 0, 1) := by decide +kernel
theorem dX12_ground_103 : decode cX12_ground 103 = .ok (.getfield 22, 3) := by decide +kernel
theorem dX12_ground_106 : decode cX12_ground 106 = .ok (.iload 6, 2) := by decide +kernel
theorem dX12_ground_108 : decode cX12_ground 108 = .ok (.iaload, 1) := by decide +kernel
theorem dX12_ground_109 : decode cX12_ground 109 = .ok (.if_icmp .le 7, 3) := by decide +kernel
theorem dX12_ground_112 : decode cX12_ground 112 = .ok (.iload 7, 2) := by decide +kernel
theorem dX12_ground_114 : decode cX12_ground 114 = .ok (.istore 6, 2) := by decide +kernel
theorem dX12_ground_116 : decode cX12_ground 116 = .ok (.iinc 7 1, 3) := by decide +kernel
theorem dX12_ground_119 : decode cX12_ground 119 = .ok (.goto (-59), 3) := by decide +kernel
theorem dX12_ground_122 : decode cX12_ground 122 = .ok (.iload 6, 2) := by decide +kernel
theorem dX12_ground_124 : decode cX12_ground 124 = .ok (.iconst (-1), 1) := by decide +kernel
theorem dX12_ground_125 : decode cX12_ground 125 = .ok (.if_icmp .ne 6, 3) := by decide +kernel
theorem dX12_ground_128 : decode cX12_ground 128 = .ok (.goto 48, 3) := by decide +kernel
theorem dX12_ground_131 : decode cX12_ground 131 = .ok (.iload 5, 2) := by decide +kernel
theorem dX12_ground_133 : decode cX12_ground 133 = .ok (.iconst 1, 1) := by decide +kernel
theorem dX12_ground_134 : decode cX12_ground 134 = .ok (.iload 6, 2) := by decide +kernel
theorem dX12_ground_136 : decode cX12_ground 136 = .ok (.ishl, 1) := by decide +kernel
theorem dX12_ground_137 : decode cX12_ground 137 = .ok (.ior, 1) := by decide +kernel
theorem dX12_ground_138 : decode cX12_ground 138 = .ok (.istore 5, 2) := by decide +kernel
theorem dX12_ground_140 : decode cX12_ground 140 = .ok (.iload 4, 2) := by decide +kernel
theorem dX12_ground_142 : decode cX12_ground 142 = .ok (.aload_n 0, 1) := by decide +kernel
theorem dX12_ground_143 : decode cX12_ground 143 = .ok (.getfield 22, 3) := by decide +kernel
theorem dX12_ground_146 : decode cX12_ground 146 = .ok (.iload 6, 2) := by decide +kernel
theorem dX12_ground_148 : decode cX12_ground 148 = .ok (.iaload, 1) := by decide +kernel
theorem dX12_ground_149 : decode cX12_ground 149 = .ok (.invokestatic 153, 3) := by decide +kernel
theorem dX12_ground_152 : decode cX12_ground 152 = .ok (.istore 7, 2) := by decide +kernel
theorem dX12_ground_154 : decode cX12_ground 154 = .ok (.aload_n 0, 1) := by decide +kernel
theorem dX12_ground_155 : decode cX12_ground 155 = .ok (.getfield 22, 3) := by decide +kernel
theorem dX12_ground_158 : decode cX12_ground 158 = .ok (.iload 6, 2) := by decide +kernel
theorem dX12_ground_160 : decode cX12_ground 160 = .ok (.dup2, 1) := by decide +kernel
theorem dX12_ground_161 : decode cX12_ground 161 = .ok (.iaload, 1) := by decide +kernel
theorem dX12_ground_162 : decode cX12_ground 162 = .ok (.iload 7, 2) := by decide +kernel
theorem dX12_ground_164 : decode cX12_ground 164 = .ok (.isub, 1) := by decide +kernel
theorem dX12_ground_165 : decode cX12_ground 165 = .ok (.iastore, 1) := by decide +kernel
theorem dX12_ground_166 : decode cX12_ground 166 = .ok (.iload 4, 2) := by decide +kernel
theorem dX12_ground_168 : decode cX12_ground 168 = .ok (.iload 7, 2) := by decide +kernel
theorem dX12_ground_170 : decode cX12_ground 170 = .ok (.isub, 1) := by decide +kernel
theorem dX12_ground_171 : decode cX12_ground 171 = .ok (.istore 4, 2) := by decide +kernel
theorem dX12_ground_173 : decode cX12_ground 173 = .ok (.goto (-124), 3) := by decide +kernel
theorem dX12_ground_176 : decode cX12_ground 176 = .ok (.iload 4, 2) := by decide +kernel
theorem dX12_ground_178 : decode cX12_ground 178 = .ok (.ifCond .ne 47, 3) := by decide +kernel
theorem dX12_ground_181 : decode cX12_ground 181 = .ok (.aload_n 0, 1) := by decide +kernel
theorem dX12_ground_182 : decode cX12_ground 182 = .ok (.iconst 0, 1) := by decide +kernel
theorem dX12_ground_183 : decode cX12_ground 183 = .ok (.putfield 136, 3) := by decide +kernel
theorem dX12_ground_186 : decode cX12_ground 186 = .ok (.iconst 0, 1) := by decide +kernel
theorem dX12_ground_187 : decode cX12_ground 187 = .ok (.istore 6, 2) := by decide +kernel
theorem dX12_ground_189 : decode cX12_ground 189 = .ok (.iload 6, 2) := by decide +kernel
theorem dX12_ground_191 : decode cX12_ground 191 = .ok (.aload_n 0, 1) := by decide +kernel
theorem dX12_ground_192 : decode cX12_ground 192 = .ok (.getfield 139, 3) := by decide +kernel
theorem dX12_ground_195 : decode cX12_ground 195 = .ok (.if_icmp .ge 30, 3) := by decide +kernel
theorem dX12_ground_198 : decode cX12_ground 198 = .ok (.aload_n 0, 1) := by decide +kernel
theorem dX12_ground_199 : decode cX12_ground 199 = .ok (.getfield 9, 3) := by decide +kernel
theorem dX12_ground_202 : decode cX12_ground 202 = .ok (.iload 6, 2) := by decide +kernel
theorem dX12_ground_204 : decode cX12_ground 204 = .ok (.iaload, 1) := by decide +kernel
theorem dX12_ground_205 : decode cX12_ground 205 = .ok (.ifCond .ne 14, 3) := by decide +kernel
theorem dX12_ground_208 : decode cX12_ground 208 = .ok (.aload_n 0, 1) := by decide +kernel
theorem dX12_ground_209 : decode cX12_ground 209 = .ok (.aload_n 0, 1) := by decide +kernel
theorem dX12_ground_210 : decode cX12_ground 210 = .ok (.getfield 22, 3) := by decide +kernel
theorem dX12_ground_213 : decode cX12_ground 213 = .ok (.iload 6, 2) := by decide +kernel
theorem dX12_ground_215 : decode cX12_ground 215 = .ok (.iaload, 1) := by decide +kernel
theorem dX12_ground_216 : decode cX12_ground 216 = .ok (.invokevirtual 210, 3) := by decide +kernel
theorem dX12_ground_219 : decode cX12_ground 219 = .ok (.iinc 6 1, 3) := by decide +kernel
theorem dX12_ground_222 : decode cX12_ground 222 = .ok (.goto (-33), 3) := by decide +kernel
theorem dX12_ground_225 : decode cX12_ground 225 = .ok (.aload_n 0, 1) := by decide +kernel
theorem dX12_ground_226 : decode cX12_ground 226 = .ok (.invokevirtual 298, 3) := by decide +kernel
theorem dX12_ground_229 : decode cX12_ground 229 = .ok (.iload 4, 2) := by decide +kernel
theorem dX12_ground_231 : decode cX12_ground 231 = .ok (.ifCond .le 8, 3) := by decide +kernel
theorem dX12_ground_234 : decode cX12_ground 234 = .ok (.bipush (-2), 2) := by decide +kernel
theorem dX12_ground_236 : decode cX12_ground 236 = .ok (.goto 4, 3) := by decide +kernel
theorem dX12_ground_239 : decode cX12_ground 239 = .ok (.iload_n 3, 1) := by decide +kernel
theorem dX12_ground_240 : decode cX12_ground 240 = .ok (.ireturn, 1) := by decide +kernel
theorem dX12_ice_0 : decode cX12_ice 0 = .ok (.aload_n 0, 1) := by decide +kernel
theorem dX12_ice_1 : decode cX12_ice 1 = .ok (.iconst 0, 1) := by decide +kernel
theorem dX12_ice_2 : decode cX12_ice 2 = .ok (.putfield 133, 3) := by decide +kernel
theorem dX12_ice_5 : decode cX12_ice 5 = .ok (.iload_n 1, 1) := by decide +kernel
theorem dX12_ice_6 : decode cX12_ice 6 = .ok (.invokestatic 178, 3) := by decide +kernel
theorem dX12_ice_9 : decode cX12_ice 9 = .ok (.ifCond .eq 18, 3) := by decide +kernel
theorem dX12_ice_12 : decode cX12_ice 12 = .ok (.iload_n 2, 1) := by decide +kernel
theorem dX12_ice_13 : decode cX12_ice 13 = .ok (.iconst 1, 1) := by decide +kernel
theorem dX12_ice_14 : decode cX12_ice 14 = .ok (.bipush 20, 2) := by decide +kernel
theorem dX12_ice_16 : decode cX12_ice 16 = .ok (.invokestatic 142, 3) := by decide +kernel
theorem dX12_ice_19 : decode cX12_ice 19 = .ok (.ifCond .eq 8, 3) := by decide +kernel
theorem dX12_ice_22 : decode cX12_ice 22 = .ok (.iload_n 1, 1) := by decide +kernel
theorem dX12_ice_23 : decode cX12_ice 23 = .ok (.iload_n 2, 1) := by decide +kernel
theorem dX12_ice_24 : decode cX12_ice 24 = .ok (.if_icmp .gt 5, 3) := by decide +kernel
theorem dX12_ice_27 : decode cX12_ice 27 = .ok (.iconst (-1), 1) := by decide +kernel
theorem dX12_ice_28 : decode cX12_ice 28 = .ok (.ireturn, 1) := by decide +kernel
theorem dX12_ice_29 : decode cX12_ice 29 = .ok (.aload_n 0, 1) := by decide +kernel
theorem dX12_ice_30 : decode cX12_ice 30 = .ok (.bipush 10, 2) := by decide +kernel
theorem dX12_ice_32 : decode cX12_ice 32 = .ok (.iload_n 1, 1) := by decide +kernel
theorem dX12_ice_33 : decode cX12_ice 33 = .ok (.imul, 1) := by decide +kernel
theorem dX12_ice_34 : decode cX12_ice 34 = .ok (.putfield 335, 3) := by decide +kernel
theorem dX12_ice_37 : decode cX12_ice 37 = .ok (.aload_n 0, 1) := by decide +kernel
theorem dX12_ice_38 : decode cX12_ice 38 = .ok (.iconst 0, 1) := by decide +kernel
theorem dX12_ice_39 : decode cX12_ice 39 = .ok (.putfield 332, 3) := by decide +kernel
theorem dX12_ice_42 : decode cX12_ice 42 = .ok (.iconst 0, 1) := by decide +kernel
theorem dX12_ice_43 : decode cX12_ice 43 = .ok (.istore_n 3, 1) := by decide +kernel
theorem dX12_ice_44 : decode cX12_ice 44 = .ok (.iload_n 3, 1) := by decide +kernel
theorem dX12_ice_45 : decode cX12_ice 45 = .ok (.sipush 600, 3) := by decide +kernel
theorem dX12_ice_48 : decode cX12_ice 48 = .ok (.if_icmp .ge 24, 3) := by decide +kernel
theorem dX12_ice_51 : decode cX12_ice 51 = .ok (.aload_n 0, 1) := by decide +kernel
theorem dX12_ice_52 : decode cX12_ice 52 = .ok (.getfield 335, 3) := by decide +kernel
theorem dX12_ice_55 : decode cX12_ice 55 = .ok (.bipush 10, 2) := by decide +kernel
theorem dX12_ice_57 : decode cX12_ice 57 = .ok (.iload_n 2, 1) := by decide +kernel
theorem dX12_ice_58 : decode cX12_ice 58 = .ok (.imul, 1) := by decide +kernel
theorem dX12_ice_59 : decode cX12_ice 59 = .ok (.if_icmp .le 13, 3) := by decide +kernel
theorem dX12_ice_62 : decode cX12_ice 62 = .ok (.aload_n 0, 1) := by decide +kernel
theorem dX12_ice_63 : decode cX12_ice 63 = .ok (.invokevirtual 338, 3) := by decide +kernel
theorem dX12_ice_66 : decode cX12_ice 66 = .ok (.iinc 3 1, 3) := by decide +kernel
theorem dX12_ice_69 : decode cX12_ice 69 = .ok (.goto (-25), 3) := by decide +kernel
theorem dX12_ice_72 : decode cX12_ice 72 = .ok (.aload_n 0, 1) := by decide +kernel
theorem dX12_ice_73 : decode cX12_ice 73 = .ok (.getfield 335, 3) := by decide +kernel
theorem dX12_ice_76 : decode cX12_ice 76 = .ok (.bipush 10, 2) := by decide +kernel
theorem dX12_ice_78 : decode cX12_ice 78 = .ok (.iload_n 2, 1) := by decide +kernel
theorem dX12_ice_79 : decode cX12_ice 79 = .ok (.imul, 1) := by decide +kernel
theorem dX12_ice_80 : decode cX12_ice 80 = .ok (.if_icmp .gt 7, 3) := by decide +kernel
theorem dX12_ice_83 : decode cX12_ice 83 = .ok (.iconst 1, 1) := by decide +kernel
theorem dX12_ice_84 : decode cX12_ice 84 = .ok (.goto 4, 3) := by decide +kernel
theorem dX12_ice_87 : decode cX12_ice 87 = .ok (.iconst 0, 1) := by decide +kernel
theorem dX12_ice_88 : decode cX12_ice 88 = .ok (.istore 4, 2) := by decide +kernel
theorem dX12_ice_90 : decode cX12_ice 90 = .ok (.iload 4, 2) := by decide +kernel
theorem dX12_ice_92 : decode cX12_ice 92 = .ok (.ifCond .eq 21, 3) := by decide +kernel
theorem dX12_ice_95 : decode cX12_ice 95 = .ok (.aload_n 0, 1) := by decide +kernel
theorem dX12_ice_96 : decode cX12_ice 96 = .ok (.getfield 332, 3) := by decide +kernel
theorem dX12_ice_99 : decode cX12_ice 99 = .ok (.invokestatic 201, 3) := by decide +kernel
theorem dX12_ice_102 : decode cX12_ice 102 = .ok (.aload_n 0, 1) := by decide +kernel
theorem dX12_ice_103 : decode cX12_ice 103 = .ok (.invokevirtual 192, 3) := by decide +kernel
theorem dX12_ice_106 : decode cX12_ice 106 = .ok (.imul, 1) := by decide +kernel
theorem dX12_ice_107 : decode cX12_ice 107 = .ok (.bipush 100, 2) := by decide +kernel
theorem dX12_ice_109 : decode cX12_ice 109 = .ok (.idiv, 1) := by decide +kernel
theorem dX12_ice_110 : decode cX12_ice 110 = .ok (.goto 4, 3) := by decide +kernel
theorem dX12_ice_113 : decode cX12_ice 113 = .ok (.iconst 0, 1) := by decide +kernel
theorem dX12_ice_114 : decode cX12_ice 114 = .ok (.istore 5, 2) := by decide +kernel
theorem dX12_ice_116 : decode cX12_ice 116 = .ok (.aload_n 0, 1) := by decide +kernel
theorem dX12_ice_117 : decode cX12_ice 117 = .ok (.iconst 0, 1) := by decide +kernel
theorem dX12_ice_118 : decode cX12_ice 118 = .ok (.putfield 136, 3) := by decide +kernel
theorem dX12_ice_121 : decode cX12_ice 121 = .ok (.aload_n 0, 1) := by decide +kernel
theorem dX12_ice_122 : decode cX12_ice 122 = .ok (.iload 4, 2) := by decide +kernel
theorem dX12_ice_124 : decode cX12_ice 124 = .ok (.ifCond .eq 7, 3) := by decide +kernel
theorem dX12_ice_127 : decode cX12_ice 127 = .ok (.iload_n 3, 1) := by decide +kernel
theorem dX12_ice_128 : decode cX12_ice 128 = .ok (.goto 4, 3) := by decide +kernel
theorem dX12_ice_131 : decode cX12_ice 131 = .ok (.iconst (-1), 1) := by decide +kernel
theorem dX12_ice_132 : decode cX12_ice 132 = .ok (.invokevirtual 210, 3) := by decide +kernel
theorem dX12_ice_135 : decode cX12_ice 135 = .ok (.aload_n 0, 1) := by decide +kernel
theorem dX12_ice_136 : decode cX12_ice 136 = .ok (.iload 5, 2) := by decide +kernel
theorem dX12_ice_138 : decode cX12_ice 138 = .ok (.invokevirtual 210, 3) := by decide +kernel
theorem dX12_ice_141 : decode cX12_ice 141 = .ok (.iload 4, 2) := by decide +kernel
theorem dX12_ice_143 : decode cX12_ice 143 = .ok (.ifCond .eq 16, 3) := by decide +kernel
theorem dX12_ice_146 : decode cX12_ice 146 = .ok (.iload 5, 2) := by decide +kernel
theorem dX12_ice_148 : decode cX12_ice 148 = .ok (.bipush 50, 2) := by decide +kernel
theorem dX12_ice_150 : decode cX12_ice 150 = .ok (.iload_n 2, 1) := by decide +kernel
theorem dX12_ice_151 : decode cX12_ice 151 = .ok (.imul, 1) := by decide +kernel
theorem dX12_ice_152 : decode cX12_ice 152 = .ok (.if_icmp .lt 7, 3) := by decide +kernel
theorem dX12_ice_155 : decode cX12_ice 155 = .ok (.iconst 1, 1) := by decide +kernel
theorem dX12_ice_156 : decode cX12_ice 156 = .ok (.goto 4, 3) := by decide +kernel
theorem dX12_ice_159 : decode cX12_ice 159 = .ok (.iconst 0, 1) := by decide +kernel
theorem dX12_ice_160 : decode cX12_ice 160 = .ok (.ireturn, 1) := by decide +kernel
theorem dX12_keep_0 : decode cX12_keep 0 = .ok (.aload_n 0, 1) := by decide +kernel
theorem dX12_keep_1 : decode cX12_keep 1 = .ok (.iconst 0, 1) := by decide +kernel
theorem dX12_keep_2 : decode cX12_keep 2 = .ok (.putfield 133, 3) := by decide +kernel
theorem dX12_keep_5 : decode cX12_keep 5 = .ok (.iload_n 1, 1) := by decide +kernel
theorem dX12_keep_6 : decode cX12_keep 6 = .ok (.iconst 0, 1) := by decide +kernel
theorem dX12_keep_7 : decode cX12_keep 7 = .ok (.iconst 2, 1) := by decide +kernel
theorem dX12_keep_8 : decode cX12_keep 8 = .ok (.invokestatic 142, 3) := by decide +kernel
theorem dX12_keep_11 : decode cX12_keep 11 = .ok (.ifCond .ne 5, 3) := by decide +kernel
theorem dX12_keep_14 : decode cX12_keep 14 = .ok (.iconst 0, 1) := by decide +kernel
theorem dX12_keep_15 : decode cX12_keep 15 = .ok (.ireturn, 1) := by decide +kernel
theorem dX12_keep_16 : decode cX12_keep 16 = .ok (.aload_n 0, 1) := by decide +kernel
theorem dX12_keep_17 : decode cX12_keep 17 = .ok (.getfield 115, 3) := by decide +kernel
theorem dX12_keep_20 : decode cX12_keep 20 = .ok (.iload_n 1, 1) := by decide +kernel
theorem dX12_keep_21 : decode cX12_keep 21 = .ok (.iconst 1, 1) := by decide +kernel
theorem dX12_keep_22 : decode cX12_keep 22 = .ok (.bastore, 1) := by decide +kernel
theorem dX12_keep_23 : decode cX12_keep 23 = .ok (.aload_n 0, 1) := by decide +kernel
theorem dX12_keep_24 : decode cX12_keep 24 = .ok (.getfield 118, 3) := by decide +kernel
theorem dX12_keep_27 : decode cX12_keep 27 = .ok (.iload_n 1, 1) := by decide +kernel
theorem dX12_keep_28 : decode cX12_keep 28 = .ok (.aload_n 0, 1) := by decide +kernel
theorem dX12_keep_29 : decode cX12_keep 29 = .ok (.getfield 139, 3) := by decide +kernel
theorem dX12_keep_32 : decode cX12_keep 32 = .ok (.iastore, 1) := by decide +kernel
theorem dX12_keep_33 : decode cX12_keep 33 = .ok (.aload_n 0, 1) := by decide +kernel
theorem dX12_keep_34 : decode cX12_keep 34 = .ok (.getfield 124, 3) := by decide +kernel
theorem dX12_keep_37 : decode cX12_keep 37 = .ok (.iload_n 1, 1) := by decide +kernel
theorem dX12_keep_38 : decode cX12_keep 38 = .ok (.aload_n 0, 1) := by decide +kernel
theorem dX12_keep_39 : decode cX12_keep 39 = .ok (.getfield 368, 3) := by decide +kernel
theorem dX12_keep_42 : decode cX12_keep 42 = .ok (.iastore, 1) := by decide +kernel
theorem dX12_keep_43 : decode cX12_keep 43 = .ok (.aload_n 0, 1) := by decide +kernel
theorem dX12_keep_44 : decode cX12_keep 44 = .ok (.getfield 127, 3) := by decide +kernel
theorem dX12_keep_47 : decode cX12_keep 47 = .ok (.iload_n 1, 1) := by decide +kernel
theorem dX12_keep_48 : decode cX12_keep 48 = .ok (.aload_n 0, 1) := by decide +kernel
theorem dX12_keep_49 : decode cX12_keep 49 = .ok (.getfield 262, 3) := by decide +kernel
theorem dX12_keep_52 : decode cX12_keep 52 = .ok (.iastore, 1) := by decide +kernel
theorem dX12_keep_53 : decode cX12_keep 53 = .ok (.aload_n 0, 1) := by decide +kernel
theorem dX12_keep_54 : decode cX12_keep 54 = .ok (.getfield 130, 3) := by decide +kernel
theorem dX12_keep_57 : decode cX12_keep 57 = .ok (.iload_n 1, 1) := by decide +kernel
theorem dX12_keep_58 : decode cX12_keep 58 = .ok (.aload_n 0, 1) := by decide +kernel
theorem dX12_keep_59 : decode cX12_keep 59 = .ok (.getfield 38, 3) := by decide +kernel
theorem dX12_keep_62 : decode cX12_keep 62 = .ok (.iastore, 1) := by decide +kernel
theorem dX12_keep_63 : decode cX12_keep 63 = .ok (.iconst 0, 1) := by decide +kernel
theorem dX12_keep_64 : decode cX12_keep 64 = .ok (.istore_n 2, 1) := by decide +kernel
theorem dX12_keep_65 : decode cX12_keep 65 = .ok (.iload_n 2, 1) := by decide +kernel
theorem dX12_keep_66 : decode cX12_keep 66 = .ok (.bipush 15, 2) := by decide +kernel
theorem dX12_keep_68 : decode cX12_keep 68 = .ok (.if_icmp .ge 26, 3) := by decide +kernel
theorem dX12_keep_71 : decode cX12_keep 71 = .ok (.aload_n 0, 1) := by decide +kernel
theorem dX12_keep_72 : decode cX12_keep 72 = .ok (.getfield 121, 3) := by decide +kernel
theorem dX12_keep_75 : decode cX12_keep 75 = .ok (.bipush 15, 2) := by decide +kernel
theorem dX12_keep_77 : decode cX12_keep 77 = .ok (.iload_n 1, 1) := by decide +kernel
theorem dX12_keep_78 : decode cX12_keep 78 = .ok (.imul, 1) := by decide +kernel
theorem dX12_keep_79 : decode cX12_keep 79 = .ok (.iload_n 2, 1) := by decide +kernel
theorem dX12_keep_80 : decode cX12_keep 80 = .ok (.iadd, 1) := by decide +kernel
theorem dX12_keep_81 : decode cX12_keep 81 = .ok (.aload_n 0, 1) := by decide +kernel
theorem dX12_keep_82 : decode cX12_keep 82 = .ok (.getfield 22, 3) := by decide +kernel
theorem dX12_keep_85 : decode cX12_keep 85 = .ok (.iload_n 2, 1) := by decide +kernel
theorem dX12_keep_86 : decode cX12_keep 86 = .ok (.iaload, 1) := by decide +kernel
theorem dX12_keep_87 : decode cX12_keep 87 = .ok (.iastore, 1) := by decide +kernel
theorem dX12_keep_88 : decode cX12_keep 88 = .ok (.iinc 2 1, 3) := by decide +kernel
theorem dX12_keep_91 : decode cX12_keep 91 = .ok (.goto (-26), 3) := by decide +kernel
theorem dX12_keep_94 : decode cX12_keep 94 = .ok (.iconst 1, 1) := by decide +kernel
theorem dX12_keep_95 : decode cX12_keep 95 = .ok (.ireturn, 1) := by decide +kernel
theorem dX12_again_0 : decode cX12_again 0 = .ok (.aload_n 0, 1) := by decide +kernel
theorem dX12_again_1 : decode cX12_again 1 = .ok (.iconst 0, 1) := by decide +kernel
theorem dX12_again_2 : decode cX12_again 2 = .ok (.putfield 133, 3) := by decide +kernel
theorem dX12_again_5 : decode cX12_again 5 = .ok (.iload_n 1, 1) := by decide +kernel
theorem dX12_again_6 : decode cX12_again 6 = .ok (.iconst 0, 1) := by decide +kernel
theorem dX12_again_7 : decode cX12_again 7 = .ok (.iconst 2, 1) := by decide +kernel
theorem dX12_again_8 : decode cX12_again 8 = .ok (.invokestatic 142, 3) := by decide +kernel
theorem dX12_again_11 : decode cX12_again 11 = .ok (.ifCond .eq 12, 3) := by decide +kernel
theorem dX12_again_14 : decode cX12_again 14 = .ok (.aload_n 0, 1) := by decide +kernel
theorem dX12_again_15 : decode cX12_again 15 = .ok (.getfield 115, 3) := by decide +kernel
theorem dX12_again_18 : decode cX12_again 18 = .ok (.iload_n 1, 1) := by decide +kernel
theorem dX12_again_19 : decode cX12_again 19 = .ok (.baload, 1) := by decide +kernel
theorem dX12_again_20 : decode cX12_again 20 = .ok (.ifCond .ne 5, 3) := by decide +kernel
theorem dX12_again_23 : decode cX12_again 23 = .ok (.iconst 0, 1) := by decide +kernel
theorem dX12_again_24 : decode cX12_again 24 = .ok (.ireturn, 1) := by decide +kernel
theorem dX12_again_25 : decode cX12_again 25 = .ok (.aload_n 0, 1) := by decide +kernel
theorem dX12_again_26 : decode cX12_again 26 = .ok (.aload_n 0, 1) := by decide +kernel
theorem dX12_again_27 : decode cX12_again 27 = .ok (.getfield 124, 3) := by decide +kernel
theorem dX12_again_30 : decode cX12_again 30 = .ok (.iload_n 1, 1) := by decide +kernel
theorem dX12_again_31 : decode cX12_again 31 = .ok (.iaload, 1) := by decide +kernel
theorem dX12_again_32 : decode cX12_again 32 = .ok (.putfield 368, 3) := by decide +kernel
theorem dX12_again_35 : decode cX12_again 35 = .ok (.aload_n 0, 1) := by decide +kernel
theorem dX12_again_36 : decode cX12_again 36 = .ok (.aload_n 0, 1) := by decide +kernel
theorem dX12_again_37 : decode cX12_again 37 = .ok (.getfield 127, 3) := by decide +kernel
theorem dX12_again_40 : decode cX12_again 40 = .ok (.iload_n 1, 1) := by decide +kernel
theorem dX12_again_41 : decode cX12_again 41 = .ok (.iaload, 1) := by decide +kernel
theorem dX12_again_42 : decode cX12_again 42 = .ok (.putfield 262, 3) := by decide +kernel
theorem dX12_again_45 : decode cX12_again 45 = .ok (.aload_n 0, 1) := by decide +kernel
theorem dX12_again_46 : decode cX12_again 46 = .ok (.aload_n 0, 1) := by decide +kernel
theorem dX12_again_47 : decode cX12_again 47 = .ok (.getfield 130, 3) := by decide +kernel
theorem dX12_again_50 : decode cX12_again 50 = .ok (.iload_n 1, 1) := by decide +kernel
theorem dX12_again_51 : decode cX12_again 51 = .ok (.iaload, 1) := by decide +kernel
theorem dX12_again_52 : decode cX12_again 52 = .ok (.putfield 38, 3) := by decide +kernel
theorem dX12_again_55 : decode cX12_again 55 = .ok (.iconst 0, 1) := by decide +kernel
theorem dX12_again_56 : decode cX12_again 56 = .ok (.istore_n 2, 1) := by decide +kernel
theorem dX12_again_57 : decode cX12_again 57 = .ok (.iload_n 2, 1) := by decide +kernel
theorem dX12_again_58 : decode cX12_again 58 = .ok (.aload_n 0, 1) := by decide +kernel
theorem dX12_again_59 : decode cX12_again 59 = .ok (.getfield 118, 3) := by decide +kernel
theorem dX12_again_62 : decode cX12_again 62 = .ok (.iload_n 1, 1) := by decide +kernel
theorem dX12_again_63 : decode cX12_again 63 = .ok (.iaload, 1) := by decide +kernel
theorem dX12_again_64 : decode cX12_again 64 = .ok (.if_icmp .ge 26, 3) := by decide +kernel
theorem dX12_again_67 : decode cX12_again 67 = .ok (.aload_n 0, 1) := by decide +kernel
theorem dX12_again_68 : decode cX12_again 68 = .ok (.getfield 22, 3) := by decide +kernel
theorem dX12_again_71 : decode cX12_again 71 = .ok (.iload_n 2, 1) := by decide +kernel
theorem dX12_again_72 : decode cX12_again 72 = .ok (.aload_n 0, 1) := by decide +kernel
theorem dX12_again_73 : decode cX12_again 73 = .ok (.getfield 121, 3) := by decide +kernel
theorem dX12_again_76 : decode cX12_again 76 = .ok (.bipush 15, 2) := by decide +kernel
theorem dX12_again_78 : decode cX12_again 78 = .ok (.iload_n 1, 1) := by decide +kernel
theorem dX12_again_79 : decode cX12_again 79 = .ok (.imul, 1) := by decide +kernel
theorem dX12_again_80 : decode cX12_again 80 = .ok (.iload_n 2, 1) := by decide +kernel
theorem dX12_again_81 : decode cX12_again 81 = .ok (.iadd, 1) := by decide +kernel
theorem dX12_again_82 : decode cX12_again 82 = .ok (.iaload, 1) := by decide +kernel
theorem dX12_again_83 : decode cX12_again 83 = .ok (.iastore, 1) := by decide +kernel
theorem dX12_again_84 : decode cX12_again 84 = .ok (.iinc 2 1, 3) := by decide +kernel
theorem dX12_again_87 : decode cX12_again 87 = .ok (.goto (-30), 3) := by decide +kernel
theorem dX12_again_90 : decode cX12_again 90 = .ok (.iconst 1, 1) := by decide +kernel
theorem dX12_again_91 : decode cX12_again 91 = .ok (.ireturn, 1) := by decide +kernel
theorem dX12_seed_0 : decode cX12_seed 0 = .ok (.aload_n 0, 1) := by decide +kernel
theorem dX12_seed_1 : decode cX12_seed 1 = .ok (.iconst 0, 1) := by decide +kernel
theorem dX12_seed_2 : decode cX12_seed 2 = .ok (.putfield 133, 3) := by decide +kernel
theorem dX12_seed_5 : decode cX12_seed 5 = .ok (.aload_n 0, 1) := by decide +kernel
theorem dX12_seed_6 : decode cX12_seed 6 = .ok (.getfield 38, 3) := by decide +kernel
theorem dX12_seed_9 : decode cX12_seed 9 = .ok (.istore_n 2, 1) := by decide +kernel
theorem dX12_seed_10 : decode cX12_seed 10 = .ok (.aload_n 0, 1) := by decide +kernel
theorem dX12_seed_11 : decode cX12_seed 11 = .ok (.iload_n 1, 1) := by decide +kernel
theorem dX12_seed_12 : decode cX12_seed 12 = .ok (.putfield 38, 3) := by decide +kernel
theorem dX12_seed_15 : decode cX12_seed 15 = .ok (.iload_n 2, 1) := by decide +kernel
theorem dX12_seed_16 : decode cX12_seed 16 = .ok (.ireturn, 1) := by decide +kernel
theorem dX12_draw_0 : decode cX12_draw 0 = .ok (.aload_n 0, 1) := by decide +kernel
theorem dX12_draw_1 : decode cX12_draw 1 = .ok (.aload_n 0, 1) := by decide +kernel
theorem dX12_draw_2 : decode cX12_draw 2 = .ok (.getfield 38, 3) := by decide +kernel
theorem dX12_draw_5 : decode cX12_draw 5 = .ok (.ldc_w 380, 3) := by decide +kernel
theorem dX12_draw_8 : decode cX12_draw 8 = .ok (.imul, 1) := by decide +kernel
theorem dX12_draw_9 : decode cX12_draw 9 = .ok (.sipush 12345, 3) := by decide +kernel
theorem dX12_draw_12 : decode cX12_draw 12 = .ok (.iadd, 1) := by decide +kernel
theorem dX12_draw_13 : decode cX12_draw 13 = .ok (.putfield 38, 3) := by decide +kernel
theorem dX12_draw_16 : decode cX12_draw 16 = .ok (.aload_n 0, 1) := by decide +kernel
theorem dX12_draw_17 : decode cX12_draw 17 = .ok (.getfield 38, 3) := by decide +kernel
theorem dX12_draw_20 : decode cX12_draw 20 = .ok (.bipush 16, 2) := by decide +kernel
theorem dX12_draw_22 : decode cX12_draw 22 = .ok (.iushr, 1) := by decide +kernel
theorem dX12_draw_23 : decode cX12_draw 23 = .ok (.iload_n 1, 1) := by decide +kernel
theorem dX12_draw_24 : decode cX12_draw 24 = .ok (.irem, 1) := by decide +kernel
theorem dX12_draw_25 : decode cX12_draw 25 = .ok (.ireturn, 1) := by decide +kernel
theorem dX12_lie_0 : decode cX12_lie 0 = .ok (.aload_n 0, 1) := by decide +kernel
theorem dX12_lie_1 : decode cX12_lie 1 = .ok (.iconst 0, 1) := by decide +kernel
theorem dX12_lie_2 : decode cX12_lie 2 = .ok (.putfield 133, 3) := by decide +kernel
theorem dX12_lie_5 : decode cX12_lie 5 = .ok (.iconst 0, 1) := by decide +kernel
theorem dX12_lie_6 : decode cX12_lie 6 = .ok (.istore_n 1, 1) := by decide +kernel
theorem dX12_lie_7 : decode cX12_lie 7 = .ok (.iconst 0, 1) := by decide +kernel
theorem dX12_lie_8 : decode cX12_lie 8 = .ok (.istore_n 2, 1) := by decide +kernel
theorem dX12_lie_9 : decode cX12_lie 9 = .ok (.iload_n 2, 1) := by decide +kernel
theorem dX12_lie_10 : decode cX12_lie 10 = .ok (.aload_n 0, 1) := by decide +kernel
theorem dX12_lie_11 : decode cX12_lie 11 = .ok (.getfield 139, 3) := by decide +kernel
theorem dX12_lie_14 : decode cX12_lie 14 = .ok (.if_icmp .ge 26, 3) := by decide +kernel
theorem dX12_lie_17 : decode cX12_lie 17 = .ok (.iload_n 1, 1) := by decide +kernel
theorem dX12_lie_18 : decode cX12_lie 18 = .ok (.aload_n 0, 1) := by decide +kernel
theorem dX12_lie_19 : decode cX12_lie 19 = .ok (.getfield 19, 3) := by decide +kernel
theorem dX12_lie_22 : decode cX12_lie 22 = .ok (.iload_n 2, 1) := by decide +kernel
theorem dX12_lie_23 : decode cX12_lie 23 = .ok (.iaload, 1) := by decide +kernel
theorem dX12_lie_24 : decode cX12_lie 24 = .ok (.ifCond .le 7, 3) := by decide +kernel
theorem dX12_lie_27 : decode cX12_lie 27 = .ok (.iconst 1, 1) := by decide +kernel
theorem dX12_lie_28 : decode cX12_lie 28 = .ok (.goto 4, 3) := by decide +kernel
theorem dX12_lie_31 : decode cX12_lie 31 = .ok (.iconst 0, 1) := by decide +kernel
theorem dX12_lie_32 : decode cX12_lie 32 = .ok (.iadd, 1) := by decide +kernel
theorem dX12_lie_33 : decode cX12_lie 33 = .ok (.istore_n 1, 1) := by decide +kernel
theorem dX12_lie_34 : decode cX12_lie 34 = .ok (.iinc 2 1, 3) := by decide +kernel
theorem dX12_lie_37 : decode cX12_lie 37 = .ok (.goto (-28), 3) := by decide +kernel
theorem dX12_lie_40 : decode cX12_lie 40 = .ok (.iload_n 1, 1) := by decide +kernel
theorem dX12_lie_41 : decode cX12_lie 41 = .ok (.ifCond .ne 6, 3) := by decide +kernel
theorem dX12_lie_44 : decode cX12_lie 44 = .ok (.bipush (-2), 2) := by decide +kernel
theorem dX12_lie_46 : decode cX12_lie 46 = .ok (.ireturn, 1) := by decide +kernel
theorem dX12_lie_47 : decode cX12_lie 47 = .ok (.aload_n 0, 1) := by decide +kernel
theorem dX12_lie_48 : decode cX12_lie 48 = .ok (.iload_n 1, 1) := by decide +kernel
theorem dX12_lie_49 : decode cX12_lie 49 = .ok (.invokevirtual 381, 3) := by decide +kernel
theorem dX12_lie_52 : decode cX12_lie 52 = .ok (.istore_n 2, 1) := by decide +kernel
theorem dX12_lie_53 : decode cX12_lie 53 = .ok (.iconst 0, 1) := by decide +kernel
theorem dX12_lie_54 : decode cX12_lie 54 = .ok (.istore_n 3, 1) := by decide +kernel
theorem dX12_lie_55 : decode cX12_lie 55 = .ok (.aload_n 0, 1) := by decide +kernel
theorem dX12_lie_56 : decode cX12_lie 56 = .ok (.getfield 19, 3) := by decide +kernel
theorem dX12_lie_59 : decode cX12_lie 59 = .ok (.iload_n 3, 1) := by decide +kernel
theorem dX12_lie_60 : decode cX12_lie 60 = .ok (.iaload, 1) := by decide +kernel
theorem dX12_lie_61 : decode cX12_lie 61 = .ok (.ifCond .eq 7, 3) := by decide +kernel
theorem dX12_lie_64 : decode cX12_lie 64 = .ok (.iload_n 2, 1) := by decide +kernel
theorem dX12_lie_65 : decode cX12_lie 65 = .ok (.ifCond .le 26, 3) := by decide +kernel
theorem dX12_lie_68 : decode cX12_lie 68 = .ok (.iload_n 2, 1) := by decide +kernel
theorem dX12_lie_69 : decode cX12_lie 69 = .ok (.aload_n 0, 1) := by decide +kernel
theorem dX12_lie_70 : decode cX12_lie 70 = .ok (.getfield 19, 3) := by decide +kernel
theorem dX12_lie_73 : decode cX12_lie 73 = .ok (.iload_n 3, 1) := by decide +kernel
theorem dX12_lie_74 : decode cX12_lie 74 = .ok (.iaload, 1) := by decide +kernel
theorem dX12_lie_75 : decode cX12_lie 75 = .ok (.ifCond .le 7, 3) := by decide +kernel
theorem dX12_lie_78 : decode cX12_lie 78 = .ok (.iconst 1, 1) := by decide +kernel
theorem dX12_lie_79 : decode cX12_lie 79 = .ok (.goto 4, 3) := by decide +kernel
theorem dX12_lie_82 : decode cX12_lie 82 = .ok (.iconst 0, 1) := by decide +kernel
theorem dX12_lie_83 : decode cX12_lie 83 = .ok (.isub, 1) := by decide +kernel
theorem dX12_lie_84 : decode cX12_lie 84 = .ok (.istore_n 2, 1) := by decide +kernel
theorem dX12_lie_85 : decode cX12_lie 85 = .ok (.iinc 3 1, 3) := by decide +kernel
theorem dX12_lie_88 : decode cX12_lie 88 = .ok (.goto (-33), 3) := by decide +kernel
theorem dX12_lie_91 : decode cX12_lie 91 = .ok (.aload_n 0, 1) := by decide +kernel
theorem dX12_lie_92 : decode cX12_lie 92 = .ok (.getfield 22, 3) := by decide +kernel
theorem dX12_lie_95 : decode cX12_lie 95 = .ok (.iload_n 3, 1) := by decide +kernel
theorem dX12_lie_96 : decode cX12_lie 96 = .ok (.aload_n 0, 1) := by decide +kernel
theorem dX12_lie_97 : decode cX12_lie 97 = .ok (.aload_n 0, 1) := by decide +kernel
theorem dX12_lie_98 : decode cX12_lie 98 = .ok (.getfield 19, 3) := by decide +kernel
theorem dX12_lie_101 : decode cX12_lie 101 = .ok (.iload_n 3, 1) := by decide +kernel
theorem dX12_lie_102 : decode cX12_lie 102 = .ok (.iaload, 1) := by decide +kernel
theorem dX12_lie_103 : decode cX12_lie 103 = .ok (.iconst 1, 1) := by decide +kernel
theorem dX12_lie_104 : decode cX12_lie 104 = .ok (.iadd, 1) := by decide +kernel
theorem dX12_lie_105 : decode cX12_lie 105 = .ok (.invokevirtual 381, 3) := by decide +kernel
theorem dX12_lie_108 : decode cX12_lie 108 = .ok (.iastore, 1) := by decide +kernel
theorem dX12_lie_109 : decode cX12_lie 109 = .ok (.iload_n 3, 1) := by decide +kernel
theorem dX12_lie_110 : decode cX12_lie 110 = .ok (.ireturn, 1) := by decide +kernel
theorem dX12_count_0 : decode cX12_count 0 = .ok (.aload_n 0, 1) := by decide +kernel
theorem dX12_count_1 : decode cX12_count 1 = .ok (.iconst 0, 1) := by decide +kernel
theorem dX12_count_2 : decode cX12_count 2 = .ok (.putfield 133, 3) := by decide +kernel
theorem dX12_count_5 : decode cX12_count 5 = .ok (.iload_n 1, 1) := by decide +kernel
theorem dX12_count_6 : decode cX12_count 6 = .ok (.tableswitch 104 0 9 #[54, 59, 64, 69, 74, 79, 84, 89, 94, 99], 54) := by decide +kernel
theorem dX12_count_60 : decode cX12_count 60 = .ok (.aload_n 0, 1) := by decide +kernel
theorem dX12_count_61 : decode cX12_count 61 = .ok (.getfield 139, 3) := by decide +kernel
theorem dX12_count_64 : decode cX12_count 64 = .ok (.ireturn, 1) := by decide +kernel
theorem dX12_count_65 : decode cX12_count 65 = .ok (.aload_n 0, 1) := by decide +kernel
theorem dX12_count_66 : decode cX12_count 66 = .ok (.getfield 181, 3) := by decide +kernel
theorem dX12_count_69 : decode cX12_count 69 = .ok (.ireturn, 1) := by decide +kernel
theorem dX12_count_70 : decode cX12_count 70 = .ok (.aload_n 0, 1) := by decide +kernel
theorem dX12_count_71 : decode cX12_count 71 = .ok (.getfield 272, 3) := by decide +kernel
theorem dX12_count_74 : decode cX12_count 74 = .ok (.ireturn, 1) := by decide +kernel
theorem dX12_count_75 : decode cX12_count 75 = .ok (.aload_n 0, 1) := by decide +kernel
theorem dX12_count_76 : decode cX12_count 76 = .ok (.getfield 304, 3) := by decide +kernel
theorem dX12_count_79 : decode cX12_count 79 = .ok (.ireturn, 1) := by decide +kernel
theorem dX12_count_80 : decode cX12_count 80 = .ok (.aload_n 0, 1) := by decide +kernel
theorem dX12_count_81 : decode cX12_count 81 = .ok (.getfield 345, 3) := by decide +kernel
theorem dX12_count_84 : decode cX12_count 84 = .ok (.ireturn, 1) := by decide +kernel
theorem dX12_count_85 : decode cX12_count 85 = .ok (.aload_n 0, 1) := by decide +kernel
theorem dX12_count_86 : decode cX12_count 86 = .ok (.getfield 351, 3) := by decide +kernel
theorem dX12_count_89 : decode cX12_count 89 = .ok (.ireturn, 1) := by decide +kernel
theorem dX12_count_90 : decode cX12_count 90 = .ok (.aload_n 0, 1) := by decide +kernel
theorem dX12_count_91 : decode cX12_count 91 = .ok (.getfield 368, 3) := by decide +kernel
theorem dX12_count_94 : decode cX12_count 94 = .ok (.ireturn, 1) := by decide +kernel
theorem dX12_count_95 : decode cX12_count 95 = .ok (.aload_n 0, 1) := by decide +kernel
theorem dX12_count_96 : decode cX12_count 96 = .ok (.getfield 262, 3) := by decide +kernel
theorem dX12_count_99 : decode cX12_count 99 = .ok (.ireturn, 1) := by decide +kernel
theorem dX12_count_100 : decode cX12_count 100 = .ok (.aload_n 0, 1) := by decide +kernel
theorem dX12_count_101 : decode cX12_count 101 = .ok (.getfield 136, 3) := by decide +kernel
theorem dX12_count_104 : decode cX12_count 104 = .ok (.ireturn, 1) := by decide +kernel
theorem dX12_count_105 : decode cX12_count 105 = .ok (.aload_n 0, 1) := by decide +kernel
theorem dX12_count_106 : decode cX12_count 106 = .ok (.getfield 214, 3) := by decide +kernel
theorem dX12_count_109 : decode cX12_count 109 = .ok (.ireturn, 1) := by decide +kernel
theorem dX12_count_110 : decode cX12_count 110 = .ok (.iconst (-1), 1) := by decide +kernel
theorem dX12_count_111 : decode cX12_count 111 = .ok (.ireturn, 1) := by decide +kernel
theorem dX12_row_0 : decode cX12_row 0 = .ok (.aload_n 0, 1) := by decide +kernel
theorem dX12_row_1 : decode cX12_row 1 = .ok (.iconst 0, 1) := by decide +kernel
theorem dX12_row_2 : decode cX12_row 2 = .ok (.putfield 133, 3) := by decide +kernel
theorem dX12_row_5 : decode cX12_row 5 = .ok (.iload_n 1, 1) := by decide +kernel
theorem dX12_row_6 : decode cX12_row 6 = .ok (.iconst 0, 1) := by decide +kernel
theorem dX12_row_7 : decode cX12_row 7 = .ok (.aload_n 0, 1) := by decide +kernel
theorem dX12_row_8 : decode cX12_row 8 = .ok (.getfield 136, 3) := by decide +kernel
theorem dX12_row_11 : decode cX12_row 11 = .ok (.iconst 1, 1) := by decide +kernel
theorem dX12_row_12 : decode cX12_row 12 = .ok (.isub, 1) := by decide +kernel
theorem dX12_row_13 : decode cX12_row 13 = .ok (.invokestatic 142, 3) := by decide +kernel
theorem dX12_row_16 : decode cX12_row 16 = .ok (.ifCond .eq 12, 3) := by decide +kernel
theorem dX12_row_19 : decode cX12_row 19 = .ok (.aload_n 0, 1) := by decide +kernel
theorem dX12_row_20 : decode cX12_row 20 = .ok (.getfield 45, 3) := by decide +kernel
theorem dX12_row_23 : decode cX12_row 23 = .ok (.iload_n 1, 1) := by decide +kernel
theorem dX12_row_24 : decode cX12_row 24 = .ok (.iaload, 1) := by decide +kernel
theorem dX12_row_25 : decode cX12_row 25 = .ok (.goto 7, 3) := by decide +kernel
theorem dX12_row_28 : decode cX12_row 28 = .ok (.aload_n 0, 1) := by decide +kernel
theorem dX12_row_29 : decode cX12_row 29 = .ok (.invokevirtual 184, 3) := by decide +kernel
theorem dX12_row_32 : decode cX12_row 32 = .ok (.ireturn, 1) := by decide +kernel
noncomputable def fX12_rise_204 (v3 : Int32) (v4 : Int32) (h : HS) : Option (Int32 × HS) := nm (pI h 0 21 (0 : Int32)) (fun h17 => bv (fX12_tell v3 h17) (fun h18 => bv (fX12_tell (((gI h18 0 15) - v4)) h18) (fun h19 => bd (fJ6_bitCount_0f7a4 v3 h19) (fun r21 h20 => some (r21, h20)))))
set_option maxRecDepth 100000 in
theorem jX12_rise_204 {r : Int32} {h0 : HS} (v3 : Int32) (v4 : Int32) (h : HS) (H : fX12_rise_204 v3 v4 h = some (r, h0)) : Jx skM RX12 cX12_rise 9 (some .int) 3 (some (.int r)) h0 204 [some (.ref 0), none, none, some (.int v3), some (.int v4), none, none, none, none] [] h := by
  unfold fX12_rise_204 at H
  refine j_aload_n (pc := 204) dX12_rise_204 rfl ?_
  refine j_iconst (pc := 205) (v := 0) dX12_rise_205 (by decide) ?_
  obtain ⟨h17, eh17, H⟩ := nm_x H
  refine j_putI (pc := 206) dX12_rise_206 fpX12_136 rfl h17 eh17 ?_
  refine j_aload_n (pc := 209) dX12_rise_209 rfl ?_
  refine j_iload_n (pc := 210) dX12_rise_210 rfl ?_
  obtain ⟨h18, eh18, H⟩ := bv_x H
  refine j_callV (pc := 211) dX12_rise_211 mlX12_210 wyX12_tell (tX12_tell eh18) (by decide) rfl rfl rfl rfl (by simp [Value.category]) rfl ?_
  refine j_aload_n (pc := 214) dX12_rise_214 rfl ?_
  refine j_aload_n (pc := 215) dX12_rise_215 rfl ?_
  refine j_getI (pc := 216) dX12_rise_216 flX12_368 rfl ?_
  refine j_iload (pc := 219) dX12_rise_219 rfl ?_
  refine j_isub (pc := 221) dX12_rise_221 ?_
  obtain ⟨h19, eh19, H⟩ := bv_x H
  refine j_callV (pc := 222) dX12_rise_222 mlX12_210 wyX12_tell (tX12_tell eh19) (by decide) rfl rfl rfl rfl (by simp [Value.category]) rfl ?_
  refine j_iload_n (pc := 225) dX12_rise_225 rfl ?_
  obtain ⟨r21, h20, eh20, H⟩ := bd_x H
  refine j_callS (pc := 226) dX12_rise_226 mlX12_361 wyJ6_bitCount_0f7a4 (tJ6_bitCount_0f7a4 eh20) (by decide) rfl (by simp [Value.category]) rfl ?_
  exact j_ireturn (pc := 229) dX12_rise_229 rfl (ri_1 H) (ri_2 H)
noncomputable def fX12_rise_170 (k32 : Int32 → Int32 → Int32 → Int32 → Int32 → HS → Option (Int32 × HS)) (v1 : Int32) (v2 : Int32) (v5 : Int32) (v6 : Int32) (h : HS) : Option (Int32 × HS) := nm (v5 + (1 : Int32)) (fun v5_48 => k32 v1 v2 v5 v6 v5_48 h)
set_option maxRecDepth 100000 in
theorem jX12_rise_170 {r : Int32} {h0 : HS} (k32 : Int32 → Int32 → Int32 → Int32 → Int32 → HS → Option (Int32 × HS)) (hk32 : ∀ (v1 : Int32) (v2 : Int32) (v3 : Int32) (v4 : Int32) (v5 : Int32) (h : HS), k32 v1 v2 v3 v4 v5 h = some (r, h0) → Jx skM RX12 cX12_rise 9 (some .int) 3 (some (.int r)) h0 32 [some (.ref 0), some (.int v1), some (.int v2), some (.int v3), some (.int v4), some (.int v5), none, none, none] [] h) (v1 : Int32) (v2 : Int32) (v5 : Int32) (v6 : Int32) (h : HS) (H : fX12_rise_170 k32 v1 v2 v5 v6 h = some (r, h0)) : Jx skM RX12 cX12_rise 9 (some .int) 3 (some (.int r)) h0 170 [some (.ref 0), some (.int v1), some (.int v2), none, none, some (.int v5), some (.int v6), none, none] [] h := by
  unfold fX12_rise_170 at H
  refine j_iload (pc := 170) dX12_rise_170 rfl ?_
  refine j_istore_n (pc := 172) (L' := [some (.ref 0), some (.int v1), some (.int v2), some (.int v5), none, some (.int v5), some (.int v6), none, none]) dX12_rise_172 (by decide) rfl ?_
  refine j_iload (pc := 173) dX12_rise_173 rfl ?_
  refine j_istore (pc := 175) (L' := [some (.ref 0), some (.int v1), some (.int v2), some (.int v5), some (.int v6), some (.int v5), some (.int v6), none, none]) dX12_rise_175 (by decide) rfl ?_
  obtain ⟨v5_48, ev5_48, H⟩ := nm_x H
  refine j_iinc (pc := 177) (L' := [some (.ref 0), some (.int v1), some (.int v2), some (.int v5), some (.int v6), some (.int v5_48), some (.int v6), none, none]) (w := 1) dX12_rise_177 rfl (by decide) (by decide) v5_48 ev5_48 rfl ?_
  refine j_goto (pc := 180) (tgt := 32) dX12_rise_180 (by decide) ?_
  refine Jx.sub (L' := [some (.ref 0), some (.int v1), some (.int v2), some (.int v5), some (.int v6), some (.int v5_48), none, none, none]) (⟨rfl, ⟨rfl, ⟨rfl, ⟨rfl, ⟨rfl, ⟨rfl, trivial⟩⟩⟩⟩⟩⟩) ?_
  exact hk32 v1 v2 v5 v6 v5_48 h H
noncomputable def fX12_rise_63 (k32 : Int32 → Int32 → Int32 → Int32 → Int32 → HS → Option (Int32 × HS)) : Nat → Int32 → Int32 → Int32 → Int32 → Int32 → Int32 → Int32 → Int32 → HS → Option (Int32 × HS)
  | 0, _, _, _, _, _, _, _, _, _ => none
  | n + 1, v1, v2, v3, v4, v5, v6, v7, v8, h => if (gI h 0 0) ≤ v8 then (if 0 ≤ v7 then (nm (v5 + (1 : Int32)) (fun v5_24 => k32 v1 v2 v3 v4 v5_24 h)) else (if v6 ≤ (gI h 0 15) then (if v3 = (-1 : Int32) then (fX12_rise_170 k32 v1 v2 v5 v6 h) else (if v4 < v6 then (nm (v5 + (1 : Int32)) (fun v5_28 => k32 v1 v2 v3 v4 v5_28 h)) else (if v6 = v4 then (bd (fJ6_bitCount_0f7a4 v5 h) (fun r31 h30 => bd (fJ6_bitCount_0f7a4 v3 h30) (fun r33 h32 => if r31 < r33 then (fX12_rise_170 k32 v1 v2 v5 v6 h32) else (nm (v5 + (1 : Int32)) (fun v5_35 => k32 v1 v2 v3 v4 v5_35 h32))))) else (fX12_rise_170 k32 v1 v2 v5 v6 h)))) else (nm (v5 + (1 : Int32)) (fun v5_36 => k32 v1 v2 v3 v4 v5_36 h)))) else (bd (fX12_has v5 v8 h) (fun r38 h37 => if r38 = 0 then (nm (v8 + (1 : Int32)) (fun v8_47 => fX12_rise_63 k32 n v1 v2 v3 v4 v5 v6 v7 v8_47 h37)) else (ck (inb v8 15) (bd (fX12_airFor ((gI h37 5 v8.toNatClampNeg)) v2 h37) (fun r42 h41 => nm ((v6 + r42)) (fun v6_43 => ck (inb v8 15) (nm ((v7 - (gI h41 5 v8.toNatClampNeg))) (fun v7_45 => nm (v8 + (1 : Int32)) (fun v8_46 => fX12_rise_63 k32 n v1 v2 v3 v4 v5 v6_43 v7_45 v8_46 h41)))))))))
set_option maxRecDepth 100000 in
theorem jX12_rise_63 {r : Int32} {h0 : HS} (k32 : Int32 → Int32 → Int32 → Int32 → Int32 → HS → Option (Int32 × HS)) (hk32 : ∀ (v1 : Int32) (v2 : Int32) (v3 : Int32) (v4 : Int32) (v5 : Int32) (h : HS), k32 v1 v2 v3 v4 v5 h = some (r, h0) → Jx skM RX12 cX12_rise 9 (some .int) 3 (some (.int r)) h0 32 [some (.ref 0), some (.int v1), some (.int v2), some (.int v3), some (.int v4), some (.int v5), none, none, none] [] h) : ∀ (n : Nat) (v1 : Int32) (v2 : Int32) (v3 : Int32) (v4 : Int32) (v5 : Int32) (v6 : Int32) (v7 : Int32) (v8 : Int32) (h : HS), fX12_rise_63 k32 n v1 v2 v3 v4 v5 v6 v7 v8 h = some (r, h0) → Jx skM RX12 cX12_rise 9 (some .int) 3 (some (.int r)) h0 63 [some (.ref 0), some (.int v1), some (.int v2), some (.int v3), some (.int v4), some (.int v5), some (.int v6), some (.int v7), some (.int v8)] [] h := by
  intro n
  induction n with
  | zero => intro v1 v2 v3 v4 v5 v6 v7 v8  h H; cases H
  | succ n ih =>
    intro v1 v2 v3 v4 v5 v6 v7 v8  h H
    rw [fX12_rise_63] at H
    refine j_iload (pc := 63) dX12_rise_63 rfl ?_
    refine j_aload_n (pc := 65) dX12_rise_65 rfl ?_
    refine j_getI (pc := 66) dX12_rise_66 flX12_139 rfl ?_
    refine j_icmp_ge (pc := 69) (tgt := 119) dX12_rise_69 (by decide) (fun c22 => ?_) (fun c22 => ?_)
    · rw [if_pos c22] at H
      refine j_iload (pc := 119) dX12_rise_119 rfl ?_
      refine j_if_ge (pc := 121) (tgt := 177) dX12_rise_121 (by decide) (fun c23 => ?_) (fun c23 => ?_)
      · rw [if_pos c23] at H
        obtain ⟨v5_24, ev5_24, H⟩ := nm_x H
        refine j_iinc (pc := 177) (L' := [some (.ref 0), some (.int v1), some (.int v2), some (.int v3), some (.int v4), some (.int v5_24), some (.int v6), some (.int v7), some (.int v8)]) (w := 1) dX12_rise_177 rfl (by decide) (by decide) v5_24 ev5_24 rfl ?_
        refine j_goto (pc := 180) (tgt := 32) dX12_rise_180 (by decide) ?_
        refine Jx.sub (L' := [some (.ref 0), some (.int v1), some (.int v2), some (.int v3), some (.int v4), some (.int v5_24), none, none, none]) (⟨rfl, ⟨rfl, ⟨rfl, ⟨rfl, ⟨rfl, ⟨rfl, trivial⟩⟩⟩⟩⟩⟩) ?_
        exact hk32 v1 v2 v3 v4 v5_24 h H
      · rw [if_neg c23] at H
        refine j_iload (pc := 124) dX12_rise_124 rfl ?_
        refine j_aload_n (pc := 126) dX12_rise_126 rfl ?_
        refine j_getI (pc := 127) dX12_rise_127 flX12_368 rfl ?_
        refine j_icmp_le (pc := 130) (tgt := 136) dX12_rise_130 (by decide) (fun c25 => ?_) (fun c25 => ?_)
        · rw [if_pos c25] at H
          refine j_iload_n (pc := 136) dX12_rise_136 rfl ?_
          refine j_iconst (pc := 137) (v := -1) dX12_rise_137 (by decide) ?_
          refine j_icmp_eq (pc := 138) (tgt := 170) dX12_rise_138 (by decide) (fun c26 => ?_) (fun c26 => ?_)
          · rw [if_pos c26] at H
            refine Jx.sub (L' := [some (.ref 0), some (.int v1), some (.int v2), none, none, some (.int v5), some (.int v6), none, none]) (⟨rfl, ⟨rfl, ⟨rfl, ⟨rfl, ⟨rfl, trivial⟩⟩⟩⟩⟩) ?_
            exact jX12_rise_170 _ hk32 v1 v2 v5 v6 h H
          · rw [if_neg c26] at H
            refine j_iload (pc := 141) dX12_rise_141 rfl ?_
            refine j_iload (pc := 143) dX12_rise_143 rfl ?_
            refine j_icmp_gt (pc := 145) (tgt := 177) dX12_rise_145 (by decide) (fun c27 => ?_) (fun c27 => ?_)
            · rw [if_pos c27] at H
              obtain ⟨v5_28, ev5_28, H⟩ := nm_x H
              refine j_iinc (pc := 177) (L' := [some (.ref 0), some (.int v1), some (.int v2), some (.int v3), some (.int v4), some (.int v5_28), some (.int v6), some (.int v7), some (.int v8)]) (w := 1) dX12_rise_177 rfl (by decide) (by decide) v5_28 ev5_28 rfl ?_
              refine j_goto (pc := 180) (tgt := 32) dX12_rise_180 (by decide) ?_
              refine Jx.sub (L' := [some (.ref 0), some (.int v1), some (.int v2), some (.int v3), some (.int v4), some (.int v5_28), none, none, none]) (⟨rfl, ⟨rfl, ⟨rfl, ⟨rfl, ⟨rfl, ⟨rfl, trivial⟩⟩⟩⟩⟩⟩) ?_
              exact hk32 v1 v2 v3 v4 v5_28 h H
            · rw [if_neg c27] at H
              refine j_iload (pc := 148) dX12_rise_148 rfl ?_
              refine j_iload (pc := 150) dX12_rise_150 rfl ?_
              refine j_icmp_ne (pc := 152) (tgt := 170) dX12_rise_152 (by decide) (fun c29 => ?_) (fun c29 => ?_)
              · rw [if_neg c29] at H
                refine Jx.sub (L' := [some (.ref 0), some (.int v1), some (.int v2), none, none, some (.int v5), some (.int v6), none, none]) (⟨rfl, ⟨rfl, ⟨rfl, ⟨rfl, ⟨rfl, trivial⟩⟩⟩⟩⟩) ?_
                exact jX12_rise_170 _ hk32 v1 v2 v5 v6 h H
              · rw [if_pos c29] at H
                refine j_iload (pc := 155) dX12_rise_155 rfl ?_
                obtain ⟨r31, h30, eh30, H⟩ := bd_x H
                refine j_callS (pc := 157) dX12_rise_157 mlX12_361 wyJ6_bitCount_0f7a4 (tJ6_bitCount_0f7a4 eh30) (by decide) rfl (by simp [Value.category]) rfl ?_
                refine j_iload_n (pc := 160) dX12_rise_160 rfl ?_
                obtain ⟨r33, h32, eh32, H⟩ := bd_x H
                refine j_callS (pc := 161) dX12_rise_161 mlX12_361 wyJ6_bitCount_0f7a4 (tJ6_bitCount_0f7a4 eh32) (by decide) rfl (by simp [Value.category]) rfl ?_
                refine j_icmp_lt (pc := 164) (tgt := 170) dX12_rise_164 (by decide) (fun c34 => ?_) (fun c34 => ?_)
                · rw [if_pos c34] at H
                  refine Jx.sub (L' := [some (.ref 0), some (.int v1), some (.int v2), none, none, some (.int v5), some (.int v6), none, none]) (⟨rfl, ⟨rfl, ⟨rfl, ⟨rfl, ⟨rfl, trivial⟩⟩⟩⟩⟩) ?_
                  exact jX12_rise_170 _ hk32 v1 v2 v5 v6 h32 H
                · rw [if_neg c34] at H
                  refine j_goto (pc := 167) (tgt := 177) dX12_rise_167 (by decide) ?_
                  obtain ⟨v5_35, ev5_35, H⟩ := nm_x H
                  refine j_iinc (pc := 177) (L' := [some (.ref 0), some (.int v1), some (.int v2), some (.int v3), some (.int v4), some (.int v5_35), some (.int v6), some (.int v7), some (.int v8)]) (w := 1) dX12_rise_177 rfl (by decide) (by decide) v5_35 ev5_35 rfl ?_
                  refine j_goto (pc := 180) (tgt := 32) dX12_rise_180 (by decide) ?_
                  refine Jx.sub (L' := [some (.ref 0), some (.int v1), some (.int v2), some (.int v3), some (.int v4), some (.int v5_35), none, none, none]) (⟨rfl, ⟨rfl, ⟨rfl, ⟨rfl, ⟨rfl, ⟨rfl, trivial⟩⟩⟩⟩⟩⟩) ?_
                  exact hk32 v1 v2 v3 v4 v5_35 h32 H
        · rw [if_neg c25] at H
          refine j_goto (pc := 133) (tgt := 177) dX12_rise_133 (by decide) ?_
          obtain ⟨v5_36, ev5_36, H⟩ := nm_x H
          refine j_iinc (pc := 177) (L' := [some (.ref 0), some (.int v1), some (.int v2), some (.int v3), some (.int v4), some (.int v5_36), some (.int v6), some (.int v7), some (.int v8)]) (w := 1) dX12_rise_177 rfl (by decide) (by decide) v5_36 ev5_36 rfl ?_
          refine j_goto (pc := 180) (tgt := 32) dX12_rise_180 (by decide) ?_
          refine Jx.sub (L' := [some (.ref 0), some (.int v1), some (.int v2), some (.int v3), some (.int v4), some (.int v5_36), none, none, none]) (⟨rfl, ⟨rfl, ⟨rfl, ⟨rfl, ⟨rfl, ⟨rfl, trivial⟩⟩⟩⟩⟩⟩) ?_
          exact hk32 v1 v2 v3 v4 v5_36 h H
    · rw [if_neg c22] at H
      refine j_iload (pc := 72) dX12_rise_72 rfl ?_
      refine j_iload (pc := 74) dX12_rise_74 rfl ?_
      obtain ⟨r38, h37, eh37, H⟩ := bd_x H
      refine j_callS (pc := 76) dX12_rise_76 mlX12_366 wyX12_has (tX12_has eh37) (by decide) rfl (by simp [Value.category]) rfl ?_
      refine j_if_ne (pc := 79) (tgt := 85) dX12_rise_79 (by decide) (fun c39 => ?_) (fun c39 => ?_)
      · rw [if_neg c39] at H
        refine j_iload (pc := 85) dX12_rise_85 rfl ?_
        refine j_aload_n (pc := 87) dX12_rise_87 rfl ?_
        refine j_getR (pc := 88) (b := 5) dX12_rise_88 flX12_22 rfl ?_
        refine j_iload (pc := 91) dX12_rise_91 rfl ?_
        obtain ⟨b40, H⟩ := ck_x H
        refine j_iaload (pc := 93) dX12_rise_93 rfl b40 rfl ?_
        refine j_iload_n (pc := 94) dX12_rise_94 rfl ?_
        obtain ⟨r42, h41, eh41, H⟩ := bd_x H
        refine j_callS (pc := 95) dX12_rise_95 mlX12_371 wyX12_airFor (tX12_airFor eh41) (by decide) rfl (by simp [Value.category]) rfl ?_
        refine j_iadd (pc := 98) dX12_rise_98 ?_
        obtain ⟨v6_43, ev6_43, H⟩ := nm_x H
        refine j_topi ev6_43 ?_
        refine j_istore (pc := 99) (L' := [some (.ref 0), some (.int v1), some (.int v2), some (.int v3), some (.int v4), some (.int v5), some (.int v6_43), some (.int v7), some (.int v8)]) dX12_rise_99 (by decide) rfl ?_
        refine j_iload (pc := 101) dX12_rise_101 rfl ?_
        refine j_aload_n (pc := 103) dX12_rise_103 rfl ?_
        refine j_getR (pc := 104) (b := 5) dX12_rise_104 flX12_22 rfl ?_
        refine j_iload (pc := 107) dX12_rise_107 rfl ?_
        obtain ⟨b44, H⟩ := ck_x H
        refine j_iaload (pc := 109) dX12_rise_109 rfl b44 rfl ?_
        refine j_isub (pc := 110) dX12_rise_110 ?_
        obtain ⟨v7_45, ev7_45, H⟩ := nm_x H
        refine j_topi ev7_45 ?_
        refine j_istore (pc := 111) (L' := [some (.ref 0), some (.int v1), some (.int v2), some (.int v3), some (.int v4), some (.int v5), some (.int v6_43), some (.int v7_45), some (.int v8)]) dX12_rise_111 (by decide) rfl ?_
        obtain ⟨v8_46, ev8_46, H⟩ := nm_x H
        refine j_iinc (pc := 113) (L' := [some (.ref 0), some (.int v1), some (.int v2), some (.int v3), some (.int v4), some (.int v5), some (.int v6_43), some (.int v7_45), some (.int v8_46)]) (w := 1) dX12_rise_113 rfl (by decide) (by decide) v8_46 ev8_46 rfl ?_
        refine j_goto (pc := 116) (tgt := 63) dX12_rise_116 (by decide) ?_
        refine Jx.sub (L' := [some (.ref 0), some (.int v1), some (.int v2), some (.int v3), some (.int v4), some (.int v5), some (.int v6_43), some (.int v7_45), some (.int v8_46)]) (⟨rfl, ⟨rfl, ⟨rfl, ⟨rfl, ⟨rfl, ⟨rfl, ⟨rfl, ⟨rfl, ⟨rfl, trivial⟩⟩⟩⟩⟩⟩⟩⟩⟩) ?_
        exact ih v1 v2 v3 v4 v5 v6_43 v7_45 v8_46 h41 H
      · rw [if_pos c39] at H
        refine j_goto (pc := 82) (tgt := 113) dX12_rise_82 (by decide) ?_
        obtain ⟨v8_47, ev8_47, H⟩ := nm_x H
        refine j_iinc (pc := 113) (L' := [some (.ref 0), some (.int v1), some (.int v2), some (.int v3), some (.int v4), some (.int v5), some (.int v6), some (.int v7), some (.int v8_47)]) (w := 1) dX12_rise_113 rfl (by decide) (by decide) v8_47 ev8_47 rfl ?_
        refine j_goto (pc := 116) (tgt := 63) dX12_rise_116 (by decide) ?_
        refine Jx.sub (L' := [some (.ref 0), some (.int v1), some (.int v2), some (.int v3), some (.int v4), some (.int v5), some (.int v6), some (.int v7), some (.int v8_47)]) (⟨rfl, ⟨rfl, ⟨rfl, ⟨rfl, ⟨rfl, ⟨rfl, ⟨rfl, ⟨rfl, ⟨rfl, trivial⟩⟩⟩⟩⟩⟩⟩⟩⟩) ?_
        exact ih v1 v2 v3 v4 v5 v6 v7 v8_47 h37 H
noncomputable def fX12_rise_32 : Nat → Int32 → Int32 → Int32 → Int32 → Int32 → HS → Option (Int32 × HS)
  | 0, _, _, _, _, _, _ => none
  | n + 1, v1, v2, v3, v4, v5, h => if v1 < v5 then (if v3 = (-1 : Int32) then (some ((-2 : Int32), h)) else (bd (fX12_heavyAt v2 h) (fun r11 h10 => if 0 ≤ r11 then (fX12_rise_204 v3 v4 h10) else (fX12_rise_204 (0 : Int32) (0 : Int32) h10)))) else (if (v5 &&& (v1 ^^^ (-1 : Int32))) = 0 then (bd (fX12_heavyAt v2 h) (fun r15 h14 => fX12_rise_63 (fX12_rise_32 n) FU v1 v2 v3 v4 v5 (0 : Int32) r15 (0 : Int32) h14)) else (nm (v5 + (1 : Int32)) (fun v5_16 => fX12_rise_32 n v1 v2 v3 v4 v5_16 h)))
set_option maxRecDepth 100000 in
theorem jX12_rise_32 {r : Int32} {h0 : HS} : ∀ (n : Nat) (v1 : Int32) (v2 : Int32) (v3 : Int32) (v4 : Int32) (v5 : Int32) (h : HS), fX12_rise_32 n v1 v2 v3 v4 v5 h = some (r, h0) → Jx skM RX12 cX12_rise 9 (some .int) 3 (some (.int r)) h0 32 [some (.ref 0), some (.int v1), some (.int v2), some (.int v3), some (.int v4), some (.int v5), none, none, none] [] h := by
  intro n
  induction n with
  | zero => intro v1 v2 v3 v4 v5  h H; cases H
  | succ n ih =>
    intro v1 v2 v3 v4 v5  h H
    rw [fX12_rise_32] at H
    refine j_iload (pc := 32) dX12_rise_32 rfl ?_
    refine j_iload_n (pc := 34) dX12_rise_34 rfl ?_
    refine j_icmp_gt (pc := 35) (tgt := 183) dX12_rise_35 (by decide) (fun c8 => ?_) (fun c8 => ?_)
    · rw [if_pos c8] at H
      refine j_iload_n (pc := 183) dX12_rise_183 rfl ?_
      refine j_iconst (pc := 184) (v := -1) dX12_rise_184 (by decide) ?_
      refine j_icmp_ne (pc := 185) (tgt := 191) dX12_rise_185 (by decide) (fun c9 => ?_) (fun c9 => ?_)
      · rw [if_neg c9] at H
        refine j_aload_n (pc := 191) dX12_rise_191 rfl ?_
        refine j_iload_n (pc := 192) dX12_rise_192 rfl ?_
        obtain ⟨r11, h10, eh10, H⟩ := bd_x H
        refine j_callV (pc := 193) dX12_rise_193 mlX12_198 wyX12_heavyAt (tX12_heavyAt eh10) (by decide) rfl rfl rfl rfl (by simp [Value.category]) rfl ?_
        refine j_if_ge (pc := 196) (tgt := 204) dX12_rise_196 (by decide) (fun c12 => ?_) (fun c12 => ?_)
        · rw [if_pos c12] at H
          refine Jx.sub (L' := [some (.ref 0), none, none, some (.int v3), some (.int v4), none, none, none, none]) (⟨rfl, ⟨rfl, ⟨rfl, trivial⟩⟩⟩) ?_
          exact jX12_rise_204 v3 v4 h10 H
        · rw [if_neg c12] at H
          refine j_iconst (pc := 199) (v := 0) dX12_rise_199 (by decide) ?_
          refine j_istore_n (pc := 200) (L' := [some (.ref 0), some (.int v1), some (.int v2), some (.int (0 : Int32)), some (.int v4), some (.int v5), none, none, none]) dX12_rise_200 (by decide) rfl ?_
          refine j_iconst (pc := 201) (v := 0) dX12_rise_201 (by decide) ?_
          refine j_istore (pc := 202) (L' := [some (.ref 0), some (.int v1), some (.int v2), some (.int (0 : Int32)), some (.int (0 : Int32)), some (.int v5), none, none, none]) dX12_rise_202 (by decide) rfl ?_
          refine Jx.sub (L' := [some (.ref 0), none, none, some (.int (0 : Int32)), some (.int (0 : Int32)), none, none, none, none]) (⟨rfl, ⟨rfl, ⟨rfl, trivial⟩⟩⟩) ?_
          exact jX12_rise_204 (0 : Int32) (0 : Int32) h10 H
      · rw [if_pos c9] at H
        refine j_bipush (pc := 188) (v := -2) dX12_rise_188 (by decide) ?_
        exact j_ireturn (pc := 190) dX12_rise_190 rfl (ri_1 H) (ri_2 H)
    · rw [if_neg c8] at H
      refine j_iload (pc := 38) dX12_rise_38 rfl ?_
      refine j_iload_n (pc := 40) dX12_rise_40 rfl ?_
      refine j_iconst (pc := 41) (v := -1) dX12_rise_41 (by decide) ?_
      refine j_ixor (pc := 42) dX12_rise_42 ?_
      refine j_iand (pc := 43) dX12_rise_43 ?_
      refine j_if_eq (pc := 44) (tgt := 50) dX12_rise_44 (by decide) (fun c13 => ?_) (fun c13 => ?_)
      · rw [if_pos c13] at H
        refine j_iconst (pc := 50) (v := 0) dX12_rise_50 (by decide) ?_
        refine j_istore (pc := 51) (L' := [some (.ref 0), some (.int v1), some (.int v2), some (.int v3), some (.int v4), some (.int v5), some (.int (0 : Int32)), none, none]) dX12_rise_51 (by decide) rfl ?_
        refine j_aload_n (pc := 53) dX12_rise_53 rfl ?_
        refine j_iload_n (pc := 54) dX12_rise_54 rfl ?_
        obtain ⟨r15, h14, eh14, H⟩ := bd_x H
        refine j_callV (pc := 55) dX12_rise_55 mlX12_198 wyX12_heavyAt (tX12_heavyAt eh14) (by decide) rfl rfl rfl rfl (by simp [Value.category]) rfl ?_
        refine j_istore (pc := 58) (L' := [some (.ref 0), some (.int v1), some (.int v2), some (.int v3), some (.int v4), some (.int v5), some (.int (0 : Int32)), some (.int r15), none]) dX12_rise_58 (by decide) rfl ?_
        refine j_iconst (pc := 60) (v := 0) dX12_rise_60 (by decide) ?_
        refine j_istore (pc := 61) (L' := [some (.ref 0), some (.int v1), some (.int v2), some (.int v3), some (.int v4), some (.int v5), some (.int (0 : Int32)), some (.int r15), some (.int (0 : Int32))]) dX12_rise_61 (by decide) rfl ?_
        refine Jx.sub (L' := [some (.ref 0), some (.int v1), some (.int v2), some (.int v3), some (.int v4), some (.int v5), some (.int (0 : Int32)), some (.int r15), some (.int (0 : Int32))]) (⟨rfl, ⟨rfl, ⟨rfl, ⟨rfl, ⟨rfl, ⟨rfl, ⟨rfl, ⟨rfl, ⟨rfl, trivial⟩⟩⟩⟩⟩⟩⟩⟩⟩) ?_
        exact jX12_rise_63 _ ih FU v1 v2 v3 v4 v5 (0 : Int32) r15 (0 : Int32) h14 H
      · rw [if_neg c13] at H
        refine j_goto (pc := 47) (tgt := 177) dX12_rise_47 (by decide) ?_
        obtain ⟨v5_16, ev5_16, H⟩ := nm_x H
        refine j_iinc (pc := 177) (L' := [some (.ref 0), some (.int v1), some (.int v2), some (.int v3), some (.int v4), some (.int v5_16), none, none, none]) (w := 1) dX12_rise_177 rfl (by decide) (by decide) v5_16 ev5_16 rfl ?_
        refine j_goto (pc := 180) (tgt := 32) dX12_rise_180 (by decide) ?_
        refine Jx.sub (L' := [some (.ref 0), some (.int v1), some (.int v2), some (.int v3), some (.int v4), some (.int v5_16), none, none, none]) (⟨rfl, ⟨rfl, ⟨rfl, ⟨rfl, ⟨rfl, ⟨rfl, trivial⟩⟩⟩⟩⟩⟩) ?_
        exact ih v1 v2 v3 v4 v5_16 h H
noncomputable def fX12_rise (p1 : Int32) (p2 : Int32) (h : HS) : Option (Int32 × HS) := nm (pI h 0 22 (0 : Int32)) (fun h1 => bd (fX12_areTanks p1 (8 : Int32) h1) (fun r3 h2 => if r3 = 0 then (some ((-1 : Int32), h2)) else (bd (fX12_isDepth p2 h2) (fun r6 h5 => if r6 = 0 then (some ((-1 : Int32), h5)) else (fX12_rise_32 FU p1 p2 (-1 : Int32) (0 : Int32) (0 : Int32) h5)))))
set_option maxRecDepth 100000 in
theorem tX12_rise {p1 : Int32} {p2 : Int32} {r : Int32} {h h0 : HS} (H : fX12_rise p1 p2 h = some (r, h0)) : Cn skM yX12_rise cX12_rise 9 (some .int) 3 [.ref 0, .int p1, .int p2] h (some (.int r)) h0 := by
  refine Cn_of (L := [some (.ref 0), some (.int p1), some (.int p2), none, none, none, none, none, none]) (by decide +kernel) (by simp [lg_sl, Value.category]) (fun ad => by simp [lg_sl, tv, Value.category]) (⟨rfl, ⟨rfl, ⟨rfl, trivial⟩⟩⟩) ?_
  unfold fX12_rise at H
  refine j_aload_n (pc := 0) dX12_rise_0 rfl ?_
  refine j_iconst (pc := 1) (v := 0) dX12_rise_1 (by decide) ?_
  obtain ⟨h1, eh1, H⟩ := nm_x H
  refine j_putI (pc := 2) dX12_rise_2 fpX12_133 rfl h1 eh1 ?_
  refine j_aload_n (pc := 5) dX12_rise_5 rfl ?_
  refine j_iload_n (pc := 6) dX12_rise_6 rfl ?_
  refine j_bipush (pc := 7) (v := 8) dX12_rise_7 (by decide) ?_
  obtain ⟨r3, h2, eh2, H⟩ := bd_x H
  refine j_callV (pc := 9) dX12_rise_9 mlX12_374 wyX12_areTanks (tX12_areTanks eh2) (by decide) rfl rfl rfl rfl (by simp [Value.category]) rfl ?_
  refine j_if_eq (pc := 12) (tgt := 22) dX12_rise_12 (by decide) (fun c4 => ?_) (fun c4 => ?_)
  · rw [if_pos c4] at H
    refine j_iconst (pc := 22) (v := -1) dX12_rise_22 (by decide) ?_
    exact j_ireturn (pc := 23) dX12_rise_23 rfl (ri_1 H) (ri_2 H)
  · rw [if_neg c4] at H
    refine j_iload_n (pc := 15) dX12_rise_15 rfl ?_
    obtain ⟨r6, h5, eh5, H⟩ := bd_x H
    refine j_callS (pc := 16) dX12_rise_16 mlX12_178 wyX12_isDepth (tX12_isDepth eh5) (by decide) rfl (by simp [Value.category]) rfl ?_
    refine j_if_ne (pc := 19) (tgt := 24) dX12_rise_19 (by decide) (fun c7 => ?_) (fun c7 => ?_)
    · rw [if_neg c7] at H
      refine j_iconst (pc := 24) (v := -1) dX12_rise_24 (by decide) ?_
      refine j_istore_n (pc := 25) (L' := [some (.ref 0), some (.int p1), some (.int p2), some (.int (-1 : Int32)), none, none, none, none, none]) dX12_rise_25 (by decide) rfl ?_
      refine j_iconst (pc := 26) (v := 0) dX12_rise_26 (by decide) ?_
      refine j_istore (pc := 27) (L' := [some (.ref 0), some (.int p1), some (.int p2), some (.int (-1 : Int32)), some (.int (0 : Int32)), none, none, none, none]) dX12_rise_27 (by decide) rfl ?_
      refine j_iconst (pc := 29) (v := 0) dX12_rise_29 (by decide) ?_
      refine j_istore (pc := 30) (L' := [some (.ref 0), some (.int p1), some (.int p2), some (.int (-1 : Int32)), some (.int (0 : Int32)), some (.int (0 : Int32)), none, none, none]) dX12_rise_30 (by decide) rfl ?_
      refine Jx.sub (L' := [some (.ref 0), some (.int p1), some (.int p2), some (.int (-1 : Int32)), some (.int (0 : Int32)), some (.int (0 : Int32)), none, none, none]) (⟨rfl, ⟨rfl, ⟨rfl, ⟨rfl, ⟨rfl, ⟨rfl, trivial⟩⟩⟩⟩⟩⟩) ?_
      exact jX12_rise_32 FU p1 p2 (-1 : Int32) (0 : Int32) (0 : Int32) h5 H
    · rw [if_pos c7] at H
      refine j_iconst (pc := 22) (v := -1) dX12_rise_22 (by decide) ?_
      exact j_ireturn (pc := 23) dX12_rise_23 rfl (ri_1 H) (ri_2 H)

noncomputable def fX12_times_29 : Nat → Int32 → Int32 → Int32 → Int32 → HS → Option (Int32 × HS)
  | 0, _, _, _, _, _ => none
  | n + 1, v1, v2, v3, v4, h => if (gI h 0 0) ≤ v4 then (if v3 = 0 then (some ((-1 : Int32), h)) else (nm (pI h 0 21 (0 : Int32)) (fun h10 => ck (nz v3) (bv (fX12_tell ((irm (gI h10 0 15) v3)) h10) (fun h12 => ck (nz v3) (some (((gI h12 0 15) / v3), h12))))))) else (bd (fX12_has v1 v4 h) (fun r15 h14 => if r15 = 0 then (nm (v4 + (1 : Int32)) (fun v4_17 => fX12_times_29 n v1 v2 v3 v4_17 h14)) else (ck (inb v4 15) (bd (fX12_airFor ((gI h14 4 v4.toNatClampNeg)) v2 h14) (fun r20 h19 => nm ((v3 + r20)) (fun v3_21 => nm (v4 + (1 : Int32)) (fun v4_22 => fX12_times_29 n v1 v2 v3_21 v4_22 h19)))))))
set_option maxRecDepth 100000 in
theorem jX12_times_29 {r : Int32} {h0 : HS} : ∀ (n : Nat) (v1 : Int32) (v2 : Int32) (v3 : Int32) (v4 : Int32) (h : HS), fX12_times_29 n v1 v2 v3 v4 h = some (r, h0) → Jx skM RX12 cX12_times 5 (some .int) 2 (some (.int r)) h0 29 [some (.ref 0), some (.int v1), some (.int v2), some (.int v3), some (.int v4)] [] h := by
  intro n
  induction n with
  | zero => intro v1 v2 v3 v4  h H; cases H
  | succ n ih =>
    intro v1 v2 v3 v4  h H
    rw [fX12_times_29] at H
    refine j_iload (pc := 29) dX12_times_29 rfl ?_
    refine j_aload_n (pc := 31) dX12_times_31 rfl ?_
    refine j_getI (pc := 32) dX12_times_32 flX12_139 rfl ?_
    refine j_icmp_ge (pc := 35) (tgt := 67) dX12_times_35 (by decide) (fun c8 => ?_) (fun c8 => ?_)
    · rw [if_pos c8] at H
      refine j_iload_n (pc := 67) dX12_times_67 rfl ?_
      refine j_if_ne (pc := 68) (tgt := 73) dX12_times_68 (by decide) (fun c9 => ?_) (fun c9 => ?_)
      · rw [if_neg c9] at H
        refine j_aload_n (pc := 73) dX12_times_73 rfl ?_
        refine j_iconst (pc := 74) (v := 0) dX12_times_74 (by decide) ?_
        obtain ⟨h10, eh10, H⟩ := nm_x H
        refine j_putI (pc := 75) dX12_times_75 fpX12_136 rfl h10 eh10 ?_
        refine j_aload_n (pc := 78) dX12_times_78 rfl ?_
        refine j_aload_n (pc := 79) dX12_times_79 rfl ?_
        refine j_getI (pc := 80) dX12_times_80 flX12_368 rfl ?_
        refine j_iload_n (pc := 83) dX12_times_83 rfl ?_
        obtain ⟨b11, H⟩ := ck_x H
        refine j_irem (pc := 84) dX12_times_84 (nz_x b11) ?_
        obtain ⟨h12, eh12, H⟩ := bv_x H
        refine j_callV (pc := 85) dX12_times_85 mlX12_210 wyX12_tell (tX12_tell eh12) (by decide) rfl rfl rfl rfl (by simp [Value.category]) rfl ?_
        refine j_aload_n (pc := 88) dX12_times_88 rfl ?_
        refine j_getI (pc := 89) dX12_times_89 flX12_368 rfl ?_
        refine j_iload_n (pc := 92) dX12_times_92 rfl ?_
        obtain ⟨b13, H⟩ := ck_x H
        refine j_idiv (pc := 93) dX12_times_93 (nz_x b13) ?_
        exact j_ireturn (pc := 94) dX12_times_94 rfl (ri_1 H) (ri_2 H)
      · rw [if_pos c9] at H
        refine j_iconst (pc := 71) (v := -1) dX12_times_71 (by decide) ?_
        exact j_ireturn (pc := 72) dX12_times_72 rfl (ri_1 H) (ri_2 H)
    · rw [if_neg c8] at H
      refine j_iload_n (pc := 38) dX12_times_38 rfl ?_
      refine j_iload (pc := 39) dX12_times_39 rfl ?_
      obtain ⟨r15, h14, eh14, H⟩ := bd_x H
      refine j_callS (pc := 41) dX12_times_41 mlX12_366 wyX12_has (tX12_has eh14) (by decide) rfl (by simp [Value.category]) rfl ?_
      refine j_if_eq (pc := 44) (tgt := 61) dX12_times_44 (by decide) (fun c16 => ?_) (fun c16 => ?_)
      · rw [if_pos c16] at H
        obtain ⟨v4_17, ev4_17, H⟩ := nm_x H
        refine j_iinc (pc := 61) (L' := [some (.ref 0), some (.int v1), some (.int v2), some (.int v3), some (.int v4_17)]) (w := 1) dX12_times_61 rfl (by decide) (by decide) v4_17 ev4_17 rfl ?_
        refine j_goto (pc := 64) (tgt := 29) dX12_times_64 (by decide) ?_
        refine Jx.sub (L' := [some (.ref 0), some (.int v1), some (.int v2), some (.int v3), some (.int v4_17)]) (⟨rfl, ⟨rfl, ⟨rfl, ⟨rfl, ⟨rfl, trivial⟩⟩⟩⟩⟩) ?_
        exact ih v1 v2 v3 v4_17 h14 H
      · rw [if_neg c16] at H
        refine j_iload_n (pc := 47) dX12_times_47 rfl ?_
        refine j_aload_n (pc := 48) dX12_times_48 rfl ?_
        refine j_getR (pc := 49) (b := 4) dX12_times_49 flX12_19 rfl ?_
        refine j_iload (pc := 52) dX12_times_52 rfl ?_
        obtain ⟨b18, H⟩ := ck_x H
        refine j_iaload (pc := 54) dX12_times_54 rfl b18 rfl ?_
        refine j_iload_n (pc := 55) dX12_times_55 rfl ?_
        obtain ⟨r20, h19, eh19, H⟩ := bd_x H
        refine j_callS (pc := 56) dX12_times_56 mlX12_371 wyX12_airFor (tX12_airFor eh19) (by decide) rfl (by simp [Value.category]) rfl ?_
        refine j_iadd (pc := 59) dX12_times_59 ?_
        obtain ⟨v3_21, ev3_21, H⟩ := nm_x H
        refine j_topi ev3_21 ?_
        refine j_istore_n (pc := 60) (L' := [some (.ref 0), some (.int v1), some (.int v2), some (.int v3_21), some (.int v4)]) dX12_times_60 (by decide) rfl ?_
        obtain ⟨v4_22, ev4_22, H⟩ := nm_x H
        refine j_iinc (pc := 61) (L' := [some (.ref 0), some (.int v1), some (.int v2), some (.int v3_21), some (.int v4_22)]) (w := 1) dX12_times_61 rfl (by decide) (by decide) v4_22 ev4_22 rfl ?_
        refine j_goto (pc := 64) (tgt := 29) dX12_times_64 (by decide) ?_
        refine Jx.sub (L' := [some (.ref 0), some (.int v1), some (.int v2), some (.int v3_21), some (.int v4_22)]) (⟨rfl, ⟨rfl, ⟨rfl, ⟨rfl, ⟨rfl, trivial⟩⟩⟩⟩⟩) ?_
        exact ih v1 v2 v3_21 v4_22 h19 H
noncomputable def fX12_times (p1 : Int32) (p2 : Int32) (h : HS) : Option (Int32 × HS) := nm (pI h 0 22 (0 : Int32)) (fun h1 => bd (fX12_areTanks p1 (15 : Int32) h1) (fun r3 h2 => if r3 = 0 then (some ((-1 : Int32), h2)) else (bd (fX12_isDepth p2 h2) (fun r6 h5 => if r6 = 0 then (some ((-1 : Int32), h5)) else (fX12_times_29 FU p1 p2 (0 : Int32) (0 : Int32) h5)))))
set_option maxRecDepth 100000 in
theorem tX12_times {p1 : Int32} {p2 : Int32} {r : Int32} {h h0 : HS} (H : fX12_times p1 p2 h = some (r, h0)) : Cn skM yX12_times cX12_times 5 (some .int) 2 [.ref 0, .int p1, .int p2] h (some (.int r)) h0 := by
  refine Cn_of (L := [some (.ref 0), some (.int p1), some (.int p2), none, none]) (by decide +kernel) (by simp [lg_sl, Value.category]) (fun ad => by simp [lg_sl, tv, Value.category]) (⟨rfl, ⟨rfl, ⟨rfl, trivial⟩⟩⟩) ?_
  unfold fX12_times at H
  refine j_aload_n (pc := 0) dX12_times_0 rfl ?_
  refine j_iconst (pc := 1) (v := 0) dX12_times_1 (by decide) ?_
  obtain ⟨h1, eh1, H⟩ := nm_x H
  refine j_putI (pc := 2) dX12_times_2 fpX12_133 rfl h1 eh1 ?_
  refine j_aload_n (pc := 5) dX12_times_5 rfl ?_
  refine j_iload_n (pc := 6) dX12_times_6 rfl ?_
  refine j_bipush (pc := 7) (v := 15) dX12_times_7 (by decide) ?_
  obtain ⟨r3, h2, eh2, H⟩ := bd_x H
  refine j_callV (pc := 9) dX12_times_9 mlX12_374 wyX12_areTanks (tX12_areTanks eh2) (by decide) rfl rfl rfl rfl (by simp [Value.category]) rfl ?_
  refine j_if_eq (pc := 12) (tgt := 22) dX12_times_12 (by decide) (fun c4 => ?_) (fun c4 => ?_)
  · rw [if_pos c4] at H
    refine j_iconst (pc := 22) (v := -1) dX12_times_22 (by decide) ?_
    exact j_ireturn (pc := 23) dX12_times_23 rfl (ri_1 H) (ri_2 H)
  · rw [if_neg c4] at H
    refine j_iload_n (pc := 15) dX12_times_15 rfl ?_
    obtain ⟨r6, h5, eh5, H⟩ := bd_x H
    refine j_callS (pc := 16) dX12_times_16 mlX12_178 wyX12_isDepth (tX12_isDepth eh5) (by decide) rfl (by simp [Value.category]) rfl ?_
    refine j_if_ne (pc := 19) (tgt := 24) dX12_times_19 (by decide) (fun c7 => ?_) (fun c7 => ?_)
    · rw [if_neg c7] at H
      refine j_iconst (pc := 24) (v := 0) dX12_times_24 (by decide) ?_
      refine j_istore_n (pc := 25) (L' := [some (.ref 0), some (.int p1), some (.int p2), some (.int (0 : Int32)), none]) dX12_times_25 (by decide) rfl ?_
      refine j_iconst (pc := 26) (v := 0) dX12_times_26 (by decide) ?_
      refine j_istore (pc := 27) (L' := [some (.ref 0), some (.int p1), some (.int p2), some (.int (0 : Int32)), some (.int (0 : Int32))]) dX12_times_27 (by decide) rfl ?_
      refine Jx.sub (L' := [some (.ref 0), some (.int p1), some (.int p2), some (.int (0 : Int32)), some (.int (0 : Int32))]) (⟨rfl, ⟨rfl, ⟨rfl, ⟨rfl, ⟨rfl, trivial⟩⟩⟩⟩⟩) ?_
      exact jX12_times_29 FU p1 p2 (0 : Int32) (0 : Int32) h5 H
    · rw [if_pos c7] at H
      refine j_iconst (pc := 22) (v := -1) dX12_times_22 (by decide) ?_
      exact j_ireturn (pc := 23) dX12_times_23 rfl (ri_1 H) (ri_2 H)

noncomputable def fX12_eats_68 (v1 : Int32) (v2 : Int32) (v3 : Int32) (v4 : Int32) (h : HS) : Option (Int32 × HS) := ck (inb v1 15) (nm (pI h 30 v1.toNatClampNeg v2) (fun h18 => ck (inb v1 15) (nm (pI h18 31 v1.toNatClampNeg v3) (fun h20 => ck (inb v1 15) (nm (pI h20 32 v1.toNatClampNeg v4) (fun h22 => some ((1 : Int32), h22)))))))
set_option maxRecDepth 100000 in
theorem jX12_eats_68 {r : Int32} {h0 : HS} (v1 : Int32) (v2 : Int32) (v3 : Int32) (v4 : Int32) (h : HS) (H : fX12_eats_68 v1 v2 v3 v4 h = some (r, h0)) : Jx skM RX12 cX12_eats 5 (some .boolean) 3 (some (.int r)) h0 68 [some (.ref 0), some (.int v1), some (.int v2), some (.int v3), some (.int v4)] [] h := by
  unfold fX12_eats_68 at H
  refine j_aload_n (pc := 68) dX12_eats_68 rfl ?_
  refine j_getR (pc := 69) (b := 30) dX12_eats_69 flX12_106 rfl ?_
  refine j_iload_n (pc := 72) dX12_eats_72 rfl ?_
  refine j_iload_n (pc := 73) dX12_eats_73 rfl ?_
  obtain ⟨b19, H⟩ := ck_x H
  obtain ⟨h18, eh18, H⟩ := nm_x H
  refine j_iastore (pc := 74) dX12_eats_74 rfl b19 rfl h18 eh18 ?_
  refine j_aload_n (pc := 75) dX12_eats_75 rfl ?_
  refine j_getR (pc := 76) (b := 31) dX12_eats_76 flX12_109 rfl ?_
  refine j_iload_n (pc := 79) dX12_eats_79 rfl ?_
  refine j_iload_n (pc := 80) dX12_eats_80 rfl ?_
  obtain ⟨b21, H⟩ := ck_x H
  obtain ⟨h20, eh20, H⟩ := nm_x H
  refine j_iastore (pc := 81) dX12_eats_81 rfl b21 rfl h20 eh20 ?_
  refine j_aload_n (pc := 82) dX12_eats_82 rfl ?_
  refine j_getR (pc := 83) (b := 32) dX12_eats_83 flX12_112 rfl ?_
  refine j_iload_n (pc := 86) dX12_eats_86 rfl ?_
  refine j_iload (pc := 87) dX12_eats_87 rfl ?_
  obtain ⟨b23, H⟩ := ck_x H
  obtain ⟨h22, eh22, H⟩ := nm_x H
  refine j_iastore (pc := 89) dX12_eats_89 rfl b23 rfl h22 eh22 ?_
  refine j_iconst (pc := 90) (v := 1) dX12_eats_90 (by decide) ?_
  exact j_zreturn (pc := 91) dX12_eats_91 rfl (rz1 H) (ri_2 H)
noncomputable def fX12_eats (p1 : Int32) (p2 : Int32) (p3 : Int32) (p4 : Int32) (h : HS) : Option (Int32 × HS) := nm (pI h 0 22 (0 : Int32)) (fun h1 => bd (fX12_isOf p1 (1 : Int32) h1) (fun r3 h2 => if r3 = 0 then (some ((0 : Int32), h2)) else (bd (fX12_in p2 (0 : Int32) (50 : Int32) h2) (fun r6 h5 => if r6 = 0 then (some ((0 : Int32), h5)) else (bd (fX12_in p3 (0 : Int32) (100 : Int32) h5) (fun r9 h8 => if r9 = 0 then (some ((0 : Int32), h8)) else (if p4 = (-1 : Int32) then (fX12_eats_68 p1 p2 p3 p4 h8) else (if p4 = p1 then (some ((0 : Int32), h8)) else (bd (fX12_isLoad p4 h8) (fun r14 h13 => if r14 = 0 then (some ((0 : Int32), h13)) else (ck (inb p4 15) (if (gI h13 1 p4.toNatClampNeg) ≤ (1 : Int32) then (fX12_eats_68 p1 p2 p3 p4 h13) else (some ((0 : Int32), h13))))))))))))))
set_option maxRecDepth 100000 in
theorem tX12_eats {p1 : Int32} {p2 : Int32} {p3 : Int32} {p4 : Int32} {r : Int32} {h h0 : HS} (H : fX12_eats p1 p2 p3 p4 h = some (r, h0)) : Cn skM yX12_eats cX12_eats 5 (some .boolean) 3 [.ref 0, .int p1, .int p2, .int p3, .int p4] h (some (.int r)) h0 := by
  refine Cn_of (L := [some (.ref 0), some (.int p1), some (.int p2), some (.int p3), some (.int p4)]) (by decide +kernel) (by simp [lg_sl, Value.category]) (fun ad => by simp [lg_sl, tv, Value.category]) (⟨rfl, ⟨rfl, ⟨rfl, ⟨rfl, ⟨rfl, trivial⟩⟩⟩⟩⟩) ?_
  unfold fX12_eats at H
  refine j_aload_n (pc := 0) dX12_eats_0 rfl ?_
  refine j_iconst (pc := 1) (v := 0) dX12_eats_1 (by decide) ?_
  obtain ⟨h1, eh1, H⟩ := nm_x H
  refine j_putI (pc := 2) dX12_eats_2 fpX12_133 rfl h1 eh1 ?_
  refine j_aload_n (pc := 5) dX12_eats_5 rfl ?_
  refine j_iload_n (pc := 6) dX12_eats_6 rfl ?_
  refine j_iconst (pc := 7) (v := 1) dX12_eats_7 (by decide) ?_
  obtain ⟨r3, h2, eh2, H⟩ := bd_x H
  refine j_callV (pc := 8) dX12_eats_8 mlX12_284 wyX12_isOf (tX12_isOf eh2) (by decide) rfl rfl rfl rfl (by simp [Value.category]) rfl ?_
  refine j_if_eq (pc := 11) (tgt := 66) dX12_eats_11 (by decide) (fun c4 => ?_) (fun c4 => ?_)
  · rw [if_pos c4] at H
    refine j_iconst (pc := 66) (v := 0) dX12_eats_66 (by decide) ?_
    exact j_zreturn (pc := 67) dX12_eats_67 rfl (rz0 H) (ri_2 H)
  · rw [if_neg c4] at H
    refine j_iload_n (pc := 14) dX12_eats_14 rfl ?_
    refine j_iconst (pc := 15) (v := 0) dX12_eats_15 (by decide) ?_
    refine j_bipush (pc := 16) (v := 50) dX12_eats_16 (by decide) ?_
    obtain ⟨r6, h5, eh5, H⟩ := bd_x H
    refine j_callS (pc := 18) dX12_eats_18 mlX12_142 wyX12_in (tX12_in eh5) (by decide) rfl (by simp [Value.category]) rfl ?_
    refine j_if_eq (pc := 21) (tgt := 66) dX12_eats_21 (by decide) (fun c7 => ?_) (fun c7 => ?_)
    · rw [if_pos c7] at H
      refine j_iconst (pc := 66) (v := 0) dX12_eats_66 (by decide) ?_
      exact j_zreturn (pc := 67) dX12_eats_67 rfl (rz0 H) (ri_2 H)
    · rw [if_neg c7] at H
      refine j_iload_n (pc := 24) dX12_eats_24 rfl ?_
      refine j_iconst (pc := 25) (v := 0) dX12_eats_25 (by decide) ?_
      refine j_bipush (pc := 26) (v := 100) dX12_eats_26 (by decide) ?_
      obtain ⟨r9, h8, eh8, H⟩ := bd_x H
      refine j_callS (pc := 28) dX12_eats_28 mlX12_142 wyX12_in (tX12_in eh8) (by decide) rfl (by simp [Value.category]) rfl ?_
      refine j_if_eq (pc := 31) (tgt := 66) dX12_eats_31 (by decide) (fun c10 => ?_) (fun c10 => ?_)
      · rw [if_pos c10] at H
        refine j_iconst (pc := 66) (v := 0) dX12_eats_66 (by decide) ?_
        exact j_zreturn (pc := 67) dX12_eats_67 rfl (rz0 H) (ri_2 H)
      · rw [if_neg c10] at H
        refine j_iload (pc := 34) dX12_eats_34 rfl ?_
        refine j_iconst (pc := 36) (v := -1) dX12_eats_36 (by decide) ?_
        refine j_icmp_eq (pc := 37) (tgt := 68) dX12_eats_37 (by decide) (fun c11 => ?_) (fun c11 => ?_)
        · rw [if_pos c11] at H
          refine Jx.sub (L' := [some (.ref 0), some (.int p1), some (.int p2), some (.int p3), some (.int p4)]) (⟨rfl, ⟨rfl, ⟨rfl, ⟨rfl, ⟨rfl, trivial⟩⟩⟩⟩⟩) ?_
          exact jX12_eats_68 p1 p2 p3 p4 h8 H
        · rw [if_neg c11] at H
          refine j_iload (pc := 40) dX12_eats_40 rfl ?_
          refine j_iload_n (pc := 42) dX12_eats_42 rfl ?_
          refine j_icmp_eq (pc := 43) (tgt := 66) dX12_eats_43 (by decide) (fun c12 => ?_) (fun c12 => ?_)
          · rw [if_pos c12] at H
            refine j_iconst (pc := 66) (v := 0) dX12_eats_66 (by decide) ?_
            exact j_zreturn (pc := 67) dX12_eats_67 rfl (rz0 H) (ri_2 H)
          · rw [if_neg c12] at H
            refine j_aload_n (pc := 46) dX12_eats_46 rfl ?_
            refine j_iload (pc := 47) dX12_eats_47 rfl ?_
            obtain ⟨r14, h13, eh13, H⟩ := bd_x H
            refine j_callV (pc := 49) dX12_eats_49 mlX12_146 wyX12_isLoad (tX12_isLoad eh13) (by decide) rfl rfl rfl rfl (by simp [Value.category]) rfl ?_
            refine j_if_eq (pc := 52) (tgt := 66) dX12_eats_52 (by decide) (fun c15 => ?_) (fun c15 => ?_)
            · rw [if_pos c15] at H
              refine j_iconst (pc := 66) (v := 0) dX12_eats_66 (by decide) ?_
              exact j_zreturn (pc := 67) dX12_eats_67 rfl (rz0 H) (ri_2 H)
            · rw [if_neg c15] at H
              refine j_aload_n (pc := 55) dX12_eats_55 rfl ?_
              refine j_getR (pc := 56) (b := 1) dX12_eats_56 flX12_9 rfl ?_
              refine j_iload (pc := 59) dX12_eats_59 rfl ?_
              obtain ⟨b16, H⟩ := ck_x H
              refine j_iaload (pc := 61) dX12_eats_61 rfl b16 rfl ?_
              refine j_iconst (pc := 62) (v := 1) dX12_eats_62 (by decide) ?_
              refine j_icmp_le (pc := 63) (tgt := 68) dX12_eats_63 (by decide) (fun c17 => ?_) (fun c17 => ?_)
              · rw [if_pos c17] at H
                refine Jx.sub (L' := [some (.ref 0), some (.int p1), some (.int p2), some (.int p3), some (.int p4)]) (⟨rfl, ⟨rfl, ⟨rfl, ⟨rfl, ⟨rfl, trivial⟩⟩⟩⟩⟩) ?_
                exact jX12_eats_68 p1 p2 p3 p4 h13 H
              · rw [if_neg c17] at H
                refine j_iconst (pc := 66) (v := 0) dX12_eats_66 (by decide) ?_
                exact j_zreturn (pc := 67) dX12_eats_67 rfl (rz0 H) (ri_2 H)

noncomputable def fX12_days_72 (k39 : Int32 → Int32 → HS → Option (Int32 × HS)) (v3 : Int32) (s1 : Int32) (s0 : Int32) (h : HS) : Option (Int32 × HS) := nm ((s0 + s1)) (fun v2_13 => nm (v3 + (1 : Int32)) (fun v3_14 => k39 v2_13 v3_14 h))
set_option maxRecDepth 100000 in
theorem jX12_days_72 {r : Int32} {h0 : HS} (k39 : Int32 → Int32 → HS → Option (Int32 × HS)) (hk39 : ∀ (v2 : Int32) (v3 : Int32) (h : HS), k39 v2 v3 h = some (r, h0) → Jx skM RX12 cX12_days 4 (some .int) 2 (some (.int r)) h0 39 [some (.ref 0), none, some (.int v2), some (.int v3)] [] h) (v3 : Int32) (s1 : Int32) (s0 : Int32) (h : HS) (H : fX12_days_72 k39 v3 s1 s0 h = some (r, h0)) : Jx skM RX12 cX12_days 4 (some .int) 2 (some (.int r)) h0 72 [some (.ref 0), none, none, some (.int v3)] [.int s1, .int s0] h := by
  unfold fX12_days_72 at H
  refine j_iadd (pc := 72) dX12_days_72 ?_
  obtain ⟨v2_13, ev2_13, H⟩ := nm_x H
  refine j_topi ev2_13 ?_
  refine j_istore_n (pc := 73) (L' := [some (.ref 0), none, some (.int v2_13), some (.int v3)]) dX12_days_73 (by decide) rfl ?_
  obtain ⟨v3_14, ev3_14, H⟩ := nm_x H
  refine j_iinc (pc := 74) (L' := [some (.ref 0), none, some (.int v2_13), some (.int v3_14)]) (w := 1) dX12_days_74 rfl (by decide) (by decide) v3_14 ev3_14 rfl ?_
  refine j_goto (pc := 77) (tgt := 39) dX12_days_77 (by decide) ?_
  refine Jx.sub (L' := [some (.ref 0), none, some (.int v2_13), some (.int v3_14)]) (⟨rfl, ⟨rfl, ⟨rfl, trivial⟩⟩⟩) ?_
  exact hk39 v2_13 v3_14 h H
noncomputable def fX12_days_71 (k39 : Int32 → Int32 → HS → Option (Int32 × HS)) (v3 : Int32) (s0 : Int32) (h : HS) : Option (Int32 × HS) := fX12_days_72 k39 v3 (0 : Int32) s0 h
set_option maxRecDepth 100000 in
theorem jX12_days_71 {r : Int32} {h0 : HS} (k39 : Int32 → Int32 → HS → Option (Int32 × HS)) (hk39 : ∀ (v2 : Int32) (v3 : Int32) (h : HS), k39 v2 v3 h = some (r, h0) → Jx skM RX12 cX12_days 4 (some .int) 2 (some (.int r)) h0 39 [some (.ref 0), none, some (.int v2), some (.int v3)] [] h) (v3 : Int32) (s0 : Int32) (h : HS) (H : fX12_days_71 k39 v3 s0 h = some (r, h0)) : Jx skM RX12 cX12_days 4 (some .int) 2 (some (.int r)) h0 71 [some (.ref 0), none, none, some (.int v3)] [.int s0] h := by
  unfold fX12_days_71 at H
  refine j_iconst (pc := 71) (v := 0) dX12_days_71 (by decide) ?_
  refine Jx.sub (L' := [some (.ref 0), none, none, some (.int v3)]) (⟨rfl, ⟨rfl, trivial⟩⟩) ?_
  exact jX12_days_72 _ hk39 v3 (0 : Int32) s0 h H
noncomputable def fX12_days_39 : Nat → Int32 → Int32 → HS → Option (Int32 × HS)
  | 0, _, _, _ => none
  | n + 1, v2, v3, h => if (gI h 0 0) ≤ v3 then (some (v2, h)) else (ck (inb v3 15) (if (gI h 1 v3.toNatClampNeg) = (1 : Int32) then (ck (inb v3 15) (if (gI h 5 v3.toNatClampNeg) = 0 then (fX12_days_72 (fX12_days_39 n) v3 (1 : Int32) v2 h) else (fX12_days_71 (fX12_days_39 n) v3 v2 h))) else (fX12_days_71 (fX12_days_39 n) v3 v2 h)))
set_option maxRecDepth 100000 in
theorem jX12_days_39 {r : Int32} {h0 : HS} : ∀ (n : Nat) (v2 : Int32) (v3 : Int32) (h : HS), fX12_days_39 n v2 v3 h = some (r, h0) → Jx skM RX12 cX12_days 4 (some .int) 2 (some (.int r)) h0 39 [some (.ref 0), none, some (.int v2), some (.int v3)] [] h := by
  intro n
  induction n with
  | zero => intro v2 v3  h H; cases H
  | succ n ih =>
    intro v2 v3  h H
    rw [fX12_days_39] at H
    refine j_iload_n (pc := 39) dX12_days_39 rfl ?_
    refine j_aload_n (pc := 40) dX12_days_40 rfl ?_
    refine j_getI (pc := 41) dX12_days_41 flX12_139 rfl ?_
    refine j_icmp_ge (pc := 44) (tgt := 80) dX12_days_44 (by decide) (fun c8 => ?_) (fun c8 => ?_)
    · rw [if_pos c8] at H
      refine j_iload_n (pc := 80) dX12_days_80 rfl ?_
      exact j_ireturn (pc := 81) dX12_days_81 rfl (ri_1 H) (ri_2 H)
    · rw [if_neg c8] at H
      refine j_iload_n (pc := 47) dX12_days_47 rfl ?_
      refine j_aload_n (pc := 48) dX12_days_48 rfl ?_
      refine j_getR (pc := 49) (b := 1) dX12_days_49 flX12_9 rfl ?_
      refine j_iload_n (pc := 52) dX12_days_52 rfl ?_
      obtain ⟨b9, H⟩ := ck_x H
      refine j_iaload (pc := 53) dX12_days_53 rfl b9 rfl ?_
      refine j_iconst (pc := 54) (v := 1) dX12_days_54 (by decide) ?_
      refine j_icmp_ne (pc := 55) (tgt := 71) dX12_days_55 (by decide) (fun c10 => ?_) (fun c10 => ?_)
      · rw [if_neg c10] at H
        refine Jx.sub (L' := [some (.ref 0), none, none, some (.int v3)]) (⟨rfl, ⟨rfl, trivial⟩⟩) ?_
        exact jX12_days_71 _ ih v3 v2 h H
      · rw [if_pos c10] at H
        refine j_aload_n (pc := 58) dX12_days_58 rfl ?_
        refine j_getR (pc := 59) (b := 5) dX12_days_59 flX12_22 rfl ?_
        refine j_iload_n (pc := 62) dX12_days_62 rfl ?_
        obtain ⟨b11, H⟩ := ck_x H
        refine j_iaload (pc := 63) dX12_days_63 rfl b11 rfl ?_
        refine j_if_ne (pc := 64) (tgt := 71) dX12_days_64 (by decide) (fun c12 => ?_) (fun c12 => ?_)
        · rw [if_neg c12] at H
          refine Jx.sub (L' := [some (.ref 0), none, none, some (.int v3)]) (⟨rfl, ⟨rfl, trivial⟩⟩) ?_
          exact jX12_days_71 _ ih v3 v2 h H
        · rw [if_pos c12] at H
          refine j_iconst (pc := 67) (v := 1) dX12_days_67 (by decide) ?_
          refine j_goto (pc := 68) (tgt := 72) dX12_days_68 (by decide) ?_
          refine Jx.sub (L' := [some (.ref 0), none, none, some (.int v3)]) (⟨rfl, ⟨rfl, trivial⟩⟩) ?_
          exact jX12_days_72 _ ih v3 (1 : Int32) v2 h H
noncomputable def fX12_days_20 : Nat → Int32 → Int32 → HS → Option (Int32 × HS)
  | 0, _, _, _ => none
  | n + 1, v1, v2, h => if v1 ≤ v2 then (fX12_days_39 FU (0 : Int32) (0 : Int32) h) else (bv (fX12_goBy h) (fun h6 => nm (v2 + (1 : Int32)) (fun v2_7 => fX12_days_20 n v1 v2_7 h6)))
set_option maxRecDepth 100000 in
theorem jX12_days_20 {r : Int32} {h0 : HS} : ∀ (n : Nat) (v1 : Int32) (v2 : Int32) (h : HS), fX12_days_20 n v1 v2 h = some (r, h0) → Jx skM RX12 cX12_days 4 (some .int) 2 (some (.int r)) h0 20 [some (.ref 0), some (.int v1), some (.int v2), none] [] h := by
  intro n
  induction n with
  | zero => intro v1 v2  h H; cases H
  | succ n ih =>
    intro v1 v2  h H
    rw [fX12_days_20] at H
    refine j_iload_n (pc := 20) dX12_days_20 rfl ?_
    refine j_iload_n (pc := 21) dX12_days_21 rfl ?_
    refine j_icmp_ge (pc := 22) (tgt := 35) dX12_days_22 (by decide) (fun c5 => ?_) (fun c5 => ?_)
    · rw [if_pos c5] at H
      refine j_iconst (pc := 35) (v := 0) dX12_days_35 (by decide) ?_
      refine j_istore_n (pc := 36) (L' := [some (.ref 0), some (.int v1), some (.int (0 : Int32)), none]) dX12_days_36 (by decide) rfl ?_
      refine j_iconst (pc := 37) (v := 0) dX12_days_37 (by decide) ?_
      refine j_istore_n (pc := 38) (L' := [some (.ref 0), some (.int v1), some (.int (0 : Int32)), some (.int (0 : Int32))]) dX12_days_38 (by decide) rfl ?_
      refine Jx.sub (L' := [some (.ref 0), none, some (.int (0 : Int32)), some (.int (0 : Int32))]) (⟨rfl, ⟨rfl, ⟨rfl, trivial⟩⟩⟩) ?_
      exact jX12_days_39 FU (0 : Int32) (0 : Int32) h H
    · rw [if_neg c5] at H
      refine j_aload_n (pc := 25) dX12_days_25 rfl ?_
      obtain ⟨h6, eh6, H⟩ := bv_x H
      refine j_callV (pc := 26) dX12_days_26 mlX12_295 wyX12_goBy (tX12_goBy eh6) (by decide) rfl rfl rfl rfl (by simp [Value.category]) rfl ?_
      obtain ⟨v2_7, ev2_7, H⟩ := nm_x H
      refine j_iinc (pc := 29) (L' := [some (.ref 0), some (.int v1), some (.int v2_7), none]) (w := 1) dX12_days_29 rfl (by decide) (by decide) v2_7 ev2_7 rfl ?_
      refine j_goto (pc := 32) (tgt := 20) dX12_days_32 (by decide) ?_
      refine Jx.sub (L' := [some (.ref 0), some (.int v1), some (.int v2_7), none]) (⟨rfl, ⟨rfl, ⟨rfl, trivial⟩⟩⟩) ?_
      exact ih v1 v2_7 h6 H
noncomputable def fX12_days (p1 : Int32) (h : HS) : Option (Int32 × HS) := nm (pI h 0 22 (0 : Int32)) (fun h1 => bd (fX12_in p1 (0 : Int32) (400 : Int32) h1) (fun r3 h2 => if r3 = 0 then (some ((-1 : Int32), h2)) else (fX12_days_20 FU p1 (0 : Int32) h2)))
set_option maxRecDepth 100000 in
theorem tX12_days {p1 : Int32} {r : Int32} {h h0 : HS} (H : fX12_days p1 h = some (r, h0)) : Cn skM yX12_days cX12_days 4 (some .int) 2 [.ref 0, .int p1] h (some (.int r)) h0 := by
  refine Cn_of (L := [some (.ref 0), some (.int p1), none, none]) (by decide +kernel) (by simp [lg_sl, Value.category]) (fun ad => by simp [lg_sl, tv, Value.category]) (⟨rfl, ⟨rfl, trivial⟩⟩) ?_
  unfold fX12_days at H
  refine j_aload_n (pc := 0) dX12_days_0 rfl ?_
  refine j_iconst (pc := 1) (v := 0) dX12_days_1 (by decide) ?_
  obtain ⟨h1, eh1, H⟩ := nm_x H
  refine j_putI (pc := 2) dX12_days_2 fpX12_133 rfl h1 eh1 ?_
  refine j_iload_n (pc := 5) dX12_days_5 rfl ?_
  refine j_iconst (pc := 6) (v := 0) dX12_days_6 (by decide) ?_
  refine j_sipush (pc := 7) (v := 400) dX12_days_7 (by decide) ?_
  obtain ⟨r3, h2, eh2, H⟩ := bd_x H
  refine j_callS (pc := 10) dX12_days_10 mlX12_142 wyX12_in (tX12_in eh2) (by decide) rfl (by simp [Value.category]) rfl ?_
  refine j_if_ne (pc := 13) (tgt := 18) dX12_days_13 (by decide) (fun c4 => ?_) (fun c4 => ?_)
  · rw [if_neg c4] at H
    refine j_iconst (pc := 18) (v := 0) dX12_days_18 (by decide) ?_
    refine j_istore_n (pc := 19) (L' := [some (.ref 0), some (.int p1), some (.int (0 : Int32)), none]) dX12_days_19 (by decide) rfl ?_
    refine Jx.sub (L' := [some (.ref 0), some (.int p1), some (.int (0 : Int32)), none]) (⟨rfl, ⟨rfl, ⟨rfl, trivial⟩⟩⟩) ?_
    exact jX12_days_20 FU p1 (0 : Int32) h2 H
  · rw [if_pos c4] at H
    refine j_iconst (pc := 16) (v := -1) dX12_days_16 (by decide) ?_
    exact j_ireturn (pc := 17) dX12_days_17 rfl (ri_1 H) (ri_2 H)

noncomputable def fX12_lastsFor_48 (v2 : Int32) (v3 : Int32) (h : HS) : Option (Int32 × HS) := bv (fX12_pop h) (fun h8 => nm (pI h8 0 16 v2) (fun h9 => some (v3, h9)))
set_option maxRecDepth 100000 in
theorem jX12_lastsFor_48 {r : Int32} {h0 : HS} (v2 : Int32) (v3 : Int32) (h : HS) (H : fX12_lastsFor_48 v2 v3 h = some (r, h0)) : Jx skM RX12 cX12_lastsFor 5 (some .int) 4 (some (.int r)) h0 48 [some (.ref 0), none, some (.int v2), some (.int v3), none] [] h := by
  unfold fX12_lastsFor_48 at H
  refine j_aload_n (pc := 48) dX12_lastsFor_48 rfl ?_
  obtain ⟨h8, eh8, H⟩ := bv_x H
  refine j_callV (pc := 49) dX12_lastsFor_49 mlX12_298 wyX12_pop (tX12_pop eh8) (by decide) rfl rfl rfl rfl (by simp [Value.category]) rfl ?_
  refine j_aload_n (pc := 52) dX12_lastsFor_52 rfl ?_
  refine j_iload_n (pc := 53) dX12_lastsFor_53 rfl ?_
  obtain ⟨h9, eh9, H⟩ := nm_x H
  refine j_putI (pc := 54) dX12_lastsFor_54 fpX12_262 rfl h9 eh9 ?_
  refine j_iload_n (pc := 57) dX12_lastsFor_57 rfl ?_
  exact j_ireturn (pc := 58) dX12_lastsFor_58 rfl (ri_1 H) (ri_2 H)
noncomputable def fX12_lastsFor_38 (k15 : Int32 → Int32 → Int32 → Int32 → HS → Option (Int32 × HS)) (v1 : Int32) (v2 : Int32) (v3 : Int32) (v4 : Int32) (h : HS) : Option (Int32 × HS) := bv (fX12_goBy h) (fun h10 => nm (v4 + (1 : Int32)) (fun v4_11 => k15 v1 v2 v3 v4_11 h10))
set_option maxRecDepth 100000 in
theorem jX12_lastsFor_38 {r : Int32} {h0 : HS} (k15 : Int32 → Int32 → Int32 → Int32 → HS → Option (Int32 × HS)) (hk15 : ∀ (v1 : Int32) (v2 : Int32) (v3 : Int32) (v4 : Int32) (h : HS), k15 v1 v2 v3 v4 h = some (r, h0) → Jx skM RX12 cX12_lastsFor 5 (some .int) 4 (some (.int r)) h0 15 [some (.ref 0), some (.int v1), some (.int v2), some (.int v3), some (.int v4)] [] h) (v1 : Int32) (v2 : Int32) (v3 : Int32) (v4 : Int32) (h : HS) (H : fX12_lastsFor_38 k15 v1 v2 v3 v4 h = some (r, h0)) : Jx skM RX12 cX12_lastsFor 5 (some .int) 4 (some (.int r)) h0 38 [some (.ref 0), some (.int v1), some (.int v2), some (.int v3), some (.int v4)] [] h := by
  unfold fX12_lastsFor_38 at H
  refine j_aload_n (pc := 38) dX12_lastsFor_38 rfl ?_
  obtain ⟨h10, eh10, H⟩ := bv_x H
  refine j_callV (pc := 39) dX12_lastsFor_39 mlX12_295 wyX12_goBy (tX12_goBy eh10) (by decide) rfl rfl rfl rfl (by simp [Value.category]) rfl ?_
  obtain ⟨v4_11, ev4_11, H⟩ := nm_x H
  refine j_iinc (pc := 42) (L' := [some (.ref 0), some (.int v1), some (.int v2), some (.int v3), some (.int v4_11)]) (w := 1) dX12_lastsFor_42 rfl (by decide) (by decide) v4_11 ev4_11 rfl ?_
  refine j_goto (pc := 45) (tgt := 15) dX12_lastsFor_45 (by decide) ?_
  refine Jx.sub (L' := [some (.ref 0), some (.int v1), some (.int v2), some (.int v3), some (.int v4_11)]) (⟨rfl, ⟨rfl, ⟨rfl, ⟨rfl, ⟨rfl, trivial⟩⟩⟩⟩⟩) ?_
  exact hk15 v1 v2 v3 v4_11 h10 H
noncomputable def fX12_lastsFor_15 : Nat → Int32 → Int32 → Int32 → Int32 → HS → Option (Int32 × HS)
  | 0, _, _, _, _, _ => none
  | n + 1, v1, v2, v3, v4, h => if (400 : Int32) < v4 then (fX12_lastsFor_48 v2 v3 h) else (if 0 ≤ v3 then (fX12_lastsFor_48 v2 v3 h) else (bd (fX12_canReach v1 h) (fun r6 h5 => if r6 = 0 then (fX12_lastsFor_38 (fX12_lastsFor_15 n) v1 v2 v4 v4 h5) else (fX12_lastsFor_38 (fX12_lastsFor_15 n) v1 v2 v3 v4 h5))))
set_option maxRecDepth 100000 in
theorem jX12_lastsFor_15 {r : Int32} {h0 : HS} : ∀ (n : Nat) (v1 : Int32) (v2 : Int32) (v3 : Int32) (v4 : Int32) (h : HS), fX12_lastsFor_15 n v1 v2 v3 v4 h = some (r, h0) → Jx skM RX12 cX12_lastsFor 5 (some .int) 4 (some (.int r)) h0 15 [some (.ref 0), some (.int v1), some (.int v2), some (.int v3), some (.int v4)] [] h := by
  intro n
  induction n with
  | zero => intro v1 v2 v3 v4  h H; cases H
  | succ n ih =>
    intro v1 v2 v3 v4  h H
    rw [fX12_lastsFor_15] at H
    refine j_iload (pc := 15) dX12_lastsFor_15 rfl ?_
    refine j_sipush (pc := 17) (v := 400) dX12_lastsFor_17 (by decide) ?_
    refine j_icmp_gt (pc := 20) (tgt := 48) dX12_lastsFor_20 (by decide) (fun c3 => ?_) (fun c3 => ?_)
    · rw [if_pos c3] at H
      refine Jx.sub (L' := [some (.ref 0), none, some (.int v2), some (.int v3), none]) (⟨rfl, ⟨rfl, ⟨rfl, trivial⟩⟩⟩) ?_
      exact jX12_lastsFor_48 v2 v3 h H
    · rw [if_neg c3] at H
      refine j_iload_n (pc := 23) dX12_lastsFor_23 rfl ?_
      refine j_if_ge (pc := 24) (tgt := 48) dX12_lastsFor_24 (by decide) (fun c4 => ?_) (fun c4 => ?_)
      · rw [if_pos c4] at H
        refine Jx.sub (L' := [some (.ref 0), none, some (.int v2), some (.int v3), none]) (⟨rfl, ⟨rfl, ⟨rfl, trivial⟩⟩⟩) ?_
        exact jX12_lastsFor_48 v2 v3 h H
      · rw [if_neg c4] at H
        refine j_aload_n (pc := 27) dX12_lastsFor_27 rfl ?_
        refine j_iload_n (pc := 28) dX12_lastsFor_28 rfl ?_
        obtain ⟨r6, h5, eh5, H⟩ := bd_x H
        refine j_callV (pc := 29) dX12_lastsFor_29 mlX12_329 wyX12_canReach (tX12_canReach eh5) (by decide) rfl rfl rfl rfl (by simp [Value.category]) rfl ?_
        refine j_if_ne (pc := 32) (tgt := 38) dX12_lastsFor_32 (by decide) (fun c7 => ?_) (fun c7 => ?_)
        · rw [if_neg c7] at H
          refine Jx.sub (L' := [some (.ref 0), some (.int v1), some (.int v2), some (.int v3), some (.int v4)]) (⟨rfl, ⟨rfl, ⟨rfl, ⟨rfl, ⟨rfl, trivial⟩⟩⟩⟩⟩) ?_
          exact jX12_lastsFor_38 _ ih v1 v2 v3 v4 h5 H
        · rw [if_pos c7] at H
          refine j_iload (pc := 35) dX12_lastsFor_35 rfl ?_
          refine j_istore_n (pc := 37) (L' := [some (.ref 0), some (.int v1), some (.int v2), some (.int v4), some (.int v4)]) dX12_lastsFor_37 (by decide) rfl ?_
          refine Jx.sub (L' := [some (.ref 0), some (.int v1), some (.int v2), some (.int v4), some (.int v4)]) (⟨rfl, ⟨rfl, ⟨rfl, ⟨rfl, ⟨rfl, trivial⟩⟩⟩⟩⟩) ?_
          exact jX12_lastsFor_38 _ ih v1 v2 v4 v4 h5 H
noncomputable def fX12_lastsFor (p1 : Int32) (h : HS) : Option (Int32 × HS) := nm ((gI h 0 16)) (fun v2_1 => bv (fX12_push h) (fun h2 => fX12_lastsFor_15 FU p1 v2_1 (-2 : Int32) (0 : Int32) h2))
set_option maxRecDepth 100000 in
theorem tX12_lastsFor {p1 : Int32} {r : Int32} {h h0 : HS} (H : fX12_lastsFor p1 h = some (r, h0)) : Cn skM yX12_lastsFor cX12_lastsFor 5 (some .int) 4 [.ref 0, .int p1] h (some (.int r)) h0 := by
  refine Cn_of (L := [some (.ref 0), some (.int p1), none, none, none]) (by decide +kernel) (by simp [lg_sl, Value.category]) (fun ad => by simp [lg_sl, tv, Value.category]) (⟨rfl, ⟨rfl, trivial⟩⟩) ?_
  unfold fX12_lastsFor at H
  refine j_aload_n (pc := 0) dX12_lastsFor_0 rfl ?_
  refine j_getI (pc := 1) dX12_lastsFor_1 flX12_262 rfl ?_
  obtain ⟨v2_1, ev2_1, H⟩ := nm_x H
  refine j_topi ev2_1 ?_
  refine j_istore_n (pc := 4) (L' := [some (.ref 0), some (.int p1), some (.int v2_1), none, none]) dX12_lastsFor_4 (by decide) rfl ?_
  refine j_bipush (pc := 5) (v := -2) dX12_lastsFor_5 (by decide) ?_
  refine j_istore_n (pc := 7) (L' := [some (.ref 0), some (.int p1), some (.int v2_1), some (.int (-2 : Int32)), none]) dX12_lastsFor_7 (by decide) rfl ?_
  refine j_aload_n (pc := 8) dX12_lastsFor_8 rfl ?_
  obtain ⟨h2, eh2, H⟩ := bv_x H
  refine j_callV (pc := 9) dX12_lastsFor_9 mlX12_292 wyX12_push (tX12_push eh2) (by decide) rfl rfl rfl rfl (by simp [Value.category]) rfl ?_
  refine j_iconst (pc := 12) (v := 0) dX12_lastsFor_12 (by decide) ?_
  refine j_istore (pc := 13) (L' := [some (.ref 0), some (.int p1), some (.int v2_1), some (.int (-2 : Int32)), some (.int (0 : Int32))]) dX12_lastsFor_13 (by decide) rfl ?_
  refine Jx.sub (L' := [some (.ref 0), some (.int p1), some (.int v2_1), some (.int (-2 : Int32)), some (.int (0 : Int32))]) (⟨rfl, ⟨rfl, ⟨rfl, ⟨rfl, ⟨rfl, trivial⟩⟩⟩⟩⟩) ?_
  exact jX12_lastsFor_15 FU p1 v2_1 (-2 : Int32) (0 : Int32) h2 H

noncomputable def fX12_lasts (p1 : Int32) (h : HS) : Option (Int32 × HS) := nm (pI h 0 22 (0 : Int32)) (fun h1 => bd (fX12_isDepth p1 h1) (fun r3 h2 => if r3 = 0 then (some ((-1 : Int32), h2)) else (bd (fX12_lastsFor p1 h2) (fun r6 h5 => some (r6, h5)))))
set_option maxRecDepth 100000 in
theorem tX12_lasts {p1 : Int32} {r : Int32} {h h0 : HS} (H : fX12_lasts p1 h = some (r, h0)) : Cn skM yX12_lasts cX12_lasts 2 (some .int) 5 [.ref 0, .int p1] h (some (.int r)) h0 := by
  refine Cn_of (L := [some (.ref 0), some (.int p1)]) (by decide +kernel) (by simp [lg_sl, Value.category]) (fun ad => by simp [lg_sl, tv, Value.category]) (⟨rfl, ⟨rfl, trivial⟩⟩) ?_
  unfold fX12_lasts at H
  refine j_aload_n (pc := 0) dX12_lasts_0 rfl ?_
  refine j_iconst (pc := 1) (v := 0) dX12_lasts_1 (by decide) ?_
  obtain ⟨h1, eh1, H⟩ := nm_x H
  refine j_putI (pc := 2) dX12_lasts_2 fpX12_133 rfl h1 eh1 ?_
  refine j_iload_n (pc := 5) dX12_lasts_5 rfl ?_
  obtain ⟨r3, h2, eh2, H⟩ := bd_x H
  refine j_callS (pc := 6) dX12_lasts_6 mlX12_178 wyX12_isDepth (tX12_isDepth eh2) (by decide) rfl (by simp [Value.category]) rfl ?_
  refine j_if_eq (pc := 9) (tgt := 20) dX12_lasts_9 (by decide) (fun c4 => ?_) (fun c4 => ?_)
  · rw [if_pos c4] at H
    refine j_iconst (pc := 20) (v := -1) dX12_lasts_20 (by decide) ?_
    exact j_ireturn (pc := 21) dX12_lasts_21 rfl (ri_1 H) (ri_2 H)
  · rw [if_neg c4] at H
    refine j_aload_n (pc := 12) dX12_lasts_12 rfl ?_
    refine j_iload_n (pc := 13) dX12_lasts_13 rfl ?_
    obtain ⟨r6, h5, eh5, H⟩ := bd_x H
    refine j_callV (pc := 14) dX12_lasts_14 mlX12_377 wyX12_lastsFor (tX12_lastsFor eh5) (by decide) rfl rfl rfl rfl (by simp [Value.category]) rfl ?_
    refine j_goto (pc := 17) (tgt := 21) dX12_lasts_17 (by decide) ?_
    exact j_ireturn (pc := 21) dX12_lasts_21 rfl (ri_1 H) (ri_2 H)

noncomputable def fX12_shift_173 (k24 : Int32 → Int32 → Int32 → Int32 → Int32 → HS → Option (Int32 × HS)) (k36 : Int32 → Int32 → Int32 → Int32 → Int32 → Int32 → HS → Option (Int32 × HS)) (v1 : Int32) (v5 : Int32) (v6 : Int32) (v7 : Int32) (h : HS) : Option (Int32 × HS) := nm (v6 + (1 : Int32)) (fun v6_43 => k36 v1 v5 v6 v7 v5 v6_43 h)
set_option maxRecDepth 100000 in
theorem jX12_shift_173 {r : Int32} {h0 : HS} (k24 : Int32 → Int32 → Int32 → Int32 → Int32 → HS → Option (Int32 × HS)) (k36 : Int32 → Int32 → Int32 → Int32 → Int32 → Int32 → HS → Option (Int32 × HS)) (hk24 : ∀ (v1 : Int32) (v2 : Int32) (v3 : Int32) (v4 : Int32) (v5 : Int32) (h : HS), k24 v1 v2 v3 v4 v5 h = some (r, h0) → Jx skM RX12 cX12_shift 8 (some .int) 5 (some (.int r)) h0 24 [some (.ref 0), some (.int v1), some (.int v2), some (.int v3), some (.int v4), some (.int v5), none, none] [] h) (hk36 : ∀ (v1 : Int32) (v2 : Int32) (v3 : Int32) (v4 : Int32) (v5 : Int32) (v6 : Int32) (h : HS), k36 v1 v2 v3 v4 v5 v6 h = some (r, h0) → Jx skM RX12 cX12_shift 8 (some .int) 5 (some (.int r)) h0 36 [some (.ref 0), some (.int v1), some (.int v2), some (.int v3), some (.int v4), some (.int v5), some (.int v6), none] [] h) (v1 : Int32) (v5 : Int32) (v6 : Int32) (v7 : Int32) (h : HS) (H : fX12_shift_173 k24 k36 v1 v5 v6 v7 h = some (r, h0)) : Jx skM RX12 cX12_shift 8 (some .int) 5 (some (.int r)) h0 173 [some (.ref 0), some (.int v1), none, none, none, some (.int v5), some (.int v6), some (.int v7)] [] h := by
  unfold fX12_shift_173 at H
  refine j_iload (pc := 173) dX12_shift_173 rfl ?_
  refine j_istore_n (pc := 175) (L' := [some (.ref 0), some (.int v1), some (.int v5), none, none, some (.int v5), some (.int v6), some (.int v7)]) dX12_shift_175 (by decide) rfl ?_
  refine j_iload (pc := 176) dX12_shift_176 rfl ?_
  refine j_istore_n (pc := 178) (L' := [some (.ref 0), some (.int v1), some (.int v5), some (.int v6), none, some (.int v5), some (.int v6), some (.int v7)]) dX12_shift_178 (by decide) rfl ?_
  refine j_iload (pc := 179) dX12_shift_179 rfl ?_
  refine j_istore (pc := 181) (L' := [some (.ref 0), some (.int v1), some (.int v5), some (.int v6), some (.int v7), some (.int v5), some (.int v6), some (.int v7)]) dX12_shift_181 (by decide) rfl ?_
  obtain ⟨v6_43, ev6_43, H⟩ := nm_x H
  refine j_iinc (pc := 183) (L' := [some (.ref 0), some (.int v1), some (.int v5), some (.int v6), some (.int v7), some (.int v5), some (.int v6_43), some (.int v7)]) (w := 1) dX12_shift_183 rfl (by decide) (by decide) v6_43 ev6_43 rfl ?_
  refine j_goto (pc := 186) (tgt := 36) dX12_shift_186 (by decide) ?_
  refine Jx.sub (L' := [some (.ref 0), some (.int v1), some (.int v5), some (.int v6), some (.int v7), some (.int v5), some (.int v6_43), none]) (⟨rfl, ⟨rfl, ⟨rfl, ⟨rfl, ⟨rfl, ⟨rfl, ⟨rfl, trivial⟩⟩⟩⟩⟩⟩⟩) ?_
  exact hk36 v1 v5 v6 v7 v5 v6_43 h H
noncomputable def fX12_shift_156 (k24 : Int32 → Int32 → Int32 → Int32 → Int32 → HS → Option (Int32 × HS)) (k36 : Int32 → Int32 → Int32 → Int32 → Int32 → Int32 → HS → Option (Int32 × HS)) (v1 : Int32) (v2 : Int32) (v3 : Int32) (v4 : Int32) (v5 : Int32) (v6 : Int32) (s0 : Int32) (h : HS) : Option (Int32 × HS) := if v2 = (-1 : Int32) then (fX12_shift_173 k24 k36 v1 v5 v6 s0 h) else (if v4 < s0 then (fX12_shift_173 k24 k36 v1 v5 v6 s0 h) else (nm (v6 + (1 : Int32)) (fun v6_42 => k36 v1 v2 v3 v4 v5 v6_42 h)))
set_option maxRecDepth 100000 in
theorem jX12_shift_156 {r : Int32} {h0 : HS} (k24 : Int32 → Int32 → Int32 → Int32 → Int32 → HS → Option (Int32 × HS)) (k36 : Int32 → Int32 → Int32 → Int32 → Int32 → Int32 → HS → Option (Int32 × HS)) (hk24 : ∀ (v1 : Int32) (v2 : Int32) (v3 : Int32) (v4 : Int32) (v5 : Int32) (h : HS), k24 v1 v2 v3 v4 v5 h = some (r, h0) → Jx skM RX12 cX12_shift 8 (some .int) 5 (some (.int r)) h0 24 [some (.ref 0), some (.int v1), some (.int v2), some (.int v3), some (.int v4), some (.int v5), none, none] [] h) (hk36 : ∀ (v1 : Int32) (v2 : Int32) (v3 : Int32) (v4 : Int32) (v5 : Int32) (v6 : Int32) (h : HS), k36 v1 v2 v3 v4 v5 v6 h = some (r, h0) → Jx skM RX12 cX12_shift 8 (some .int) 5 (some (.int r)) h0 36 [some (.ref 0), some (.int v1), some (.int v2), some (.int v3), some (.int v4), some (.int v5), some (.int v6), none] [] h) (v1 : Int32) (v2 : Int32) (v3 : Int32) (v4 : Int32) (v5 : Int32) (v6 : Int32) (s0 : Int32) (h : HS) (H : fX12_shift_156 k24 k36 v1 v2 v3 v4 v5 v6 s0 h = some (r, h0)) : Jx skM RX12 cX12_shift 8 (some .int) 5 (some (.int r)) h0 156 [some (.ref 0), some (.int v1), some (.int v2), some (.int v3), some (.int v4), some (.int v5), some (.int v6), none] [.int s0] h := by
  unfold fX12_shift_156 at H
  refine j_istore (pc := 156) (L' := [some (.ref 0), some (.int v1), some (.int v2), some (.int v3), some (.int v4), some (.int v5), some (.int v6), some (.int s0)]) dX12_shift_156 (by decide) rfl ?_
  refine j_iload_n (pc := 158) dX12_shift_158 rfl ?_
  refine j_iconst (pc := 159) (v := -1) dX12_shift_159 (by decide) ?_
  refine j_icmp_eq (pc := 160) (tgt := 173) dX12_shift_160 (by decide) (fun c40 => ?_) (fun c40 => ?_)
  · rw [if_pos c40] at H
    refine Jx.sub (L' := [some (.ref 0), some (.int v1), none, none, none, some (.int v5), some (.int v6), some (.int s0)]) (⟨rfl, ⟨rfl, ⟨rfl, ⟨rfl, ⟨rfl, trivial⟩⟩⟩⟩⟩) ?_
    exact jX12_shift_173 _ _ hk24 hk36 v1 v5 v6 s0 h H
  · rw [if_neg c40] at H
    refine j_iload (pc := 163) dX12_shift_163 rfl ?_
    refine j_iload (pc := 165) dX12_shift_165 rfl ?_
    refine j_icmp_gt (pc := 167) (tgt := 173) dX12_shift_167 (by decide) (fun c41 => ?_) (fun c41 => ?_)
    · rw [if_pos c41] at H
      refine Jx.sub (L' := [some (.ref 0), some (.int v1), none, none, none, some (.int v5), some (.int v6), some (.int s0)]) (⟨rfl, ⟨rfl, ⟨rfl, ⟨rfl, ⟨rfl, trivial⟩⟩⟩⟩⟩) ?_
      exact jX12_shift_173 _ _ hk24 hk36 v1 v5 v6 s0 h H
    · rw [if_neg c41] at H
      refine j_goto (pc := 170) (tgt := 183) dX12_shift_170 (by decide) ?_
      obtain ⟨v6_42, ev6_42, H⟩ := nm_x H
      refine j_iinc (pc := 183) (L' := [some (.ref 0), some (.int v1), some (.int v2), some (.int v3), some (.int v4), some (.int v5), some (.int v6_42), some (.int s0)]) (w := 1) dX12_shift_183 rfl (by decide) (by decide) v6_42 ev6_42 rfl ?_
      refine j_goto (pc := 186) (tgt := 36) dX12_shift_186 (by decide) ?_
      refine Jx.sub (L' := [some (.ref 0), some (.int v1), some (.int v2), some (.int v3), some (.int v4), some (.int v5), some (.int v6_42), none]) (⟨rfl, ⟨rfl, ⟨rfl, ⟨rfl, ⟨rfl, ⟨rfl, ⟨rfl, trivial⟩⟩⟩⟩⟩⟩⟩) ?_
      exact hk36 v1 v2 v3 v4 v5 v6_42 h H
noncomputable def fX12_shift_36 (k24 : Int32 → Int32 → Int32 → Int32 → Int32 → HS → Option (Int32 × HS)) : Nat → Int32 → Int32 → Int32 → Int32 → Int32 → Int32 → HS → Option (Int32 × HS)
  | 0, _, _, _, _, _, _, _ => none
  | n + 1, v1, v2, v3, v4, v5, v6, h => if (gI h 0 0) ≤ v6 then (nm (v5 + (1 : Int32)) (fun v5_12 => k24 v1 v2 v3 v4 v5_12 h)) else (if v5 = v6 then (nm (v6 + (1 : Int32)) (fun v6_14 => fX12_shift_36 k24 n v1 v2 v3 v4 v5 v6_14 h)) else (ck (inb v5 15) (if (gI h 1 v5.toNatClampNeg) = (1 : Int32) then (ck (inb v6 15) (if (gI h 1 v6.toNatClampNeg) = (1 : Int32) then (ck (inb v5 15) (if (gI h 5 v5.toNatClampNeg) = 0 then (nm (v6 + (1 : Int32)) (fun v6_23 => fX12_shift_36 k24 n v1 v2 v3 v4 v5 v6_23 h)) else (bd (fX12_roomOf v6 h) (fun r25 h24 => ck (inb v5 15) (if (gI h24 5 v5.toNatClampNeg) ≤ r25 then (bv (fX12_push h24) (fun h28 => ck (inb v6 15) (ck (inb v5 15) (ck (inb v6 15) (nm (pI h28 5 v6.toNatClampNeg ((gI h28 5 v6.toNatClampNeg) + (gI h28 5 v5.toNatClampNeg))) (fun h31 => ck (inb v5 15) (nm (pI h31 5 v5.toNatClampNeg (0 : Int32)) (fun h33 => bd (fX12_lastsFor v1 h33) (fun r36 h35 => bv (fX12_pop h35) (fun h37 => if 0 ≤ r36 then (fX12_shift_156 k24 (fX12_shift_36 k24 n) v1 v2 v3 v4 v5 v6 r36 h37) else (fX12_shift_156 k24 (fX12_shift_36 k24 n) v1 v2 v3 v4 v5 v6 (1000 : Int32) h37))))))))))) else (nm (v6 + (1 : Int32)) (fun v6_39 => fX12_shift_36 k24 n v1 v2 v3 v4 v5 v6_39 h24))))))) else (nm (v6 + (1 : Int32)) (fun v6_20 => fX12_shift_36 k24 n v1 v2 v3 v4 v5 v6_20 h)))) else (nm (v6 + (1 : Int32)) (fun v6_17 => fX12_shift_36 k24 n v1 v2 v3 v4 v5 v6_17 h)))))
set_option maxRecDepth 100000 in
theorem jX12_shift_36 {r : Int32} {h0 : HS} (k24 : Int32 → Int32 → Int32 → Int32 → Int32 → HS → Option (Int32 × HS)) (hk24 : ∀ (v1 : Int32) (v2 : Int32) (v3 : Int32) (v4 : Int32) (v5 : Int32) (h : HS), k24 v1 v2 v3 v4 v5 h = some (r, h0) → Jx skM RX12 cX12_shift 8 (some .int) 5 (some (.int r)) h0 24 [some (.ref 0), some (.int v1), some (.int v2), some (.int v3), some (.int v4), some (.int v5), none, none] [] h) : ∀ (n : Nat) (v1 : Int32) (v2 : Int32) (v3 : Int32) (v4 : Int32) (v5 : Int32) (v6 : Int32) (h : HS), fX12_shift_36 k24 n v1 v2 v3 v4 v5 v6 h = some (r, h0) → Jx skM RX12 cX12_shift 8 (some .int) 5 (some (.int r)) h0 36 [some (.ref 0), some (.int v1), some (.int v2), some (.int v3), some (.int v4), some (.int v5), some (.int v6), none] [] h := by
  intro n
  induction n with
  | zero => intro v1 v2 v3 v4 v5 v6  h H; cases H
  | succ n ih =>
    intro v1 v2 v3 v4 v5 v6  h H
    rw [fX12_shift_36] at H
    refine j_iload (pc := 36) dX12_shift_36 rfl ?_
    refine j_aload_n (pc := 38) dX12_shift_38 rfl ?_
    refine j_getI (pc := 39) dX12_shift_39 flX12_139 rfl ?_
    refine j_icmp_ge (pc := 42) (tgt := 189) dX12_shift_42 (by decide) (fun c11 => ?_) (fun c11 => ?_)
    · rw [if_pos c11] at H
      obtain ⟨v5_12, ev5_12, H⟩ := nm_x H
      refine j_iinc (pc := 189) (L' := [some (.ref 0), some (.int v1), some (.int v2), some (.int v3), some (.int v4), some (.int v5_12), some (.int v6), none]) (w := 1) dX12_shift_189 rfl (by decide) (by decide) v5_12 ev5_12 rfl ?_
      refine j_goto (pc := 192) (tgt := 24) dX12_shift_192 (by decide) ?_
      refine Jx.sub (L' := [some (.ref 0), some (.int v1), some (.int v2), some (.int v3), some (.int v4), some (.int v5_12), none, none]) (⟨rfl, ⟨rfl, ⟨rfl, ⟨rfl, ⟨rfl, ⟨rfl, trivial⟩⟩⟩⟩⟩⟩) ?_
      exact hk24 v1 v2 v3 v4 v5_12 h H
    · rw [if_neg c11] at H
      refine j_iload (pc := 45) dX12_shift_45 rfl ?_
      refine j_iload (pc := 47) dX12_shift_47 rfl ?_
      refine j_icmp_eq (pc := 49) (tgt := 183) dX12_shift_49 (by decide) (fun c13 => ?_) (fun c13 => ?_)
      · rw [if_pos c13] at H
        obtain ⟨v6_14, ev6_14, H⟩ := nm_x H
        refine j_iinc (pc := 183) (L' := [some (.ref 0), some (.int v1), some (.int v2), some (.int v3), some (.int v4), some (.int v5), some (.int v6_14), none]) (w := 1) dX12_shift_183 rfl (by decide) (by decide) v6_14 ev6_14 rfl ?_
        refine j_goto (pc := 186) (tgt := 36) dX12_shift_186 (by decide) ?_
        refine Jx.sub (L' := [some (.ref 0), some (.int v1), some (.int v2), some (.int v3), some (.int v4), some (.int v5), some (.int v6_14), none]) (⟨rfl, ⟨rfl, ⟨rfl, ⟨rfl, ⟨rfl, ⟨rfl, ⟨rfl, trivial⟩⟩⟩⟩⟩⟩⟩) ?_
        exact ih v1 v2 v3 v4 v5 v6_14 h H
      · rw [if_neg c13] at H
        refine j_aload_n (pc := 52) dX12_shift_52 rfl ?_
        refine j_getR (pc := 53) (b := 1) dX12_shift_53 flX12_9 rfl ?_
        refine j_iload (pc := 56) dX12_shift_56 rfl ?_
        obtain ⟨b15, H⟩ := ck_x H
        refine j_iaload (pc := 58) dX12_shift_58 rfl b15 rfl ?_
        refine j_iconst (pc := 59) (v := 1) dX12_shift_59 (by decide) ?_
        refine j_icmp_ne (pc := 60) (tgt := 183) dX12_shift_60 (by decide) (fun c16 => ?_) (fun c16 => ?_)
        · rw [if_neg c16] at H
          obtain ⟨v6_17, ev6_17, H⟩ := nm_x H
          refine j_iinc (pc := 183) (L' := [some (.ref 0), some (.int v1), some (.int v2), some (.int v3), some (.int v4), some (.int v5), some (.int v6_17), none]) (w := 1) dX12_shift_183 rfl (by decide) (by decide) v6_17 ev6_17 rfl ?_
          refine j_goto (pc := 186) (tgt := 36) dX12_shift_186 (by decide) ?_
          refine Jx.sub (L' := [some (.ref 0), some (.int v1), some (.int v2), some (.int v3), some (.int v4), some (.int v5), some (.int v6_17), none]) (⟨rfl, ⟨rfl, ⟨rfl, ⟨rfl, ⟨rfl, ⟨rfl, ⟨rfl, trivial⟩⟩⟩⟩⟩⟩⟩) ?_
          exact ih v1 v2 v3 v4 v5 v6_17 h H
        · rw [if_pos c16] at H
          refine j_aload_n (pc := 63) dX12_shift_63 rfl ?_
          refine j_getR (pc := 64) (b := 1) dX12_shift_64 flX12_9 rfl ?_
          refine j_iload (pc := 67) dX12_shift_67 rfl ?_
          obtain ⟨b18, H⟩ := ck_x H
          refine j_iaload (pc := 69) dX12_shift_69 rfl b18 rfl ?_
          refine j_iconst (pc := 70) (v := 1) dX12_shift_70 (by decide) ?_
          refine j_icmp_ne (pc := 71) (tgt := 183) dX12_shift_71 (by decide) (fun c19 => ?_) (fun c19 => ?_)
          · rw [if_neg c19] at H
            obtain ⟨v6_20, ev6_20, H⟩ := nm_x H
            refine j_iinc (pc := 183) (L' := [some (.ref 0), some (.int v1), some (.int v2), some (.int v3), some (.int v4), some (.int v5), some (.int v6_20), none]) (w := 1) dX12_shift_183 rfl (by decide) (by decide) v6_20 ev6_20 rfl ?_
            refine j_goto (pc := 186) (tgt := 36) dX12_shift_186 (by decide) ?_
            refine Jx.sub (L' := [some (.ref 0), some (.int v1), some (.int v2), some (.int v3), some (.int v4), some (.int v5), some (.int v6_20), none]) (⟨rfl, ⟨rfl, ⟨rfl, ⟨rfl, ⟨rfl, ⟨rfl, ⟨rfl, trivial⟩⟩⟩⟩⟩⟩⟩) ?_
            exact ih v1 v2 v3 v4 v5 v6_20 h H
          · rw [if_pos c19] at H
            refine j_aload_n (pc := 74) dX12_shift_74 rfl ?_
            refine j_getR (pc := 75) (b := 5) dX12_shift_75 flX12_22 rfl ?_
            refine j_iload (pc := 78) dX12_shift_78 rfl ?_
            obtain ⟨b21, H⟩ := ck_x H
            refine j_iaload (pc := 80) dX12_shift_80 rfl b21 rfl ?_
            refine j_if_eq (pc := 81) (tgt := 183) dX12_shift_81 (by decide) (fun c22 => ?_) (fun c22 => ?_)
            · rw [if_pos c22] at H
              obtain ⟨v6_23, ev6_23, H⟩ := nm_x H
              refine j_iinc (pc := 183) (L' := [some (.ref 0), some (.int v1), some (.int v2), some (.int v3), some (.int v4), some (.int v5), some (.int v6_23), none]) (w := 1) dX12_shift_183 rfl (by decide) (by decide) v6_23 ev6_23 rfl ?_
              refine j_goto (pc := 186) (tgt := 36) dX12_shift_186 (by decide) ?_
              refine Jx.sub (L' := [some (.ref 0), some (.int v1), some (.int v2), some (.int v3), some (.int v4), some (.int v5), some (.int v6_23), none]) (⟨rfl, ⟨rfl, ⟨rfl, ⟨rfl, ⟨rfl, ⟨rfl, ⟨rfl, trivial⟩⟩⟩⟩⟩⟩⟩) ?_
              exact ih v1 v2 v3 v4 v5 v6_23 h H
            · rw [if_neg c22] at H
              refine j_aload_n (pc := 84) dX12_shift_84 rfl ?_
              refine j_iload (pc := 85) dX12_shift_85 rfl ?_
              obtain ⟨r25, h24, eh24, H⟩ := bd_x H
              refine j_callV (pc := 87) dX12_shift_87 mlX12_307 wyX12_roomOf (tX12_roomOf eh24) (by decide) rfl rfl rfl rfl (by simp [Value.category]) rfl ?_
              refine j_aload_n (pc := 90) dX12_shift_90 rfl ?_
              refine j_getR (pc := 91) (b := 5) dX12_shift_91 flX12_22 rfl ?_
              refine j_iload (pc := 94) dX12_shift_94 rfl ?_
              obtain ⟨b26, H⟩ := ck_x H
              refine j_iaload (pc := 96) dX12_shift_96 rfl b26 rfl ?_
              refine j_icmp_ge (pc := 97) (tgt := 103) dX12_shift_97 (by decide) (fun c27 => ?_) (fun c27 => ?_)
              · rw [if_pos c27] at H
                refine j_aload_n (pc := 103) dX12_shift_103 rfl ?_
                obtain ⟨h28, eh28, H⟩ := bv_x H
                refine j_callV (pc := 104) dX12_shift_104 mlX12_292 wyX12_push (tX12_push eh28) (by decide) rfl rfl rfl rfl (by simp [Value.category]) rfl ?_
                refine j_aload_n (pc := 107) dX12_shift_107 rfl ?_
                refine j_getR (pc := 108) (b := 5) dX12_shift_108 flX12_22 rfl ?_
                refine j_iload (pc := 111) dX12_shift_111 rfl ?_
                refine j_dup2 (pc := 113) dX12_shift_113 rfl rfl ?_
                obtain ⟨b29, H⟩ := ck_x H
                refine j_iaload (pc := 114) dX12_shift_114 rfl b29 rfl ?_
                refine j_aload_n (pc := 115) dX12_shift_115 rfl ?_
                refine j_getR (pc := 116) (b := 5) dX12_shift_116 flX12_22 rfl ?_
                refine j_iload (pc := 119) dX12_shift_119 rfl ?_
                obtain ⟨b30, H⟩ := ck_x H
                refine j_iaload (pc := 121) dX12_shift_121 rfl b30 rfl ?_
                refine j_iadd (pc := 122) dX12_shift_122 ?_
                obtain ⟨b32, H⟩ := ck_x H
                obtain ⟨h31, eh31, H⟩ := nm_x H
                refine j_iastore (pc := 123) dX12_shift_123 rfl b32 rfl h31 eh31 ?_
                refine j_aload_n (pc := 124) dX12_shift_124 rfl ?_
                refine j_getR (pc := 125) (b := 5) dX12_shift_125 flX12_22 rfl ?_
                refine j_iload (pc := 128) dX12_shift_128 rfl ?_
                refine j_iconst (pc := 130) (v := 0) dX12_shift_130 (by decide) ?_
                obtain ⟨b34, H⟩ := ck_x H
                obtain ⟨h33, eh33, H⟩ := nm_x H
                refine j_iastore (pc := 131) dX12_shift_131 rfl b34 rfl h33 eh33 ?_
                refine j_aload_n (pc := 132) dX12_shift_132 rfl ?_
                refine j_iload_n (pc := 133) dX12_shift_133 rfl ?_
                obtain ⟨r36, h35, eh35, H⟩ := bd_x H
                refine j_callV (pc := 134) dX12_shift_134 mlX12_377 wyX12_lastsFor (tX12_lastsFor eh35) (by decide) rfl rfl rfl rfl (by simp [Value.category]) rfl ?_
                refine j_istore (pc := 137) (L' := [some (.ref 0), some (.int v1), some (.int v2), some (.int v3), some (.int v4), some (.int v5), some (.int v6), some (.int r36)]) dX12_shift_137 (by decide) rfl ?_
                refine j_aload_n (pc := 139) dX12_shift_139 rfl ?_
                obtain ⟨h37, eh37, H⟩ := bv_x H
                refine j_callV (pc := 140) dX12_shift_140 mlX12_298 wyX12_pop (tX12_pop eh37) (by decide) rfl rfl rfl rfl (by simp [Value.category]) rfl ?_
                refine j_iload (pc := 143) dX12_shift_143 rfl ?_
                refine j_if_ge (pc := 145) (tgt := 154) dX12_shift_145 (by decide) (fun c38 => ?_) (fun c38 => ?_)
                · rw [if_pos c38] at H
                  refine j_iload (pc := 154) dX12_shift_154 rfl ?_
                  refine Jx.sub (L' := [some (.ref 0), some (.int v1), some (.int v2), some (.int v3), some (.int v4), some (.int v5), some (.int v6), none]) (⟨rfl, ⟨rfl, ⟨rfl, ⟨rfl, ⟨rfl, ⟨rfl, ⟨rfl, trivial⟩⟩⟩⟩⟩⟩⟩) ?_
                  exact jX12_shift_156 _ _ hk24 ih v1 v2 v3 v4 v5 v6 r36 h37 H
                · rw [if_neg c38] at H
                  refine j_sipush (pc := 148) (v := 1000) dX12_shift_148 (by decide) ?_
                  refine j_goto (pc := 151) (tgt := 156) dX12_shift_151 (by decide) ?_
                  refine Jx.sub (L' := [some (.ref 0), some (.int v1), some (.int v2), some (.int v3), some (.int v4), some (.int v5), some (.int v6), none]) (⟨rfl, ⟨rfl, ⟨rfl, ⟨rfl, ⟨rfl, ⟨rfl, ⟨rfl, trivial⟩⟩⟩⟩⟩⟩⟩) ?_
                  exact jX12_shift_156 _ _ hk24 ih v1 v2 v3 v4 v5 v6 (1000 : Int32) h37 H
              · rw [if_neg c27] at H
                refine j_goto (pc := 100) (tgt := 183) dX12_shift_100 (by decide) ?_
                obtain ⟨v6_39, ev6_39, H⟩ := nm_x H
                refine j_iinc (pc := 183) (L' := [some (.ref 0), some (.int v1), some (.int v2), some (.int v3), some (.int v4), some (.int v5), some (.int v6_39), none]) (w := 1) dX12_shift_183 rfl (by decide) (by decide) v6_39 ev6_39 rfl ?_
                refine j_goto (pc := 186) (tgt := 36) dX12_shift_186 (by decide) ?_
                refine Jx.sub (L' := [some (.ref 0), some (.int v1), some (.int v2), some (.int v3), some (.int v4), some (.int v5), some (.int v6_39), none]) (⟨rfl, ⟨rfl, ⟨rfl, ⟨rfl, ⟨rfl, ⟨rfl, ⟨rfl, trivial⟩⟩⟩⟩⟩⟩⟩) ?_
                exact ih v1 v2 v3 v4 v5 v6_39 h24 H
noncomputable def fX12_shift_24 : Nat → Int32 → Int32 → Int32 → Int32 → Int32 → HS → Option (Int32 × HS)
  | 0, _, _, _, _, _, _ => none
  | n + 1, v1, v2, v3, v4, v5, h => if (gI h 0 0) ≤ v5 then (if v2 = (-1 : Int32) then (some ((-2 : Int32), h)) else (nm (pI h 0 21 (0 : Int32)) (fun h7 => bv (fX12_tell v2 h7) (fun h8 => bv (fX12_tell v3 h8) (fun h9 => if v4 = (1000 : Int32) then (some ((-1 : Int32), h9)) else (some (v4, h9))))))) else (fX12_shift_36 (fX12_shift_24 n) FU v1 v2 v3 v4 v5 (0 : Int32) h)
set_option maxRecDepth 100000 in
theorem jX12_shift_24 {r : Int32} {h0 : HS} : ∀ (n : Nat) (v1 : Int32) (v2 : Int32) (v3 : Int32) (v4 : Int32) (v5 : Int32) (h : HS), fX12_shift_24 n v1 v2 v3 v4 v5 h = some (r, h0) → Jx skM RX12 cX12_shift 8 (some .int) 5 (some (.int r)) h0 24 [some (.ref 0), some (.int v1), some (.int v2), some (.int v3), some (.int v4), some (.int v5), none, none] [] h := by
  intro n
  induction n with
  | zero => intro v1 v2 v3 v4 v5  h H; cases H
  | succ n ih =>
    intro v1 v2 v3 v4 v5  h H
    rw [fX12_shift_24] at H
    refine j_iload (pc := 24) dX12_shift_24 rfl ?_
    refine j_aload_n (pc := 26) dX12_shift_26 rfl ?_
    refine j_getI (pc := 27) dX12_shift_27 flX12_139 rfl ?_
    refine j_icmp_ge (pc := 30) (tgt := 195) dX12_shift_30 (by decide) (fun c5 => ?_) (fun c5 => ?_)
    · rw [if_pos c5] at H
      refine j_iload_n (pc := 195) dX12_shift_195 rfl ?_
      refine j_iconst (pc := 196) (v := -1) dX12_shift_196 (by decide) ?_
      refine j_icmp_ne (pc := 197) (tgt := 203) dX12_shift_197 (by decide) (fun c6 => ?_) (fun c6 => ?_)
      · rw [if_neg c6] at H
        refine j_aload_n (pc := 203) dX12_shift_203 rfl ?_
        refine j_iconst (pc := 204) (v := 0) dX12_shift_204 (by decide) ?_
        obtain ⟨h7, eh7, H⟩ := nm_x H
        refine j_putI (pc := 205) dX12_shift_205 fpX12_136 rfl h7 eh7 ?_
        refine j_aload_n (pc := 208) dX12_shift_208 rfl ?_
        refine j_iload_n (pc := 209) dX12_shift_209 rfl ?_
        obtain ⟨h8, eh8, H⟩ := bv_x H
        refine j_callV (pc := 210) dX12_shift_210 mlX12_210 wyX12_tell (tX12_tell eh8) (by decide) rfl rfl rfl rfl (by simp [Value.category]) rfl ?_
        refine j_aload_n (pc := 213) dX12_shift_213 rfl ?_
        refine j_iload_n (pc := 214) dX12_shift_214 rfl ?_
        obtain ⟨h9, eh9, H⟩ := bv_x H
        refine j_callV (pc := 215) dX12_shift_215 mlX12_210 wyX12_tell (tX12_tell eh9) (by decide) rfl rfl rfl rfl (by simp [Value.category]) rfl ?_
        refine j_iload (pc := 218) dX12_shift_218 rfl ?_
        refine j_sipush (pc := 220) (v := 1000) dX12_shift_220 (by decide) ?_
        refine j_icmp_ne (pc := 223) (tgt := 230) dX12_shift_223 (by decide) (fun c10 => ?_) (fun c10 => ?_)
        · rw [if_neg c10] at H
          refine j_iload (pc := 230) dX12_shift_230 rfl ?_
          exact j_ireturn (pc := 232) dX12_shift_232 rfl (ri_1 H) (ri_2 H)
        · rw [if_pos c10] at H
          refine j_iconst (pc := 226) (v := -1) dX12_shift_226 (by decide) ?_
          refine j_goto (pc := 227) (tgt := 232) dX12_shift_227 (by decide) ?_
          exact j_ireturn (pc := 232) dX12_shift_232 rfl (ri_1 H) (ri_2 H)
      · rw [if_pos c6] at H
        refine j_bipush (pc := 200) (v := -2) dX12_shift_200 (by decide) ?_
        exact j_ireturn (pc := 202) dX12_shift_202 rfl (ri_1 H) (ri_2 H)
    · rw [if_neg c5] at H
      refine j_iconst (pc := 33) (v := 0) dX12_shift_33 (by decide) ?_
      refine j_istore (pc := 34) (L' := [some (.ref 0), some (.int v1), some (.int v2), some (.int v3), some (.int v4), some (.int v5), some (.int (0 : Int32)), none]) dX12_shift_34 (by decide) rfl ?_
      refine Jx.sub (L' := [some (.ref 0), some (.int v1), some (.int v2), some (.int v3), some (.int v4), some (.int v5), some (.int (0 : Int32)), none]) (⟨rfl, ⟨rfl, ⟨rfl, ⟨rfl, ⟨rfl, ⟨rfl, ⟨rfl, trivial⟩⟩⟩⟩⟩⟩⟩) ?_
      exact jX12_shift_36 _ ih FU v1 v2 v3 v4 v5 (0 : Int32) h H
noncomputable def fX12_shift (p1 : Int32) (h : HS) : Option (Int32 × HS) := nm (pI h 0 22 (0 : Int32)) (fun h1 => bd (fX12_isDepth p1 h1) (fun r3 h2 => if r3 = 0 then (some ((-1 : Int32), h2)) else (fX12_shift_24 FU p1 (-1 : Int32) (-1 : Int32) (0 : Int32) (0 : Int32) h2)))
set_option maxRecDepth 100000 in
theorem tX12_shift {p1 : Int32} {r : Int32} {h h0 : HS} (H : fX12_shift p1 h = some (r, h0)) : Cn skM yX12_shift cX12_shift 8 (some .int) 5 [.ref 0, .int p1] h (some (.int r)) h0 := by
  refine Cn_of (L := [some (.ref 0), some (.int p1), none, none, none, none, none, none]) (by decide +kernel) (by simp [lg_sl, Value.category]) (fun ad => by simp [lg_sl, tv, Value.category]) (⟨rfl, ⟨rfl, trivial⟩⟩) ?_
  unfold fX12_shift at H
  refine j_aload_n (pc := 0) dX12_shift_0 rfl ?_
  refine j_iconst (pc := 1) (v := 0) dX12_shift_1 (by decide) ?_
  obtain ⟨h1, eh1, H⟩ := nm_x H
  refine j_putI (pc := 2) dX12_shift_2 fpX12_133 rfl h1 eh1 ?_
  refine j_iload_n (pc := 5) dX12_shift_5 rfl ?_
  obtain ⟨r3, h2, eh2, H⟩ := bd_x H
  refine j_callS (pc := 6) dX12_shift_6 mlX12_178 wyX12_isDepth (tX12_isDepth eh2) (by decide) rfl (by simp [Value.category]) rfl ?_
  refine j_if_ne (pc := 9) (tgt := 14) dX12_shift_9 (by decide) (fun c4 => ?_) (fun c4 => ?_)
  · rw [if_neg c4] at H
    refine j_iconst (pc := 14) (v := -1) dX12_shift_14 (by decide) ?_
    refine j_istore_n (pc := 15) (L' := [some (.ref 0), some (.int p1), some (.int (-1 : Int32)), none, none, none, none, none]) dX12_shift_15 (by decide) rfl ?_
    refine j_iconst (pc := 16) (v := -1) dX12_shift_16 (by decide) ?_
    refine j_istore_n (pc := 17) (L' := [some (.ref 0), some (.int p1), some (.int (-1 : Int32)), some (.int (-1 : Int32)), none, none, none, none]) dX12_shift_17 (by decide) rfl ?_
    refine j_iconst (pc := 18) (v := 0) dX12_shift_18 (by decide) ?_
    refine j_istore (pc := 19) (L' := [some (.ref 0), some (.int p1), some (.int (-1 : Int32)), some (.int (-1 : Int32)), some (.int (0 : Int32)), none, none, none]) dX12_shift_19 (by decide) rfl ?_
    refine j_iconst (pc := 21) (v := 0) dX12_shift_21 (by decide) ?_
    refine j_istore (pc := 22) (L' := [some (.ref 0), some (.int p1), some (.int (-1 : Int32)), some (.int (-1 : Int32)), some (.int (0 : Int32)), some (.int (0 : Int32)), none, none]) dX12_shift_22 (by decide) rfl ?_
    refine Jx.sub (L' := [some (.ref 0), some (.int p1), some (.int (-1 : Int32)), some (.int (-1 : Int32)), some (.int (0 : Int32)), some (.int (0 : Int32)), none, none]) (⟨rfl, ⟨rfl, ⟨rfl, ⟨rfl, ⟨rfl, ⟨rfl, trivial⟩⟩⟩⟩⟩⟩) ?_
    exact jX12_shift_24 FU p1 (-1 : Int32) (-1 : Int32) (0 : Int32) (0 : Int32) h2 H
  · rw [if_pos c4] at H
    refine j_iconst (pc := 12) (v := -1) dX12_shift_12 (by decide) ?_
    exact j_ireturn (pc := 13) dX12_shift_13 rfl (ri_1 H) (ri_2 H)

noncomputable def fX12_ground_225 (v3 : Int32) (v4 : Int32) (h : HS) : Option (Int32 × HS) := bv (fX12_pop h) (fun h36 => if v4 ≤ 0 then (some (v3, h36)) else (some ((-2 : Int32), h36)))
set_option maxRecDepth 100000 in
theorem jX12_ground_225 {r : Int32} {h0 : HS} (v3 : Int32) (v4 : Int32) (h : HS) (H : fX12_ground_225 v3 v4 h = some (r, h0)) : Jx skM RX12 cX12_ground 8 (some .int) 3 (some (.int r)) h0 225 [some (.ref 0), none, none, some (.int v3), some (.int v4), none, none, none] [] h := by
  unfold fX12_ground_225 at H
  refine j_aload_n (pc := 225) dX12_ground_225 rfl ?_
  obtain ⟨h36, eh36, H⟩ := bv_x H
  refine j_callV (pc := 226) dX12_ground_226 mlX12_298 wyX12_pop (tX12_pop eh36) (by decide) rfl rfl rfl rfl (by simp [Value.category]) rfl ?_
  refine j_iload (pc := 229) dX12_ground_229 rfl ?_
  refine j_if_le (pc := 231) (tgt := 239) dX12_ground_231 (by decide) (fun c37 => ?_) (fun c37 => ?_)
  · rw [if_pos c37] at H
    refine j_iload_n (pc := 239) dX12_ground_239 rfl ?_
    exact j_ireturn (pc := 240) dX12_ground_240 rfl (ri_1 H) (ri_2 H)
  · rw [if_neg c37] at H
    refine j_bipush (pc := 234) (v := -2) dX12_ground_234 (by decide) ?_
    refine j_goto (pc := 236) (tgt := 240) dX12_ground_236 (by decide) ?_
    exact j_ireturn (pc := 240) dX12_ground_240 rfl (ri_1 H) (ri_2 H)
noncomputable def fX12_ground_189 : Nat → Int32 → Int32 → Int32 → HS → Option (Int32 × HS)
  | 0, _, _, _, _ => none
  | n + 1, v3, v4, v6, h => if (gI h 0 0) ≤ v6 then (fX12_ground_225 v3 v4 h) else (ck (inb v6 15) (if (gI h 1 v6.toNatClampNeg) = 0 then (ck (inb v6 15) (bv (fX12_tell ((gI h 5 v6.toNatClampNeg)) h) (fun h43 => nm (v6 + (1 : Int32)) (fun v6_44 => fX12_ground_189 n v3 v4 v6_44 h43)))) else (nm (v6 + (1 : Int32)) (fun v6_41 => fX12_ground_189 n v3 v4 v6_41 h))))
set_option maxRecDepth 100000 in
theorem jX12_ground_189 {r : Int32} {h0 : HS} : ∀ (n : Nat) (v3 : Int32) (v4 : Int32) (v6 : Int32) (h : HS), fX12_ground_189 n v3 v4 v6 h = some (r, h0) → Jx skM RX12 cX12_ground 8 (some .int) 3 (some (.int r)) h0 189 [some (.ref 0), none, none, some (.int v3), some (.int v4), none, some (.int v6), none] [] h := by
  intro n
  induction n with
  | zero => intro v3 v4 v6  h H; cases H
  | succ n ih =>
    intro v3 v4 v6  h H
    rw [fX12_ground_189] at H
    refine j_iload (pc := 189) dX12_ground_189 rfl ?_
    refine j_aload_n (pc := 191) dX12_ground_191 rfl ?_
    refine j_getI (pc := 192) dX12_ground_192 flX12_139 rfl ?_
    refine j_icmp_ge (pc := 195) (tgt := 225) dX12_ground_195 (by decide) (fun c38 => ?_) (fun c38 => ?_)
    · rw [if_pos c38] at H
      refine Jx.sub (L' := [some (.ref 0), none, none, some (.int v3), some (.int v4), none, none, none]) (⟨rfl, ⟨rfl, ⟨rfl, trivial⟩⟩⟩) ?_
      exact jX12_ground_225 v3 v4 h H
    · rw [if_neg c38] at H
      refine j_aload_n (pc := 198) dX12_ground_198 rfl ?_
      refine j_getR (pc := 199) (b := 1) dX12_ground_199 flX12_9 rfl ?_
      refine j_iload (pc := 202) dX12_ground_202 rfl ?_
      obtain ⟨b39, H⟩ := ck_x H
      refine j_iaload (pc := 204) dX12_ground_204 rfl b39 rfl ?_
      refine j_if_ne (pc := 205) (tgt := 219) dX12_ground_205 (by decide) (fun c40 => ?_) (fun c40 => ?_)
      · rw [if_neg c40] at H
        obtain ⟨v6_41, ev6_41, H⟩ := nm_x H
        refine j_iinc (pc := 219) (L' := [some (.ref 0), none, none, some (.int v3), some (.int v4), none, some (.int v6_41), none]) (w := 1) dX12_ground_219 rfl (by decide) (by decide) v6_41 ev6_41 rfl ?_
        refine j_goto (pc := 222) (tgt := 189) dX12_ground_222 (by decide) ?_
        refine Jx.sub (L' := [some (.ref 0), none, none, some (.int v3), some (.int v4), none, some (.int v6_41), none]) (⟨rfl, ⟨rfl, ⟨rfl, ⟨rfl, trivial⟩⟩⟩⟩) ?_
        exact ih v3 v4 v6_41 h H
      · rw [if_pos c40] at H
        refine j_aload_n (pc := 208) dX12_ground_208 rfl ?_
        refine j_aload_n (pc := 209) dX12_ground_209 rfl ?_
        refine j_getR (pc := 210) (b := 5) dX12_ground_210 flX12_22 rfl ?_
        refine j_iload (pc := 213) dX12_ground_213 rfl ?_
        obtain ⟨b42, H⟩ := ck_x H
        refine j_iaload (pc := 215) dX12_ground_215 rfl b42 rfl ?_
        obtain ⟨h43, eh43, H⟩ := bv_x H
        refine j_callV (pc := 216) dX12_ground_216 mlX12_210 wyX12_tell (tX12_tell eh43) (by decide) rfl rfl rfl rfl (by simp [Value.category]) rfl ?_
        obtain ⟨v6_44, ev6_44, H⟩ := nm_x H
        refine j_iinc (pc := 219) (L' := [some (.ref 0), none, none, some (.int v3), some (.int v4), none, some (.int v6_44), none]) (w := 1) dX12_ground_219 rfl (by decide) (by decide) v6_44 ev6_44 rfl ?_
        refine j_goto (pc := 222) (tgt := 189) dX12_ground_222 (by decide) ?_
        refine Jx.sub (L' := [some (.ref 0), none, none, some (.int v3), some (.int v4), none, some (.int v6_44), none]) (⟨rfl, ⟨rfl, ⟨rfl, ⟨rfl, trivial⟩⟩⟩⟩) ?_
        exact ih v3 v4 v6_44 h43 H
noncomputable def fX12_ground_176 (v3 : Int32) (v4 : Int32) (h : HS) : Option (Int32 × HS) := if v4 = 0 then (nm (pI h 0 21 (0 : Int32)) (fun h14 => fX12_ground_189 FU v3 v4 (0 : Int32) h14)) else (fX12_ground_225 v3 v4 h)
set_option maxRecDepth 100000 in
theorem jX12_ground_176 {r : Int32} {h0 : HS} (v3 : Int32) (v4 : Int32) (h : HS) (H : fX12_ground_176 v3 v4 h = some (r, h0)) : Jx skM RX12 cX12_ground 8 (some .int) 3 (some (.int r)) h0 176 [some (.ref 0), none, none, some (.int v3), some (.int v4), none, none, none] [] h := by
  unfold fX12_ground_176 at H
  refine j_iload (pc := 176) dX12_ground_176 rfl ?_
  refine j_if_ne (pc := 178) (tgt := 225) dX12_ground_178 (by decide) (fun c13 => ?_) (fun c13 => ?_)
  · rw [if_neg c13] at H
    refine Jx.sub (L' := [some (.ref 0), none, none, some (.int v3), some (.int v4), none, none, none]) (⟨rfl, ⟨rfl, ⟨rfl, trivial⟩⟩⟩) ?_
    exact jX12_ground_225 v3 v4 h H
  · rw [if_pos c13] at H
    refine j_aload_n (pc := 181) dX12_ground_181 rfl ?_
    refine j_iconst (pc := 182) (v := 0) dX12_ground_182 (by decide) ?_
    obtain ⟨h14, eh14, H⟩ := nm_x H
    refine j_putI (pc := 183) dX12_ground_183 fpX12_136 rfl h14 eh14 ?_
    refine j_iconst (pc := 186) (v := 0) dX12_ground_186 (by decide) ?_
    refine j_istore (pc := 187) (L' := [some (.ref 0), none, none, some (.int v3), some (.int v4), none, some (.int (0 : Int32)), none]) dX12_ground_187 (by decide) rfl ?_
    refine Jx.sub (L' := [some (.ref 0), none, none, some (.int v3), some (.int v4), none, some (.int (0 : Int32)), none]) (⟨rfl, ⟨rfl, ⟨rfl, ⟨rfl, trivial⟩⟩⟩⟩) ?_
    exact jX12_ground_189 FU v3 v4 (0 : Int32) h14 H
noncomputable def fX12_ground_112 (k49 : Int32 → Int32 → Int32 → HS → Option (Int32 × HS)) (k60 : Int32 → Int32 → Int32 → Int32 → Int32 → HS → Option (Int32 × HS)) (v3 : Int32) (v4 : Int32) (v5 : Int32) (v7 : Int32) (h : HS) : Option (Int32 × HS) := nm (v7 + (1 : Int32)) (fun v7_45 => k60 v3 v4 v5 v7 v7_45 h)
set_option maxRecDepth 100000 in
theorem jX12_ground_112 {r : Int32} {h0 : HS} (k49 : Int32 → Int32 → Int32 → HS → Option (Int32 × HS)) (k60 : Int32 → Int32 → Int32 → Int32 → Int32 → HS → Option (Int32 × HS)) (hk49 : ∀ (v3 : Int32) (v4 : Int32) (v5 : Int32) (h : HS), k49 v3 v4 v5 h = some (r, h0) → Jx skM RX12 cX12_ground 8 (some .int) 3 (some (.int r)) h0 49 [some (.ref 0), none, none, some (.int v3), some (.int v4), some (.int v5), none, none] [] h) (hk60 : ∀ (v3 : Int32) (v4 : Int32) (v5 : Int32) (v6 : Int32) (v7 : Int32) (h : HS), k60 v3 v4 v5 v6 v7 h = some (r, h0) → Jx skM RX12 cX12_ground 8 (some .int) 3 (some (.int r)) h0 60 [some (.ref 0), none, none, some (.int v3), some (.int v4), some (.int v5), some (.int v6), some (.int v7)] [] h) (v3 : Int32) (v4 : Int32) (v5 : Int32) (v7 : Int32) (h : HS) (H : fX12_ground_112 k49 k60 v3 v4 v5 v7 h = some (r, h0)) : Jx skM RX12 cX12_ground 8 (some .int) 3 (some (.int r)) h0 112 [some (.ref 0), none, none, some (.int v3), some (.int v4), some (.int v5), none, some (.int v7)] [] h := by
  unfold fX12_ground_112 at H
  refine j_iload (pc := 112) dX12_ground_112 rfl ?_
  refine j_istore (pc := 114) (L' := [some (.ref 0), none, none, some (.int v3), some (.int v4), some (.int v5), some (.int v7), some (.int v7)]) dX12_ground_114 (by decide) rfl ?_
  obtain ⟨v7_45, ev7_45, H⟩ := nm_x H
  refine j_iinc (pc := 116) (L' := [some (.ref 0), none, none, some (.int v3), some (.int v4), some (.int v5), some (.int v7), some (.int v7_45)]) (w := 1) dX12_ground_116 rfl (by decide) (by decide) v7_45 ev7_45 rfl ?_
  refine j_goto (pc := 119) (tgt := 60) dX12_ground_119 (by decide) ?_
  refine Jx.sub (L' := [some (.ref 0), none, none, some (.int v3), some (.int v4), some (.int v5), some (.int v7), some (.int v7_45)]) (⟨rfl, ⟨rfl, ⟨rfl, ⟨rfl, ⟨rfl, ⟨rfl, trivial⟩⟩⟩⟩⟩⟩) ?_
  exact hk60 v3 v4 v5 v7 v7_45 h H
noncomputable def fX12_ground_60 (k49 : Int32 → Int32 → Int32 → HS → Option (Int32 × HS)) : Nat → Int32 → Int32 → Int32 → Int32 → Int32 → HS → Option (Int32 × HS)
  | 0, _, _, _, _, _, _ => none
  | n + 1, v3, v4, v5, v6, v7, h => if (gI h 0 0) ≤ v7 then (if v6 = (-1 : Int32) then (fX12_ground_176 v3 v4 h) else (nm ((v5 ||| ((1 : Int32) <<< (v6 &&& 31)))) (fun v5_17 => ck (inb v6 15) (nm ((imin v4 (gI h 5 v6.toNatClampNeg))) (fun v7_19 => ck (inb v6 15) (ck (inb v6 15) (nm (pI h 5 v6.toNatClampNeg ((gI h 5 v6.toNatClampNeg) - v7_19)) (fun h21 => nm ((v4 - v7_19)) (fun v4_23 => k49 v3 v4_23 v5_17 h21))))))))) else (ck (inb v7 15) (if (gI h 1 v7.toNatClampNeg) = 0 then (bd (fX12_has v5 v7 h) (fun r28 h27 => if r28 = 0 then (if v6 = (-1 : Int32) then (fX12_ground_112 k49 (fX12_ground_60 k49 n) v3 v4 v5 v7 h27) else (ck (inb v7 15) (ck (inb v6 15) (if (gI h27 5 v7.toNatClampNeg) ≤ (gI h27 5 v6.toNatClampNeg) then (nm (v7 + (1 : Int32)) (fun v7_35 => fX12_ground_60 k49 n v3 v4 v5 v6 v7_35 h27)) else (fX12_ground_112 k49 (fX12_ground_60 k49 n) v3 v4 v5 v7 h27))))) else (nm (v7 + (1 : Int32)) (fun v7_30 => fX12_ground_60 k49 n v3 v4 v5 v6 v7_30 h27)))) else (nm (v7 + (1 : Int32)) (fun v7_26 => fX12_ground_60 k49 n v3 v4 v5 v6 v7_26 h))))
set_option maxRecDepth 100000 in
theorem jX12_ground_60 {r : Int32} {h0 : HS} (k49 : Int32 → Int32 → Int32 → HS → Option (Int32 × HS)) (hk49 : ∀ (v3 : Int32) (v4 : Int32) (v5 : Int32) (h : HS), k49 v3 v4 v5 h = some (r, h0) → Jx skM RX12 cX12_ground 8 (some .int) 3 (some (.int r)) h0 49 [some (.ref 0), none, none, some (.int v3), some (.int v4), some (.int v5), none, none] [] h) : ∀ (n : Nat) (v3 : Int32) (v4 : Int32) (v5 : Int32) (v6 : Int32) (v7 : Int32) (h : HS), fX12_ground_60 k49 n v3 v4 v5 v6 v7 h = some (r, h0) → Jx skM RX12 cX12_ground 8 (some .int) 3 (some (.int r)) h0 60 [some (.ref 0), none, none, some (.int v3), some (.int v4), some (.int v5), some (.int v6), some (.int v7)] [] h := by
  intro n
  induction n with
  | zero => intro v3 v4 v5 v6 v7  h H; cases H
  | succ n ih =>
    intro v3 v4 v5 v6 v7  h H
    rw [fX12_ground_60] at H
    refine j_iload (pc := 60) dX12_ground_60 rfl ?_
    refine j_aload_n (pc := 62) dX12_ground_62 rfl ?_
    refine j_getI (pc := 63) dX12_ground_63 flX12_139 rfl ?_
    refine j_icmp_ge (pc := 66) (tgt := 122) dX12_ground_66 (by decide) (fun c15 => ?_) (fun c15 => ?_)
    · rw [if_pos c15] at H
      refine j_iload (pc := 122) dX12_ground_122 rfl ?_
      refine j_iconst (pc := 124) (v := -1) dX12_ground_124 (by decide) ?_
      refine j_icmp_ne (pc := 125) (tgt := 131) dX12_ground_125 (by decide) (fun c16 => ?_) (fun c16 => ?_)
      · rw [if_neg c16] at H
        refine j_iload (pc := 131) dX12_ground_131 rfl ?_
        refine j_iconst (pc := 133) (v := 1) dX12_ground_133 (by decide) ?_
        refine j_iload (pc := 134) dX12_ground_134 rfl ?_
        refine j_ishl (pc := 136) dX12_ground_136 ?_
        refine j_ior (pc := 137) dX12_ground_137 ?_
        obtain ⟨v5_17, ev5_17, H⟩ := nm_x H
        refine j_topi ev5_17 ?_
        refine j_istore (pc := 138) (L' := [some (.ref 0), none, none, some (.int v3), some (.int v4), some (.int v5_17), some (.int v6), some (.int v7)]) dX12_ground_138 (by decide) rfl ?_
        refine j_iload (pc := 140) dX12_ground_140 rfl ?_
        refine j_aload_n (pc := 142) dX12_ground_142 rfl ?_
        refine j_getR (pc := 143) (b := 5) dX12_ground_143 flX12_22 rfl ?_
        refine j_iload (pc := 146) dX12_ground_146 rfl ?_
        obtain ⟨b18, H⟩ := ck_x H
        refine j_iaload (pc := 148) dX12_ground_148 rfl b18 rfl ?_
        refine j_mmin (pc := 149) dX12_ground_149 wmX12_153 (by simp [Value.category]) ?_
        obtain ⟨v7_19, ev7_19, H⟩ := nm_x H
        refine j_topi ev7_19 ?_
        refine j_istore (pc := 152) (L' := [some (.ref 0), none, none, some (.int v3), some (.int v4), some (.int v5_17), some (.int v6), some (.int v7_19)]) dX12_ground_152 (by decide) rfl ?_
        refine j_aload_n (pc := 154) dX12_ground_154 rfl ?_
        refine j_getR (pc := 155) (b := 5) dX12_ground_155 flX12_22 rfl ?_
        refine j_iload (pc := 158) dX12_ground_158 rfl ?_
        refine j_dup2 (pc := 160) dX12_ground_160 rfl rfl ?_
        obtain ⟨b20, H⟩ := ck_x H
        refine j_iaload (pc := 161) dX12_ground_161 rfl b20 rfl ?_
        refine j_iload (pc := 162) dX12_ground_162 rfl ?_
        refine j_isub (pc := 164) dX12_ground_164 ?_
        obtain ⟨b22, H⟩ := ck_x H
        obtain ⟨h21, eh21, H⟩ := nm_x H
        refine j_iastore (pc := 165) dX12_ground_165 rfl b22 rfl h21 eh21 ?_
        refine j_iload (pc := 166) dX12_ground_166 rfl ?_
        refine j_iload (pc := 168) dX12_ground_168 rfl ?_
        refine j_isub (pc := 170) dX12_ground_170 ?_
        obtain ⟨v4_23, ev4_23, H⟩ := nm_x H
        refine j_topi ev4_23 ?_
        refine j_istore (pc := 171) (L' := [some (.ref 0), none, none, some (.int v3), some (.int v4_23), some (.int v5_17), some (.int v6), some (.int v7_19)]) dX12_ground_171 (by decide) rfl ?_
        refine j_goto (pc := 173) (tgt := 49) dX12_ground_173 (by decide) ?_
        refine Jx.sub (L' := [some (.ref 0), none, none, some (.int v3), some (.int v4_23), some (.int v5_17), none, none]) (⟨rfl, ⟨rfl, ⟨rfl, ⟨rfl, trivial⟩⟩⟩⟩) ?_
        exact hk49 v3 v4_23 v5_17 h21 H
      · rw [if_pos c16] at H
        refine j_goto (pc := 128) (tgt := 176) dX12_ground_128 (by decide) ?_
        refine Jx.sub (L' := [some (.ref 0), none, none, some (.int v3), some (.int v4), none, none, none]) (⟨rfl, ⟨rfl, ⟨rfl, trivial⟩⟩⟩) ?_
        exact jX12_ground_176 v3 v4 h H
    · rw [if_neg c15] at H
      refine j_aload_n (pc := 69) dX12_ground_69 rfl ?_
      refine j_getR (pc := 70) (b := 1) dX12_ground_70 flX12_9 rfl ?_
      refine j_iload (pc := 73) dX12_ground_73 rfl ?_
      obtain ⟨b24, H⟩ := ck_x H
      refine j_iaload (pc := 75) dX12_ground_75 rfl b24 rfl ?_
      refine j_if_ne (pc := 76) (tgt := 116) dX12_ground_76 (by decide) (fun c25 => ?_) (fun c25 => ?_)
      · rw [if_neg c25] at H
        obtain ⟨v7_26, ev7_26, H⟩ := nm_x H
        refine j_iinc (pc := 116) (L' := [some (.ref 0), none, none, some (.int v3), some (.int v4), some (.int v5), some (.int v6), some (.int v7_26)]) (w := 1) dX12_ground_116 rfl (by decide) (by decide) v7_26 ev7_26 rfl ?_
        refine j_goto (pc := 119) (tgt := 60) dX12_ground_119 (by decide) ?_
        refine Jx.sub (L' := [some (.ref 0), none, none, some (.int v3), some (.int v4), some (.int v5), some (.int v6), some (.int v7_26)]) (⟨rfl, ⟨rfl, ⟨rfl, ⟨rfl, ⟨rfl, ⟨rfl, trivial⟩⟩⟩⟩⟩⟩) ?_
        exact ih v3 v4 v5 v6 v7_26 h H
      · rw [if_pos c25] at H
        refine j_iload (pc := 79) dX12_ground_79 rfl ?_
        refine j_iload (pc := 81) dX12_ground_81 rfl ?_
        obtain ⟨r28, h27, eh27, H⟩ := bd_x H
        refine j_callS (pc := 83) dX12_ground_83 mlX12_366 wyX12_has (tX12_has eh27) (by decide) rfl (by simp [Value.category]) rfl ?_
        refine j_if_ne (pc := 86) (tgt := 116) dX12_ground_86 (by decide) (fun c29 => ?_) (fun c29 => ?_)
        · rw [if_neg c29] at H
          obtain ⟨v7_30, ev7_30, H⟩ := nm_x H
          refine j_iinc (pc := 116) (L' := [some (.ref 0), none, none, some (.int v3), some (.int v4), some (.int v5), some (.int v6), some (.int v7_30)]) (w := 1) dX12_ground_116 rfl (by decide) (by decide) v7_30 ev7_30 rfl ?_
          refine j_goto (pc := 119) (tgt := 60) dX12_ground_119 (by decide) ?_
          refine Jx.sub (L' := [some (.ref 0), none, none, some (.int v3), some (.int v4), some (.int v5), some (.int v6), some (.int v7_30)]) (⟨rfl, ⟨rfl, ⟨rfl, ⟨rfl, ⟨rfl, ⟨rfl, trivial⟩⟩⟩⟩⟩⟩) ?_
          exact ih v3 v4 v5 v6 v7_30 h27 H
        · rw [if_pos c29] at H
          refine j_iload (pc := 89) dX12_ground_89 rfl ?_
          refine j_iconst (pc := 91) (v := -1) dX12_ground_91 (by decide) ?_
          refine j_icmp_eq (pc := 92) (tgt := 112) dX12_ground_92 (by decide) (fun c31 => ?_) (fun c31 => ?_)
          · rw [if_pos c31] at H
            refine Jx.sub (L' := [some (.ref 0), none, none, some (.int v3), some (.int v4), some (.int v5), none, some (.int v7)]) (⟨rfl, ⟨rfl, ⟨rfl, ⟨rfl, ⟨rfl, trivial⟩⟩⟩⟩⟩) ?_
            exact jX12_ground_112 _ _ hk49 ih v3 v4 v5 v7 h27 H
          · rw [if_neg c31] at H
            refine j_aload_n (pc := 95) dX12_ground_95 rfl ?_
            refine j_getR (pc := 96) (b := 5) dX12_ground_96 flX12_22 rfl ?_
            refine j_iload (pc := 99) dX12_ground_99 rfl ?_
            obtain ⟨b32, H⟩ := ck_x H
            refine j_iaload (pc := 101) dX12_ground_101 rfl b32 rfl ?_
            refine j_aload_n (pc := 102) dX12_ground_102 rfl ?_
            refine j_getR (pc := 103) (b := 5) dX12_ground_103 flX12_22 rfl ?_
            refine j_iload (pc := 106) dX12_ground_106 rfl ?_
            obtain ⟨b33, H⟩ := ck_x H
            refine j_iaload (pc := 108) dX12_ground_108 rfl b33 rfl ?_
            refine j_icmp_le (pc := 109) (tgt := 116) dX12_ground_109 (by decide) (fun c34 => ?_) (fun c34 => ?_)
            · rw [if_pos c34] at H
              obtain ⟨v7_35, ev7_35, H⟩ := nm_x H
              refine j_iinc (pc := 116) (L' := [some (.ref 0), none, none, some (.int v3), some (.int v4), some (.int v5), some (.int v6), some (.int v7_35)]) (w := 1) dX12_ground_116 rfl (by decide) (by decide) v7_35 ev7_35 rfl ?_
              refine j_goto (pc := 119) (tgt := 60) dX12_ground_119 (by decide) ?_
              refine Jx.sub (L' := [some (.ref 0), none, none, some (.int v3), some (.int v4), some (.int v5), some (.int v6), some (.int v7_35)]) (⟨rfl, ⟨rfl, ⟨rfl, ⟨rfl, ⟨rfl, ⟨rfl, trivial⟩⟩⟩⟩⟩⟩) ?_
              exact ih v3 v4 v5 v6 v7_35 h27 H
            · rw [if_neg c34] at H
              refine Jx.sub (L' := [some (.ref 0), none, none, some (.int v3), some (.int v4), some (.int v5), none, some (.int v7)]) (⟨rfl, ⟨rfl, ⟨rfl, ⟨rfl, ⟨rfl, trivial⟩⟩⟩⟩⟩) ?_
              exact jX12_ground_112 _ _ hk49 ih v3 v4 v5 v7 h27 H
noncomputable def fX12_ground_49 : Nat → Int32 → Int32 → Int32 → HS → Option (Int32 × HS)
  | 0, _, _, _, _ => none
  | n + 1, v3, v4, v5, h => if v4 ≤ 0 then (fX12_ground_176 v3 v4 h) else (fX12_ground_60 (fX12_ground_49 n) FU v3 v4 v5 (-1 : Int32) (0 : Int32) h)
set_option maxRecDepth 100000 in
theorem jX12_ground_49 {r : Int32} {h0 : HS} : ∀ (n : Nat) (v3 : Int32) (v4 : Int32) (v5 : Int32) (h : HS), fX12_ground_49 n v3 v4 v5 h = some (r, h0) → Jx skM RX12 cX12_ground 8 (some .int) 3 (some (.int r)) h0 49 [some (.ref 0), none, none, some (.int v3), some (.int v4), some (.int v5), none, none] [] h := by
  intro n
  induction n with
  | zero => intro v3 v4 v5  h H; cases H
  | succ n ih =>
    intro v3 v4 v5  h H
    rw [fX12_ground_49] at H
    refine j_iload (pc := 49) dX12_ground_49 rfl ?_
    refine j_if_le (pc := 51) (tgt := 176) dX12_ground_51 (by decide) (fun c12 => ?_) (fun c12 => ?_)
    · rw [if_pos c12] at H
      refine Jx.sub (L' := [some (.ref 0), none, none, some (.int v3), some (.int v4), none, none, none]) (⟨rfl, ⟨rfl, ⟨rfl, trivial⟩⟩⟩) ?_
      exact jX12_ground_176 v3 v4 h H
    · rw [if_neg c12] at H
      refine j_iconst (pc := 54) (v := -1) dX12_ground_54 (by decide) ?_
      refine j_istore (pc := 55) (L' := [some (.ref 0), none, none, some (.int v3), some (.int v4), some (.int v5), some (.int (-1 : Int32)), none]) dX12_ground_55 (by decide) rfl ?_
      refine j_iconst (pc := 57) (v := 0) dX12_ground_57 (by decide) ?_
      refine j_istore (pc := 58) (L' := [some (.ref 0), none, none, some (.int v3), some (.int v4), some (.int v5), some (.int (-1 : Int32)), some (.int (0 : Int32))]) dX12_ground_58 (by decide) rfl ?_
      refine Jx.sub (L' := [some (.ref 0), none, none, some (.int v3), some (.int v4), some (.int v5), some (.int (-1 : Int32)), some (.int (0 : Int32))]) (⟨rfl, ⟨rfl, ⟨rfl, ⟨rfl, ⟨rfl, ⟨rfl, trivial⟩⟩⟩⟩⟩⟩) ?_
      exact jX12_ground_60 _ ih FU v3 v4 v5 (-1 : Int32) (0 : Int32) h H
noncomputable def fX12_ground (p1 : Int32) (p2 : Int32) (h : HS) : Option (Int32 × HS) := nm (pI h 0 22 (0 : Int32)) (fun h1 => bd (fX12_isDepth p1 h1) (fun r3 h2 => if r3 = 0 then (some ((-1 : Int32), h2)) else (bd (fX12_in p2 (0 : Int32) (999 : Int32) h2) (fun r6 h5 => if r6 = 0 then (some ((-1 : Int32), h5)) else (bd (fX12_heavyAt p1 h5) (fun r9 h8 => nm ((imax (0 : Int32) ((r9 + p2) + (1 : Int32)))) (fun v3_10 => bv (fX12_push h8) (fun h11 => fX12_ground_49 FU v3_10 v3_10 (0 : Int32) h11))))))))
set_option maxRecDepth 100000 in
theorem tX12_ground {p1 : Int32} {p2 : Int32} {r : Int32} {h h0 : HS} (H : fX12_ground p1 p2 h = some (r, h0)) : Cn skM yX12_ground cX12_ground 8 (some .int) 3 [.ref 0, .int p1, .int p2] h (some (.int r)) h0 := by
  refine Cn_of (L := [some (.ref 0), some (.int p1), some (.int p2), none, none, none, none, none]) (by decide +kernel) (by simp [lg_sl, Value.category]) (fun ad => by simp [lg_sl, tv, Value.category]) (⟨rfl, ⟨rfl, ⟨rfl, trivial⟩⟩⟩) ?_
  unfold fX12_ground at H
  refine j_aload_n (pc := 0) dX12_ground_0 rfl ?_
  refine j_iconst (pc := 1) (v := 0) dX12_ground_1 (by decide) ?_
  obtain ⟨h1, eh1, H⟩ := nm_x H
  refine j_putI (pc := 2) dX12_ground_2 fpX12_133 rfl h1 eh1 ?_
  refine j_iload_n (pc := 5) dX12_ground_5 rfl ?_
  obtain ⟨r3, h2, eh2, H⟩ := bd_x H
  refine j_callS (pc := 6) dX12_ground_6 mlX12_178 wyX12_isDepth (tX12_isDepth eh2) (by decide) rfl (by simp [Value.category]) rfl ?_
  refine j_if_eq (pc := 9) (tgt := 23) dX12_ground_9 (by decide) (fun c4 => ?_) (fun c4 => ?_)
  · rw [if_pos c4] at H
    refine j_iconst (pc := 23) (v := -1) dX12_ground_23 (by decide) ?_
    exact j_ireturn (pc := 24) dX12_ground_24 rfl (ri_1 H) (ri_2 H)
  · rw [if_neg c4] at H
    refine j_iload_n (pc := 12) dX12_ground_12 rfl ?_
    refine j_iconst (pc := 13) (v := 0) dX12_ground_13 (by decide) ?_
    refine j_sipush (pc := 14) (v := 999) dX12_ground_14 (by decide) ?_
    obtain ⟨r6, h5, eh5, H⟩ := bd_x H
    refine j_callS (pc := 17) dX12_ground_17 mlX12_142 wyX12_in (tX12_in eh5) (by decide) rfl (by simp [Value.category]) rfl ?_
    refine j_if_ne (pc := 20) (tgt := 25) dX12_ground_20 (by decide) (fun c7 => ?_) (fun c7 => ?_)
    · rw [if_neg c7] at H
      refine j_iconst (pc := 25) (v := 0) dX12_ground_25 (by decide) ?_
      refine j_aload_n (pc := 26) dX12_ground_26 rfl ?_
      refine j_iload_n (pc := 27) dX12_ground_27 rfl ?_
      obtain ⟨r9, h8, eh8, H⟩ := bd_x H
      refine j_callV (pc := 28) dX12_ground_28 mlX12_198 wyX12_heavyAt (tX12_heavyAt eh8) (by decide) rfl rfl rfl rfl (by simp [Value.category]) rfl ?_
      refine j_iload_n (pc := 31) dX12_ground_31 rfl ?_
      refine j_iadd (pc := 32) dX12_ground_32 ?_
      refine j_iconst (pc := 33) (v := 1) dX12_ground_33 (by decide) ?_
      refine j_iadd (pc := 34) dX12_ground_34 ?_
      refine j_mmax (pc := 35) dX12_ground_35 wmX12_159 (by simp [Value.category]) ?_
      obtain ⟨v3_10, ev3_10, H⟩ := nm_x H
      refine j_topi ev3_10 ?_
      refine j_istore_n (pc := 38) (L' := [some (.ref 0), some (.int p1), some (.int p2), some (.int v3_10), none, none, none, none]) dX12_ground_38 (by decide) rfl ?_
      refine j_iload_n (pc := 39) dX12_ground_39 rfl ?_
      refine j_istore (pc := 40) (L' := [some (.ref 0), some (.int p1), some (.int p2), some (.int v3_10), some (.int v3_10), none, none, none]) dX12_ground_40 (by decide) rfl ?_
      refine j_aload_n (pc := 42) dX12_ground_42 rfl ?_
      obtain ⟨h11, eh11, H⟩ := bv_x H
      refine j_callV (pc := 43) dX12_ground_43 mlX12_292 wyX12_push (tX12_push eh11) (by decide) rfl rfl rfl rfl (by simp [Value.category]) rfl ?_
      refine j_iconst (pc := 46) (v := 0) dX12_ground_46 (by decide) ?_
      refine j_istore (pc := 47) (L' := [some (.ref 0), some (.int p1), some (.int p2), some (.int v3_10), some (.int v3_10), some (.int (0 : Int32)), none, none]) dX12_ground_47 (by decide) rfl ?_
      refine Jx.sub (L' := [some (.ref 0), none, none, some (.int v3_10), some (.int v3_10), some (.int (0 : Int32)), none, none]) (⟨rfl, ⟨rfl, ⟨rfl, ⟨rfl, trivial⟩⟩⟩⟩) ?_
      exact jX12_ground_49 FU v3_10 v3_10 (0 : Int32) h11 H
    · rw [if_pos c7] at H
      refine j_iconst (pc := 23) (v := -1) dX12_ground_23 (by decide) ?_
      exact j_ireturn (pc := 24) dX12_ground_24 rfl (ri_1 H) (ri_2 H)

noncomputable def fX12_ice_132 (v2 : Int32) (v4 : Int32) (v5 : Int32) (s1 : Int32) (h : HS) : Option (Int32 × HS) := bv (fX12_tell s1 h) (fun h21 => bv (fX12_tell v5 h21) (fun h22 => if v4 = 0 then (some ((0 : Int32), h22)) else (if v5 < ((50 : Int32) * v2) then (some ((0 : Int32), h22)) else (some ((1 : Int32), h22)))))
set_option maxRecDepth 100000 in
theorem jX12_ice_132 {r : Int32} {h0 : HS} (v2 : Int32) (v4 : Int32) (v5 : Int32) (s1 : Int32) (h : HS) (H : fX12_ice_132 v2 v4 v5 s1 h = some (r, h0)) : Jx skM RX12 cX12_ice 6 (some .int) 4 (some (.int r)) h0 132 [some (.ref 0), none, some (.int v2), none, some (.int v4), some (.int v5)] [.int s1, .ref 0] h := by
  unfold fX12_ice_132 at H
  obtain ⟨h21, eh21, H⟩ := bv_x H
  refine j_callV (pc := 132) dX12_ice_132 mlX12_210 wyX12_tell (tX12_tell eh21) (by decide) rfl rfl rfl rfl (by simp [Value.category]) rfl ?_
  refine j_aload_n (pc := 135) dX12_ice_135 rfl ?_
  refine j_iload (pc := 136) dX12_ice_136 rfl ?_
  obtain ⟨h22, eh22, H⟩ := bv_x H
  refine j_callV (pc := 138) dX12_ice_138 mlX12_210 wyX12_tell (tX12_tell eh22) (by decide) rfl rfl rfl rfl (by simp [Value.category]) rfl ?_
  refine j_iload (pc := 141) dX12_ice_141 rfl ?_
  refine j_if_eq (pc := 143) (tgt := 159) dX12_ice_143 (by decide) (fun c23 => ?_) (fun c23 => ?_)
  · rw [if_pos c23] at H
    refine j_iconst (pc := 159) (v := 0) dX12_ice_159 (by decide) ?_
    exact j_ireturn (pc := 160) dX12_ice_160 rfl (ri_1 H) (ri_2 H)
  · rw [if_neg c23] at H
    refine j_iload (pc := 146) dX12_ice_146 rfl ?_
    refine j_bipush (pc := 148) (v := 50) dX12_ice_148 (by decide) ?_
    refine j_iload_n (pc := 150) dX12_ice_150 rfl ?_
    refine j_imul (pc := 151) dX12_ice_151 ?_
    refine j_icmp_lt (pc := 152) (tgt := 159) dX12_ice_152 (by decide) (fun c24 => ?_) (fun c24 => ?_)
    · rw [if_pos c24] at H
      refine j_iconst (pc := 159) (v := 0) dX12_ice_159 (by decide) ?_
      exact j_ireturn (pc := 160) dX12_ice_160 rfl (ri_1 H) (ri_2 H)
    · rw [if_neg c24] at H
      refine j_iconst (pc := 155) (v := 1) dX12_ice_155 (by decide) ?_
      refine j_goto (pc := 156) (tgt := 160) dX12_ice_156 (by decide) ?_
      exact j_ireturn (pc := 160) dX12_ice_160 rfl (ri_1 H) (ri_2 H)
noncomputable def fX12_ice_114 (v2 : Int32) (v3 : Int32) (v4 : Int32) (s0 : Int32) (h : HS) : Option (Int32 × HS) := nm (pI h 0 21 (0 : Int32)) (fun h19 => if v4 = 0 then (fX12_ice_132 v2 v4 s0 (-1 : Int32) h19) else (fX12_ice_132 v2 v4 s0 v3 h19))
set_option maxRecDepth 100000 in
theorem jX12_ice_114 {r : Int32} {h0 : HS} (v2 : Int32) (v3 : Int32) (v4 : Int32) (s0 : Int32) (h : HS) (H : fX12_ice_114 v2 v3 v4 s0 h = some (r, h0)) : Jx skM RX12 cX12_ice 6 (some .int) 4 (some (.int r)) h0 114 [some (.ref 0), none, some (.int v2), some (.int v3), some (.int v4), none] [.int s0] h := by
  unfold fX12_ice_114 at H
  refine j_istore (pc := 114) (L' := [some (.ref 0), none, some (.int v2), some (.int v3), some (.int v4), some (.int s0)]) dX12_ice_114 (by decide) rfl ?_
  refine j_aload_n (pc := 116) dX12_ice_116 rfl ?_
  refine j_iconst (pc := 117) (v := 0) dX12_ice_117 (by decide) ?_
  obtain ⟨h19, eh19, H⟩ := nm_x H
  refine j_putI (pc := 118) dX12_ice_118 fpX12_136 rfl h19 eh19 ?_
  refine j_aload_n (pc := 121) dX12_ice_121 rfl ?_
  refine j_iload (pc := 122) dX12_ice_122 rfl ?_
  refine j_if_eq (pc := 124) (tgt := 131) dX12_ice_124 (by decide) (fun c20 => ?_) (fun c20 => ?_)
  · rw [if_pos c20] at H
    refine j_iconst (pc := 131) (v := -1) dX12_ice_131 (by decide) ?_
    refine Jx.sub (L' := [some (.ref 0), none, some (.int v2), none, some (.int v4), some (.int s0)]) (⟨rfl, ⟨rfl, ⟨rfl, ⟨rfl, trivial⟩⟩⟩⟩) ?_
    exact jX12_ice_132 v2 v4 s0 (-1 : Int32) h19 H
  · rw [if_neg c20] at H
    refine j_iload_n (pc := 127) dX12_ice_127 rfl ?_
    refine j_goto (pc := 128) (tgt := 132) dX12_ice_128 (by decide) ?_
    refine Jx.sub (L' := [some (.ref 0), none, some (.int v2), none, some (.int v4), some (.int s0)]) (⟨rfl, ⟨rfl, ⟨rfl, ⟨rfl, trivial⟩⟩⟩⟩) ?_
    exact jX12_ice_132 v2 v4 s0 v3 h19 H
noncomputable def fX12_ice_88 (v2 : Int32) (v3 : Int32) (s0 : Int32) (h : HS) : Option (Int32 × HS) := if s0 = 0 then (fX12_ice_114 v2 v3 s0 (0 : Int32) h) else (bd (fX12_weight h) (fun r18 h17 => fX12_ice_114 v2 v3 s0 ((((iabs (gI h 0 49)) * r18) / (100 : Int32))) h17))
set_option maxRecDepth 100000 in
theorem jX12_ice_88 {r : Int32} {h0 : HS} (v2 : Int32) (v3 : Int32) (s0 : Int32) (h : HS) (H : fX12_ice_88 v2 v3 s0 h = some (r, h0)) : Jx skM RX12 cX12_ice 6 (some .int) 4 (some (.int r)) h0 88 [some (.ref 0), none, some (.int v2), some (.int v3), none, none] [.int s0] h := by
  unfold fX12_ice_88 at H
  refine j_istore (pc := 88) (L' := [some (.ref 0), none, some (.int v2), some (.int v3), some (.int s0), none]) dX12_ice_88 (by decide) rfl ?_
  refine j_iload (pc := 90) dX12_ice_90 rfl ?_
  refine j_if_eq (pc := 92) (tgt := 113) dX12_ice_92 (by decide) (fun c16 => ?_) (fun c16 => ?_)
  · rw [if_pos c16] at H
    refine j_iconst (pc := 113) (v := 0) dX12_ice_113 (by decide) ?_
    refine Jx.sub (L' := [some (.ref 0), none, some (.int v2), some (.int v3), some (.int s0), none]) (⟨rfl, ⟨rfl, ⟨rfl, ⟨rfl, trivial⟩⟩⟩⟩) ?_
    exact jX12_ice_114 v2 v3 s0 (0 : Int32) h H
  · rw [if_neg c16] at H
    refine j_aload_n (pc := 95) dX12_ice_95 rfl ?_
    refine j_getI (pc := 96) dX12_ice_96 flX12_332 rfl ?_
    refine j_mabs (pc := 99) dX12_ice_99 wmX12_201 (by simp [Value.category]) ?_
    refine j_aload_n (pc := 102) dX12_ice_102 rfl ?_
    obtain ⟨r18, h17, eh17, H⟩ := bd_x H
    refine j_callV (pc := 103) dX12_ice_103 mlX12_192 wyX12_weight (tX12_weight eh17) (by decide) rfl rfl rfl rfl (by simp [Value.category]) rfl ?_
    refine j_imul (pc := 106) dX12_ice_106 ?_
    refine j_bipush (pc := 107) (v := 100) dX12_ice_107 (by decide) ?_
    refine j_idiv (pc := 109) dX12_ice_109 (by decide) ?_
    refine j_goto (pc := 110) (tgt := 114) dX12_ice_110 (by decide) ?_
    refine Jx.sub (L' := [some (.ref 0), none, some (.int v2), some (.int v3), some (.int s0), none]) (⟨rfl, ⟨rfl, ⟨rfl, ⟨rfl, trivial⟩⟩⟩⟩) ?_
    exact jX12_ice_114 v2 v3 s0 ((((iabs (gI h 0 49)) * r18) / (100 : Int32))) h17 H
noncomputable def fX12_ice_72 (v2 : Int32) (v3 : Int32) (h : HS) : Option (Int32 × HS) := if ((10 : Int32) * v2) < (gI h 0 48) then (fX12_ice_88 v2 v3 (0 : Int32) h) else (fX12_ice_88 v2 v3 (1 : Int32) h)
set_option maxRecDepth 100000 in
theorem jX12_ice_72 {r : Int32} {h0 : HS} (v2 : Int32) (v3 : Int32) (h : HS) (H : fX12_ice_72 v2 v3 h = some (r, h0)) : Jx skM RX12 cX12_ice 6 (some .int) 4 (some (.int r)) h0 72 [some (.ref 0), none, some (.int v2), some (.int v3), none, none] [] h := by
  unfold fX12_ice_72 at H
  refine j_aload_n (pc := 72) dX12_ice_72 rfl ?_
  refine j_getI (pc := 73) dX12_ice_73 flX12_335 rfl ?_
  refine j_bipush (pc := 76) (v := 10) dX12_ice_76 (by decide) ?_
  refine j_iload_n (pc := 78) dX12_ice_78 rfl ?_
  refine j_imul (pc := 79) dX12_ice_79 ?_
  refine j_icmp_gt (pc := 80) (tgt := 87) dX12_ice_80 (by decide) (fun c15 => ?_) (fun c15 => ?_)
  · rw [if_pos c15] at H
    refine j_iconst (pc := 87) (v := 0) dX12_ice_87 (by decide) ?_
    refine Jx.sub (L' := [some (.ref 0), none, some (.int v2), some (.int v3), none, none]) (⟨rfl, ⟨rfl, ⟨rfl, trivial⟩⟩⟩) ?_
    exact jX12_ice_88 v2 v3 (0 : Int32) h H
  · rw [if_neg c15] at H
    refine j_iconst (pc := 83) (v := 1) dX12_ice_83 (by decide) ?_
    refine j_goto (pc := 84) (tgt := 88) dX12_ice_84 (by decide) ?_
    refine Jx.sub (L' := [some (.ref 0), none, some (.int v2), some (.int v3), none, none]) (⟨rfl, ⟨rfl, ⟨rfl, trivial⟩⟩⟩) ?_
    exact jX12_ice_88 v2 v3 (1 : Int32) h H
noncomputable def fX12_ice_44 : Nat → Int32 → Int32 → HS → Option (Int32 × HS)
  | 0, _, _, _ => none
  | n + 1, v2, v3, h => if (600 : Int32) ≤ v3 then (fX12_ice_72 v2 v3 h) else (if (gI h 0 48) ≤ ((10 : Int32) * v2) then (fX12_ice_72 v2 v3 h) else (bv (fX12_second h) (fun h13 => nm (v3 + (1 : Int32)) (fun v3_14 => fX12_ice_44 n v2 v3_14 h13))))
set_option maxRecDepth 100000 in
theorem jX12_ice_44 {r : Int32} {h0 : HS} : ∀ (n : Nat) (v2 : Int32) (v3 : Int32) (h : HS), fX12_ice_44 n v2 v3 h = some (r, h0) → Jx skM RX12 cX12_ice 6 (some .int) 4 (some (.int r)) h0 44 [some (.ref 0), none, some (.int v2), some (.int v3), none, none] [] h := by
  intro n
  induction n with
  | zero => intro v2 v3  h H; cases H
  | succ n ih =>
    intro v2 v3  h H
    rw [fX12_ice_44] at H
    refine j_iload_n (pc := 44) dX12_ice_44 rfl ?_
    refine j_sipush (pc := 45) (v := 600) dX12_ice_45 (by decide) ?_
    refine j_icmp_ge (pc := 48) (tgt := 72) dX12_ice_48 (by decide) (fun c11 => ?_) (fun c11 => ?_)
    · rw [if_pos c11] at H
      refine Jx.sub (L' := [some (.ref 0), none, some (.int v2), some (.int v3), none, none]) (⟨rfl, ⟨rfl, ⟨rfl, trivial⟩⟩⟩) ?_
      exact jX12_ice_72 v2 v3 h H
    · rw [if_neg c11] at H
      refine j_aload_n (pc := 51) dX12_ice_51 rfl ?_
      refine j_getI (pc := 52) dX12_ice_52 flX12_335 rfl ?_
      refine j_bipush (pc := 55) (v := 10) dX12_ice_55 (by decide) ?_
      refine j_iload_n (pc := 57) dX12_ice_57 rfl ?_
      refine j_imul (pc := 58) dX12_ice_58 ?_
      refine j_icmp_le (pc := 59) (tgt := 72) dX12_ice_59 (by decide) (fun c12 => ?_) (fun c12 => ?_)
      · rw [if_pos c12] at H
        refine Jx.sub (L' := [some (.ref 0), none, some (.int v2), some (.int v3), none, none]) (⟨rfl, ⟨rfl, ⟨rfl, trivial⟩⟩⟩) ?_
        exact jX12_ice_72 v2 v3 h H
      · rw [if_neg c12] at H
        refine j_aload_n (pc := 62) dX12_ice_62 rfl ?_
        obtain ⟨h13, eh13, H⟩ := bv_x H
        refine j_callV (pc := 63) dX12_ice_63 mlX12_338 wyX12_second (tX12_second eh13) (by decide) rfl rfl rfl rfl (by simp [Value.category]) rfl ?_
        obtain ⟨v3_14, ev3_14, H⟩ := nm_x H
        refine j_iinc (pc := 66) (L' := [some (.ref 0), none, some (.int v2), some (.int v3_14), none, none]) (w := 1) dX12_ice_66 rfl (by decide) (by decide) v3_14 ev3_14 rfl ?_
        refine j_goto (pc := 69) (tgt := 44) dX12_ice_69 (by decide) ?_
        refine Jx.sub (L' := [some (.ref 0), none, some (.int v2), some (.int v3_14), none, none]) (⟨rfl, ⟨rfl, ⟨rfl, trivial⟩⟩⟩) ?_
        exact ih v2 v3_14 h13 H
noncomputable def fX12_ice (p1 : Int32) (p2 : Int32) (h : HS) : Option (Int32 × HS) := nm (pI h 0 22 (0 : Int32)) (fun h1 => bd (fX12_isDepth p1 h1) (fun r3 h2 => if r3 = 0 then (some ((-1 : Int32), h2)) else (bd (fX12_in p2 (1 : Int32) (20 : Int32) h2) (fun r6 h5 => if r6 = 0 then (some ((-1 : Int32), h5)) else (if p2 < p1 then (nm (pI h5 0 48 ((10 : Int32) * p1)) (fun h9 => nm (pI h9 0 49 (0 : Int32)) (fun h10 => fX12_ice_44 FU p2 (0 : Int32) h10))) else (some ((-1 : Int32), h5)))))))
set_option maxRecDepth 100000 in
theorem tX12_ice {p1 : Int32} {p2 : Int32} {r : Int32} {h h0 : HS} (H : fX12_ice p1 p2 h = some (r, h0)) : Cn skM yX12_ice cX12_ice 6 (some .int) 4 [.ref 0, .int p1, .int p2] h (some (.int r)) h0 := by
  refine Cn_of (L := [some (.ref 0), some (.int p1), some (.int p2), none, none, none]) (by decide +kernel) (by simp [lg_sl, Value.category]) (fun ad => by simp [lg_sl, tv, Value.category]) (⟨rfl, ⟨rfl, ⟨rfl, trivial⟩⟩⟩) ?_
  unfold fX12_ice at H
  refine j_aload_n (pc := 0) dX12_ice_0 rfl ?_
  refine j_iconst (pc := 1) (v := 0) dX12_ice_1 (by decide) ?_
  obtain ⟨h1, eh1, H⟩ := nm_x H
  refine j_putI (pc := 2) dX12_ice_2 fpX12_133 rfl h1 eh1 ?_
  refine j_iload_n (pc := 5) dX12_ice_5 rfl ?_
  obtain ⟨r3, h2, eh2, H⟩ := bd_x H
  refine j_callS (pc := 6) dX12_ice_6 mlX12_178 wyX12_isDepth (tX12_isDepth eh2) (by decide) rfl (by simp [Value.category]) rfl ?_
  refine j_if_eq (pc := 9) (tgt := 27) dX12_ice_9 (by decide) (fun c4 => ?_) (fun c4 => ?_)
  · rw [if_pos c4] at H
    refine j_iconst (pc := 27) (v := -1) dX12_ice_27 (by decide) ?_
    exact j_ireturn (pc := 28) dX12_ice_28 rfl (ri_1 H) (ri_2 H)
  · rw [if_neg c4] at H
    refine j_iload_n (pc := 12) dX12_ice_12 rfl ?_
    refine j_iconst (pc := 13) (v := 1) dX12_ice_13 (by decide) ?_
    refine j_bipush (pc := 14) (v := 20) dX12_ice_14 (by decide) ?_
    obtain ⟨r6, h5, eh5, H⟩ := bd_x H
    refine j_callS (pc := 16) dX12_ice_16 mlX12_142 wyX12_in (tX12_in eh5) (by decide) rfl (by simp [Value.category]) rfl ?_
    refine j_if_eq (pc := 19) (tgt := 27) dX12_ice_19 (by decide) (fun c7 => ?_) (fun c7 => ?_)
    · rw [if_pos c7] at H
      refine j_iconst (pc := 27) (v := -1) dX12_ice_27 (by decide) ?_
      exact j_ireturn (pc := 28) dX12_ice_28 rfl (ri_1 H) (ri_2 H)
    · rw [if_neg c7] at H
      refine j_iload_n (pc := 22) dX12_ice_22 rfl ?_
      refine j_iload_n (pc := 23) dX12_ice_23 rfl ?_
      refine j_icmp_gt (pc := 24) (tgt := 29) dX12_ice_24 (by decide) (fun c8 => ?_) (fun c8 => ?_)
      · rw [if_pos c8] at H
        refine j_aload_n (pc := 29) dX12_ice_29 rfl ?_
        refine j_bipush (pc := 30) (v := 10) dX12_ice_30 (by decide) ?_
        refine j_iload_n (pc := 32) dX12_ice_32 rfl ?_
        refine j_imul (pc := 33) dX12_ice_33 ?_
        obtain ⟨h9, eh9, H⟩ := nm_x H
        refine j_putI (pc := 34) dX12_ice_34 fpX12_335 rfl h9 eh9 ?_
        refine j_aload_n (pc := 37) dX12_ice_37 rfl ?_
        refine j_iconst (pc := 38) (v := 0) dX12_ice_38 (by decide) ?_
        obtain ⟨h10, eh10, H⟩ := nm_x H
        refine j_putI (pc := 39) dX12_ice_39 fpX12_332 rfl h10 eh10 ?_
        refine j_iconst (pc := 42) (v := 0) dX12_ice_42 (by decide) ?_
        refine j_istore_n (pc := 43) (L' := [some (.ref 0), some (.int p1), some (.int p2), some (.int (0 : Int32)), none, none]) dX12_ice_43 (by decide) rfl ?_
        refine Jx.sub (L' := [some (.ref 0), none, some (.int p2), some (.int (0 : Int32)), none, none]) (⟨rfl, ⟨rfl, ⟨rfl, trivial⟩⟩⟩) ?_
        exact jX12_ice_44 FU p2 (0 : Int32) h10 H
      · rw [if_neg c8] at H
        refine j_iconst (pc := 27) (v := -1) dX12_ice_27 (by decide) ?_
        exact j_ireturn (pc := 28) dX12_ice_28 rfl (ri_1 H) (ri_2 H)

noncomputable def fX12_keep_65 : Nat → Int32 → Int32 → HS → Option (Int32 × HS)
  | 0, _, _, _ => none
  | n + 1, v1, v2, h => if (15 : Int32) ≤ v2 then (some ((1 : Int32), h)) else (ck (inb v2 15) (ck (inb (((15 : Int32) * v1) + v2) 45) (nm (pI h 35 (((15 : Int32) * v1) + v2).toNatClampNeg (gI h 5 v2.toNatClampNeg)) (fun h17 => nm (v2 + (1 : Int32)) (fun v2_19 => fX12_keep_65 n v1 v2_19 h17)))))
set_option maxRecDepth 100000 in
theorem jX12_keep_65 {r : Int32} {h0 : HS} : ∀ (n : Nat) (v1 : Int32) (v2 : Int32) (h : HS), fX12_keep_65 n v1 v2 h = some (r, h0) → Jx skM RX12 cX12_keep 3 (some .boolean) 1 (some (.int r)) h0 65 [some (.ref 0), some (.int v1), some (.int v2)] [] h := by
  intro n
  induction n with
  | zero => intro v1 v2  h H; cases H
  | succ n ih =>
    intro v1 v2  h H
    rw [fX12_keep_65] at H
    refine j_iload_n (pc := 65) dX12_keep_65 rfl ?_
    refine j_bipush (pc := 66) (v := 15) dX12_keep_66 (by decide) ?_
    refine j_icmp_ge (pc := 68) (tgt := 94) dX12_keep_68 (by decide) (fun c15 => ?_) (fun c15 => ?_)
    · rw [if_pos c15] at H
      refine j_iconst (pc := 94) (v := 1) dX12_keep_94 (by decide) ?_
      exact j_zreturn (pc := 95) dX12_keep_95 rfl (rz1 H) (ri_2 H)
    · rw [if_neg c15] at H
      refine j_aload_n (pc := 71) dX12_keep_71 rfl ?_
      refine j_getR (pc := 72) (b := 35) dX12_keep_72 flX12_121 rfl ?_
      refine j_bipush (pc := 75) (v := 15) dX12_keep_75 (by decide) ?_
      refine j_iload_n (pc := 77) dX12_keep_77 rfl ?_
      refine j_imul (pc := 78) dX12_keep_78 ?_
      refine j_iload_n (pc := 79) dX12_keep_79 rfl ?_
      refine j_iadd (pc := 80) dX12_keep_80 ?_
      refine j_aload_n (pc := 81) dX12_keep_81 rfl ?_
      refine j_getR (pc := 82) (b := 5) dX12_keep_82 flX12_22 rfl ?_
      refine j_iload_n (pc := 85) dX12_keep_85 rfl ?_
      obtain ⟨b16, H⟩ := ck_x H
      refine j_iaload (pc := 86) dX12_keep_86 rfl b16 rfl ?_
      obtain ⟨b18, H⟩ := ck_x H
      obtain ⟨h17, eh17, H⟩ := nm_x H
      refine j_iastore (pc := 87) dX12_keep_87 rfl b18 rfl h17 eh17 ?_
      obtain ⟨v2_19, ev2_19, H⟩ := nm_x H
      refine j_iinc (pc := 88) (L' := [some (.ref 0), some (.int v1), some (.int v2_19)]) (w := 1) dX12_keep_88 rfl (by decide) (by decide) v2_19 ev2_19 rfl ?_
      refine j_goto (pc := 91) (tgt := 65) dX12_keep_91 (by decide) ?_
      refine Jx.sub (L' := [some (.ref 0), some (.int v1), some (.int v2_19)]) (⟨rfl, ⟨rfl, ⟨rfl, trivial⟩⟩⟩) ?_
      exact ih v1 v2_19 h17 H
noncomputable def fX12_keep (p1 : Int32) (h : HS) : Option (Int32 × HS) := nm (pI h 0 22 (0 : Int32)) (fun h1 => bd (fX12_in p1 (0 : Int32) (2 : Int32) h1) (fun r3 h2 => if r3 = 0 then (some ((0 : Int32), h2)) else (ck (inb p1 3) (nm (pI h2 33 p1.toNatClampNeg (vp_nar .boolean (1 : Int32))) (fun h5 => ck (inb p1 3) (nm (pI h5 34 p1.toNatClampNeg (gI h5 0 0)) (fun h7 => ck (inb p1 3) (nm (pI h7 36 p1.toNatClampNeg (gI h7 0 15)) (fun h9 => ck (inb p1 3) (nm (pI h9 37 p1.toNatClampNeg (gI h9 0 16)) (fun h11 => ck (inb p1 3) (nm (pI h11 38 p1.toNatClampNeg (gI h11 0 17)) (fun h13 => fX12_keep_65 FU p1 (0 : Int32) h13)))))))))))))
set_option maxRecDepth 100000 in
theorem tX12_keep {p1 : Int32} {r : Int32} {h h0 : HS} (H : fX12_keep p1 h = some (r, h0)) : Cn skM yX12_keep cX12_keep 3 (some .boolean) 1 [.ref 0, .int p1] h (some (.int r)) h0 := by
  refine Cn_of (L := [some (.ref 0), some (.int p1), none]) (by decide +kernel) (by simp [lg_sl, Value.category]) (fun ad => by simp [lg_sl, tv, Value.category]) (⟨rfl, ⟨rfl, trivial⟩⟩) ?_
  unfold fX12_keep at H
  refine j_aload_n (pc := 0) dX12_keep_0 rfl ?_
  refine j_iconst (pc := 1) (v := 0) dX12_keep_1 (by decide) ?_
  obtain ⟨h1, eh1, H⟩ := nm_x H
  refine j_putI (pc := 2) dX12_keep_2 fpX12_133 rfl h1 eh1 ?_
  refine j_iload_n (pc := 5) dX12_keep_5 rfl ?_
  refine j_iconst (pc := 6) (v := 0) dX12_keep_6 (by decide) ?_
  refine j_iconst (pc := 7) (v := 2) dX12_keep_7 (by decide) ?_
  obtain ⟨r3, h2, eh2, H⟩ := bd_x H
  refine j_callS (pc := 8) dX12_keep_8 mlX12_142 wyX12_in (tX12_in eh2) (by decide) rfl (by simp [Value.category]) rfl ?_
  refine j_if_ne (pc := 11) (tgt := 16) dX12_keep_11 (by decide) (fun c4 => ?_) (fun c4 => ?_)
  · rw [if_neg c4] at H
    refine j_aload_n (pc := 16) dX12_keep_16 rfl ?_
    refine j_getR (pc := 17) (b := 33) dX12_keep_17 flX12_115 rfl ?_
    refine j_iload_n (pc := 20) dX12_keep_20 rfl ?_
    refine j_iconst (pc := 21) (v := 1) dX12_keep_21 (by decide) ?_
    obtain ⟨b6, H⟩ := ck_x H
    obtain ⟨h5, eh5, H⟩ := nm_x H
    refine j_zastore (pc := 22) dX12_keep_22 rfl b6 rfl h5 eh5 ?_
    refine j_aload_n (pc := 23) dX12_keep_23 rfl ?_
    refine j_getR (pc := 24) (b := 34) dX12_keep_24 flX12_118 rfl ?_
    refine j_iload_n (pc := 27) dX12_keep_27 rfl ?_
    refine j_aload_n (pc := 28) dX12_keep_28 rfl ?_
    refine j_getI (pc := 29) dX12_keep_29 flX12_139 rfl ?_
    obtain ⟨b8, H⟩ := ck_x H
    obtain ⟨h7, eh7, H⟩ := nm_x H
    refine j_iastore (pc := 32) dX12_keep_32 rfl b8 rfl h7 eh7 ?_
    refine j_aload_n (pc := 33) dX12_keep_33 rfl ?_
    refine j_getR (pc := 34) (b := 36) dX12_keep_34 flX12_124 rfl ?_
    refine j_iload_n (pc := 37) dX12_keep_37 rfl ?_
    refine j_aload_n (pc := 38) dX12_keep_38 rfl ?_
    refine j_getI (pc := 39) dX12_keep_39 flX12_368 rfl ?_
    obtain ⟨b10, H⟩ := ck_x H
    obtain ⟨h9, eh9, H⟩ := nm_x H
    refine j_iastore (pc := 42) dX12_keep_42 rfl b10 rfl h9 eh9 ?_
    refine j_aload_n (pc := 43) dX12_keep_43 rfl ?_
    refine j_getR (pc := 44) (b := 37) dX12_keep_44 flX12_127 rfl ?_
    refine j_iload_n (pc := 47) dX12_keep_47 rfl ?_
    refine j_aload_n (pc := 48) dX12_keep_48 rfl ?_
    refine j_getI (pc := 49) dX12_keep_49 flX12_262 rfl ?_
    obtain ⟨b12, H⟩ := ck_x H
    obtain ⟨h11, eh11, H⟩ := nm_x H
    refine j_iastore (pc := 52) dX12_keep_52 rfl b12 rfl h11 eh11 ?_
    refine j_aload_n (pc := 53) dX12_keep_53 rfl ?_
    refine j_getR (pc := 54) (b := 38) dX12_keep_54 flX12_130 rfl ?_
    refine j_iload_n (pc := 57) dX12_keep_57 rfl ?_
    refine j_aload_n (pc := 58) dX12_keep_58 rfl ?_
    refine j_getI (pc := 59) dX12_keep_59 flX12_38 rfl ?_
    obtain ⟨b14, H⟩ := ck_x H
    obtain ⟨h13, eh13, H⟩ := nm_x H
    refine j_iastore (pc := 62) dX12_keep_62 rfl b14 rfl h13 eh13 ?_
    refine j_iconst (pc := 63) (v := 0) dX12_keep_63 (by decide) ?_
    refine j_istore_n (pc := 64) (L' := [some (.ref 0), some (.int p1), some (.int (0 : Int32))]) dX12_keep_64 (by decide) rfl ?_
    refine Jx.sub (L' := [some (.ref 0), some (.int p1), some (.int (0 : Int32))]) (⟨rfl, ⟨rfl, ⟨rfl, trivial⟩⟩⟩) ?_
    exact jX12_keep_65 FU p1 (0 : Int32) h13 H
  · rw [if_pos c4] at H
    refine j_iconst (pc := 14) (v := 0) dX12_keep_14 (by decide) ?_
    exact j_zreturn (pc := 15) dX12_keep_15 rfl (rz0 H) (ri_2 H)

noncomputable def fX12_again_57 : Nat → Int32 → Int32 → HS → Option (Int32 × HS)
  | 0, _, _, _ => none
  | n + 1, v1, v2, h => ck (inb v1 3) (if (gI h 34 v1.toNatClampNeg) ≤ v2 then (some ((1 : Int32), h)) else (ck (inb (((15 : Int32) * v1) + v2) 45) (ck (inb v2 15) (nm (pI h 5 v2.toNatClampNeg (gI h 35 (((15 : Int32) * v1) + v2).toNatClampNeg)) (fun h16 => nm (v2 + (1 : Int32)) (fun v2_18 => fX12_again_57 n v1 v2_18 h16))))))
set_option maxRecDepth 100000 in
theorem jX12_again_57 {r : Int32} {h0 : HS} : ∀ (n : Nat) (v1 : Int32) (v2 : Int32) (h : HS), fX12_again_57 n v1 v2 h = some (r, h0) → Jx skM RX12 cX12_again 3 (some .boolean) 1 (some (.int r)) h0 57 [some (.ref 0), some (.int v1), some (.int v2)] [] h := by
  intro n
  induction n with
  | zero => intro v1 v2  h H; cases H
  | succ n ih =>
    intro v1 v2  h H
    rw [fX12_again_57] at H
    refine j_iload_n (pc := 57) dX12_again_57 rfl ?_
    refine j_aload_n (pc := 58) dX12_again_58 rfl ?_
    refine j_getR (pc := 59) (b := 34) dX12_again_59 flX12_118 rfl ?_
    refine j_iload_n (pc := 62) dX12_again_62 rfl ?_
    obtain ⟨b13, H⟩ := ck_x H
    refine j_iaload (pc := 63) dX12_again_63 rfl b13 rfl ?_
    refine j_icmp_ge (pc := 64) (tgt := 90) dX12_again_64 (by decide) (fun c14 => ?_) (fun c14 => ?_)
    · rw [if_pos c14] at H
      refine j_iconst (pc := 90) (v := 1) dX12_again_90 (by decide) ?_
      exact j_zreturn (pc := 91) dX12_again_91 rfl (rz1 H) (ri_2 H)
    · rw [if_neg c14] at H
      refine j_aload_n (pc := 67) dX12_again_67 rfl ?_
      refine j_getR (pc := 68) (b := 5) dX12_again_68 flX12_22 rfl ?_
      refine j_iload_n (pc := 71) dX12_again_71 rfl ?_
      refine j_aload_n (pc := 72) dX12_again_72 rfl ?_
      refine j_getR (pc := 73) (b := 35) dX12_again_73 flX12_121 rfl ?_
      refine j_bipush (pc := 76) (v := 15) dX12_again_76 (by decide) ?_
      refine j_iload_n (pc := 78) dX12_again_78 rfl ?_
      refine j_imul (pc := 79) dX12_again_79 ?_
      refine j_iload_n (pc := 80) dX12_again_80 rfl ?_
      refine j_iadd (pc := 81) dX12_again_81 ?_
      obtain ⟨b15, H⟩ := ck_x H
      refine j_iaload (pc := 82) dX12_again_82 rfl b15 rfl ?_
      obtain ⟨b17, H⟩ := ck_x H
      obtain ⟨h16, eh16, H⟩ := nm_x H
      refine j_iastore (pc := 83) dX12_again_83 rfl b17 rfl h16 eh16 ?_
      obtain ⟨v2_18, ev2_18, H⟩ := nm_x H
      refine j_iinc (pc := 84) (L' := [some (.ref 0), some (.int v1), some (.int v2_18)]) (w := 1) dX12_again_84 rfl (by decide) (by decide) v2_18 ev2_18 rfl ?_
      refine j_goto (pc := 87) (tgt := 57) dX12_again_87 (by decide) ?_
      refine Jx.sub (L' := [some (.ref 0), some (.int v1), some (.int v2_18)]) (⟨rfl, ⟨rfl, ⟨rfl, trivial⟩⟩⟩) ?_
      exact ih v1 v2_18 h16 H
noncomputable def fX12_again (p1 : Int32) (h : HS) : Option (Int32 × HS) := nm (pI h 0 22 (0 : Int32)) (fun h1 => bd (fX12_in p1 (0 : Int32) (2 : Int32) h1) (fun r3 h2 => if r3 = 0 then (some ((0 : Int32), h2)) else (ck (inb p1 3) (if (gI h2 33 p1.toNatClampNeg) = 0 then (some ((0 : Int32), h2)) else (ck (inb p1 3) (nm (pI h2 0 15 (gI h2 36 p1.toNatClampNeg)) (fun h8 => ck (inb p1 3) (nm (pI h8 0 16 (gI h8 37 p1.toNatClampNeg)) (fun h10 => ck (inb p1 3) (nm (pI h10 0 17 (gI h10 38 p1.toNatClampNeg)) (fun h12 => fX12_again_57 FU p1 (0 : Int32) h12)))))))))))
set_option maxRecDepth 100000 in
theorem tX12_again {p1 : Int32} {r : Int32} {h h0 : HS} (H : fX12_again p1 h = some (r, h0)) : Cn skM yX12_again cX12_again 3 (some .boolean) 1 [.ref 0, .int p1] h (some (.int r)) h0 := by
  refine Cn_of (L := [some (.ref 0), some (.int p1), none]) (by decide +kernel) (by simp [lg_sl, Value.category]) (fun ad => by simp [lg_sl, tv, Value.category]) (⟨rfl, ⟨rfl, trivial⟩⟩) ?_
  unfold fX12_again at H
  refine j_aload_n (pc := 0) dX12_again_0 rfl ?_
  refine j_iconst (pc := 1) (v := 0) dX12_again_1 (by decide) ?_
  obtain ⟨h1, eh1, H⟩ := nm_x H
  refine j_putI (pc := 2) dX12_again_2 fpX12_133 rfl h1 eh1 ?_
  refine j_iload_n (pc := 5) dX12_again_5 rfl ?_
  refine j_iconst (pc := 6) (v := 0) dX12_again_6 (by decide) ?_
  refine j_iconst (pc := 7) (v := 2) dX12_again_7 (by decide) ?_
  obtain ⟨r3, h2, eh2, H⟩ := bd_x H
  refine j_callS (pc := 8) dX12_again_8 mlX12_142 wyX12_in (tX12_in eh2) (by decide) rfl (by simp [Value.category]) rfl ?_
  refine j_if_eq (pc := 11) (tgt := 23) dX12_again_11 (by decide) (fun c4 => ?_) (fun c4 => ?_)
  · rw [if_pos c4] at H
    refine j_iconst (pc := 23) (v := 0) dX12_again_23 (by decide) ?_
    exact j_zreturn (pc := 24) dX12_again_24 rfl (rz0 H) (ri_2 H)
  · rw [if_neg c4] at H
    refine j_aload_n (pc := 14) dX12_again_14 rfl ?_
    refine j_getR (pc := 15) (b := 33) dX12_again_15 flX12_115 rfl ?_
    refine j_iload_n (pc := 18) dX12_again_18 rfl ?_
    obtain ⟨b5, H⟩ := ck_x H
    refine j_zaload (pc := 19) dX12_again_19 rfl b5 rfl ?_
    refine j_if_ne (pc := 20) (tgt := 25) dX12_again_20 (by decide) (fun c6 => ?_) (fun c6 => ?_)
    · rw [if_neg c6] at H
      refine j_aload_n (pc := 25) dX12_again_25 rfl ?_
      refine j_aload_n (pc := 26) dX12_again_26 rfl ?_
      refine j_getR (pc := 27) (b := 36) dX12_again_27 flX12_124 rfl ?_
      refine j_iload_n (pc := 30) dX12_again_30 rfl ?_
      obtain ⟨b7, H⟩ := ck_x H
      refine j_iaload (pc := 31) dX12_again_31 rfl b7 rfl ?_
      obtain ⟨h8, eh8, H⟩ := nm_x H
      refine j_putI (pc := 32) dX12_again_32 fpX12_368 rfl h8 eh8 ?_
      refine j_aload_n (pc := 35) dX12_again_35 rfl ?_
      refine j_aload_n (pc := 36) dX12_again_36 rfl ?_
      refine j_getR (pc := 37) (b := 37) dX12_again_37 flX12_127 rfl ?_
      refine j_iload_n (pc := 40) dX12_again_40 rfl ?_
      obtain ⟨b9, H⟩ := ck_x H
      refine j_iaload (pc := 41) dX12_again_41 rfl b9 rfl ?_
      obtain ⟨h10, eh10, H⟩ := nm_x H
      refine j_putI (pc := 42) dX12_again_42 fpX12_262 rfl h10 eh10 ?_
      refine j_aload_n (pc := 45) dX12_again_45 rfl ?_
      refine j_aload_n (pc := 46) dX12_again_46 rfl ?_
      refine j_getR (pc := 47) (b := 38) dX12_again_47 flX12_130 rfl ?_
      refine j_iload_n (pc := 50) dX12_again_50 rfl ?_
      obtain ⟨b11, H⟩ := ck_x H
      refine j_iaload (pc := 51) dX12_again_51 rfl b11 rfl ?_
      obtain ⟨h12, eh12, H⟩ := nm_x H
      refine j_putI (pc := 52) dX12_again_52 fpX12_38 rfl h12 eh12 ?_
      refine j_iconst (pc := 55) (v := 0) dX12_again_55 (by decide) ?_
      refine j_istore_n (pc := 56) (L' := [some (.ref 0), some (.int p1), some (.int (0 : Int32))]) dX12_again_56 (by decide) rfl ?_
      refine Jx.sub (L' := [some (.ref 0), some (.int p1), some (.int (0 : Int32))]) (⟨rfl, ⟨rfl, ⟨rfl, trivial⟩⟩⟩) ?_
      exact jX12_again_57 FU p1 (0 : Int32) h12 H
    · rw [if_pos c6] at H
      refine j_iconst (pc := 23) (v := 0) dX12_again_23 (by decide) ?_
      exact j_zreturn (pc := 24) dX12_again_24 rfl (rz0 H) (ri_2 H)

noncomputable def fX12_seed (p1 : Int32) (h : HS) : Option (Int32 × HS) := nm (pI h 0 22 (0 : Int32)) (fun h1 => nm ((gI h1 0 17)) (fun v2_2 => nm (pI h1 0 17 p1) (fun h3 => some (v2_2, h3))))
set_option maxRecDepth 100000 in
theorem tX12_seed {p1 : Int32} {r : Int32} {h h0 : HS} (H : fX12_seed p1 h = some (r, h0)) : Cn skM yX12_seed cX12_seed 3 (some .int) 0 [.ref 0, .int p1] h (some (.int r)) h0 := by
  refine Cn_of (L := [some (.ref 0), some (.int p1), none]) (by decide +kernel) (by simp [lg_sl, Value.category]) (fun ad => by simp [lg_sl, tv, Value.category]) (⟨rfl, ⟨rfl, trivial⟩⟩) ?_
  unfold fX12_seed at H
  refine j_aload_n (pc := 0) dX12_seed_0 rfl ?_
  refine j_iconst (pc := 1) (v := 0) dX12_seed_1 (by decide) ?_
  obtain ⟨h1, eh1, H⟩ := nm_x H
  refine j_putI (pc := 2) dX12_seed_2 fpX12_133 rfl h1 eh1 ?_
  refine j_aload_n (pc := 5) dX12_seed_5 rfl ?_
  refine j_getI (pc := 6) dX12_seed_6 flX12_38 rfl ?_
  obtain ⟨v2_2, ev2_2, H⟩ := nm_x H
  refine j_topi ev2_2 ?_
  refine j_istore_n (pc := 9) (L' := [some (.ref 0), some (.int p1), some (.int v2_2)]) dX12_seed_9 (by decide) rfl ?_
  refine j_aload_n (pc := 10) dX12_seed_10 rfl ?_
  refine j_iload_n (pc := 11) dX12_seed_11 rfl ?_
  obtain ⟨h3, eh3, H⟩ := nm_x H
  refine j_putI (pc := 12) dX12_seed_12 fpX12_38 rfl h3 eh3 ?_
  refine j_iload_n (pc := 15) dX12_seed_15 rfl ?_
  exact j_ireturn (pc := 16) dX12_seed_16 rfl (ri_1 H) (ri_2 H)

noncomputable def fX12_draw (p1 : Int32) (h : HS) : Option (Int32 × HS) := nm (pI h 0 17 (((gI h 0 17) * (1103515245 : Int32)) + (12345 : Int32))) (fun h1 => ck (nz p1) (some ((irm (iush (gI h1 0 17) (16 : Int32)) p1), h1)))
set_option maxRecDepth 100000 in
theorem tX12_draw {p1 : Int32} {r : Int32} {h h0 : HS} (H : fX12_draw p1 h = some (r, h0)) : Cn skM yX12_draw cX12_draw 2 (some .int) 0 [.ref 0, .int p1] h (some (.int r)) h0 := by
  refine Cn_of (L := [some (.ref 0), some (.int p1)]) (by decide +kernel) (by simp [lg_sl, Value.category]) (fun ad => by simp [lg_sl, tv, Value.category]) (⟨rfl, ⟨rfl, trivial⟩⟩) ?_
  unfold fX12_draw at H
  refine j_aload_n (pc := 0) dX12_draw_0 rfl ?_
  refine j_aload_n (pc := 1) dX12_draw_1 rfl ?_
  refine j_getI (pc := 2) dX12_draw_2 flX12_38 rfl ?_
  refine j_ldcw (pc := 5) dX12_draw_5 wkX12_380 ?_
  refine j_imul (pc := 8) dX12_draw_8 ?_
  refine j_sipush (pc := 9) (v := 12345) dX12_draw_9 (by decide) ?_
  refine j_iadd (pc := 12) dX12_draw_12 ?_
  obtain ⟨h1, eh1, H⟩ := nm_x H
  refine j_putI (pc := 13) dX12_draw_13 fpX12_38 rfl h1 eh1 ?_
  refine j_aload_n (pc := 16) dX12_draw_16 rfl ?_
  refine j_getI (pc := 17) dX12_draw_17 flX12_38 rfl ?_
  refine j_bipush (pc := 20) (v := 16) dX12_draw_20 (by decide) ?_
  refine j_iushr (pc := 22) dX12_draw_22 ?_
  refine j_iload_n (pc := 23) dX12_draw_23 rfl ?_
  obtain ⟨b2, H⟩ := ck_x H
  refine j_irem (pc := 24) dX12_draw_24 (nz_x b2) ?_
  exact j_ireturn (pc := 25) dX12_draw_25 rfl (ri_1 H) (ri_2 H)

noncomputable def fX12_lie_83 (k55 : Int32 → Int32 → HS → Option (Int32 × HS)) (v3 : Int32) (s1 : Int32) (s0 : Int32) (h : HS) : Option (Int32 × HS) := nm ((s0 - s1)) (fun v2_20 => nm (v3 + (1 : Int32)) (fun v3_21 => k55 v2_20 v3_21 h))
set_option maxRecDepth 100000 in
theorem jX12_lie_83 {r : Int32} {h0 : HS} (k55 : Int32 → Int32 → HS → Option (Int32 × HS)) (hk55 : ∀ (v2 : Int32) (v3 : Int32) (h : HS), k55 v2 v3 h = some (r, h0) → Jx skM RX12 cX12_lie 4 (some .int) 1 (some (.int r)) h0 55 [some (.ref 0), none, some (.int v2), some (.int v3)] [] h) (v3 : Int32) (s1 : Int32) (s0 : Int32) (h : HS) (H : fX12_lie_83 k55 v3 s1 s0 h = some (r, h0)) : Jx skM RX12 cX12_lie 4 (some .int) 1 (some (.int r)) h0 83 [some (.ref 0), none, none, some (.int v3)] [.int s1, .int s0] h := by
  unfold fX12_lie_83 at H
  refine j_isub (pc := 83) dX12_lie_83 ?_
  obtain ⟨v2_20, ev2_20, H⟩ := nm_x H
  refine j_topi ev2_20 ?_
  refine j_istore_n (pc := 84) (L' := [some (.ref 0), none, some (.int v2_20), some (.int v3)]) dX12_lie_84 (by decide) rfl ?_
  obtain ⟨v3_21, ev3_21, H⟩ := nm_x H
  refine j_iinc (pc := 85) (L' := [some (.ref 0), none, some (.int v2_20), some (.int v3_21)]) (w := 1) dX12_lie_85 rfl (by decide) (by decide) v3_21 ev3_21 rfl ?_
  refine j_goto (pc := 88) (tgt := 55) dX12_lie_88 (by decide) ?_
  refine Jx.sub (L' := [some (.ref 0), none, some (.int v2_20), some (.int v3_21)]) (⟨rfl, ⟨rfl, ⟨rfl, trivial⟩⟩⟩) ?_
  exact hk55 v2_20 v3_21 h H
noncomputable def fX12_lie_68 (k55 : Int32 → Int32 → HS → Option (Int32 × HS)) (v2 : Int32) (v3 : Int32) (h : HS) : Option (Int32 × HS) := ck (inb v3 15) (if (gI h 4 v3.toNatClampNeg) ≤ 0 then (fX12_lie_83 k55 v3 (0 : Int32) v2 h) else (fX12_lie_83 k55 v3 (1 : Int32) v2 h))
set_option maxRecDepth 100000 in
theorem jX12_lie_68 {r : Int32} {h0 : HS} (k55 : Int32 → Int32 → HS → Option (Int32 × HS)) (hk55 : ∀ (v2 : Int32) (v3 : Int32) (h : HS), k55 v2 v3 h = some (r, h0) → Jx skM RX12 cX12_lie 4 (some .int) 1 (some (.int r)) h0 55 [some (.ref 0), none, some (.int v2), some (.int v3)] [] h) (v2 : Int32) (v3 : Int32) (h : HS) (H : fX12_lie_68 k55 v2 v3 h = some (r, h0)) : Jx skM RX12 cX12_lie 4 (some .int) 1 (some (.int r)) h0 68 [some (.ref 0), none, some (.int v2), some (.int v3)] [] h := by
  unfold fX12_lie_68 at H
  refine j_iload_n (pc := 68) dX12_lie_68 rfl ?_
  refine j_aload_n (pc := 69) dX12_lie_69 rfl ?_
  refine j_getR (pc := 70) (b := 4) dX12_lie_70 flX12_19 rfl ?_
  refine j_iload_n (pc := 73) dX12_lie_73 rfl ?_
  obtain ⟨b18, H⟩ := ck_x H
  refine j_iaload (pc := 74) dX12_lie_74 rfl b18 rfl ?_
  refine j_if_le (pc := 75) (tgt := 82) dX12_lie_75 (by decide) (fun c19 => ?_) (fun c19 => ?_)
  · rw [if_pos c19] at H
    refine j_iconst (pc := 82) (v := 0) dX12_lie_82 (by decide) ?_
    refine Jx.sub (L' := [some (.ref 0), none, none, some (.int v3)]) (⟨rfl, ⟨rfl, trivial⟩⟩) ?_
    exact jX12_lie_83 _ hk55 v3 (0 : Int32) v2 h H
  · rw [if_neg c19] at H
    refine j_iconst (pc := 78) (v := 1) dX12_lie_78 (by decide) ?_
    refine j_goto (pc := 79) (tgt := 83) dX12_lie_79 (by decide) ?_
    refine Jx.sub (L' := [some (.ref 0), none, none, some (.int v3)]) (⟨rfl, ⟨rfl, trivial⟩⟩) ?_
    exact jX12_lie_83 _ hk55 v3 (1 : Int32) v2 h H
noncomputable def fX12_lie_55 : Nat → Int32 → Int32 → HS → Option (Int32 × HS)
  | 0, _, _, _ => none
  | n + 1, v2, v3, h => ck (inb v3 15) (if (gI h 4 v3.toNatClampNeg) = 0 then (fX12_lie_68 (fX12_lie_55 n) v2 v3 h) else (if v2 ≤ 0 then (ck (inb v3 15) (bd (fX12_draw (((gI h 4 v3.toNatClampNeg) + (1 : Int32))) h) (fun r13 h12 => ck (inb v3 15) (nm (pI h12 5 v3.toNatClampNeg r13) (fun h14 => some (v3, h14)))))) else (fX12_lie_68 (fX12_lie_55 n) v2 v3 h)))
set_option maxRecDepth 100000 in
theorem jX12_lie_55 {r : Int32} {h0 : HS} : ∀ (n : Nat) (v2 : Int32) (v3 : Int32) (h : HS), fX12_lie_55 n v2 v3 h = some (r, h0) → Jx skM RX12 cX12_lie 4 (some .int) 1 (some (.int r)) h0 55 [some (.ref 0), none, some (.int v2), some (.int v3)] [] h := by
  intro n
  induction n with
  | zero => intro v2 v3  h H; cases H
  | succ n ih =>
    intro v2 v3  h H
    rw [fX12_lie_55] at H
    refine j_aload_n (pc := 55) dX12_lie_55 rfl ?_
    refine j_getR (pc := 56) (b := 4) dX12_lie_56 flX12_19 rfl ?_
    refine j_iload_n (pc := 59) dX12_lie_59 rfl ?_
    obtain ⟨b8, H⟩ := ck_x H
    refine j_iaload (pc := 60) dX12_lie_60 rfl b8 rfl ?_
    refine j_if_eq (pc := 61) (tgt := 68) dX12_lie_61 (by decide) (fun c9 => ?_) (fun c9 => ?_)
    · rw [if_pos c9] at H
      refine Jx.sub (L' := [some (.ref 0), none, some (.int v2), some (.int v3)]) (⟨rfl, ⟨rfl, ⟨rfl, trivial⟩⟩⟩) ?_
      exact jX12_lie_68 _ ih v2 v3 h H
    · rw [if_neg c9] at H
      refine j_iload_n (pc := 64) dX12_lie_64 rfl ?_
      refine j_if_le (pc := 65) (tgt := 91) dX12_lie_65 (by decide) (fun c10 => ?_) (fun c10 => ?_)
      · rw [if_pos c10] at H
        refine j_aload_n (pc := 91) dX12_lie_91 rfl ?_
        refine j_getR (pc := 92) (b := 5) dX12_lie_92 flX12_22 rfl ?_
        refine j_iload_n (pc := 95) dX12_lie_95 rfl ?_
        refine j_aload_n (pc := 96) dX12_lie_96 rfl ?_
        refine j_aload_n (pc := 97) dX12_lie_97 rfl ?_
        refine j_getR (pc := 98) (b := 4) dX12_lie_98 flX12_19 rfl ?_
        refine j_iload_n (pc := 101) dX12_lie_101 rfl ?_
        obtain ⟨b11, H⟩ := ck_x H
        refine j_iaload (pc := 102) dX12_lie_102 rfl b11 rfl ?_
        refine j_iconst (pc := 103) (v := 1) dX12_lie_103 (by decide) ?_
        refine j_iadd (pc := 104) dX12_lie_104 ?_
        obtain ⟨r13, h12, eh12, H⟩ := bd_x H
        refine j_callV (pc := 105) dX12_lie_105 mlX12_381 wyX12_draw (tX12_draw eh12) (by decide) rfl rfl rfl rfl (by simp [Value.category]) rfl ?_
        obtain ⟨b15, H⟩ := ck_x H
        obtain ⟨h14, eh14, H⟩ := nm_x H
        refine j_iastore (pc := 108) dX12_lie_108 rfl b15 rfl h14 eh14 ?_
        refine j_iload_n (pc := 109) dX12_lie_109 rfl ?_
        exact j_ireturn (pc := 110) dX12_lie_110 rfl (ri_1 H) (ri_2 H)
      · rw [if_neg c10] at H
        refine Jx.sub (L' := [some (.ref 0), none, some (.int v2), some (.int v3)]) (⟨rfl, ⟨rfl, ⟨rfl, trivial⟩⟩⟩) ?_
        exact jX12_lie_68 _ ih v2 v3 h H
noncomputable def fX12_lie_32 (k9 : Int32 → Int32 → HS → Option (Int32 × HS)) (v2 : Int32) (s1 : Int32) (s0 : Int32) (h : HS) : Option (Int32 × HS) := nm ((s0 + s1)) (fun v1_16 => nm (v2 + (1 : Int32)) (fun v2_17 => k9 v1_16 v2_17 h))
set_option maxRecDepth 100000 in
theorem jX12_lie_32 {r : Int32} {h0 : HS} (k9 : Int32 → Int32 → HS → Option (Int32 × HS)) (hk9 : ∀ (v1 : Int32) (v2 : Int32) (h : HS), k9 v1 v2 h = some (r, h0) → Jx skM RX12 cX12_lie 4 (some .int) 1 (some (.int r)) h0 9 [some (.ref 0), some (.int v1), some (.int v2), none] [] h) (v2 : Int32) (s1 : Int32) (s0 : Int32) (h : HS) (H : fX12_lie_32 k9 v2 s1 s0 h = some (r, h0)) : Jx skM RX12 cX12_lie 4 (some .int) 1 (some (.int r)) h0 32 [some (.ref 0), none, some (.int v2), none] [.int s1, .int s0] h := by
  unfold fX12_lie_32 at H
  refine j_iadd (pc := 32) dX12_lie_32 ?_
  obtain ⟨v1_16, ev1_16, H⟩ := nm_x H
  refine j_topi ev1_16 ?_
  refine j_istore_n (pc := 33) (L' := [some (.ref 0), some (.int v1_16), some (.int v2), none]) dX12_lie_33 (by decide) rfl ?_
  obtain ⟨v2_17, ev2_17, H⟩ := nm_x H
  refine j_iinc (pc := 34) (L' := [some (.ref 0), some (.int v1_16), some (.int v2_17), none]) (w := 1) dX12_lie_34 rfl (by decide) (by decide) v2_17 ev2_17 rfl ?_
  refine j_goto (pc := 37) (tgt := 9) dX12_lie_37 (by decide) ?_
  refine Jx.sub (L' := [some (.ref 0), some (.int v1_16), some (.int v2_17), none]) (⟨rfl, ⟨rfl, ⟨rfl, trivial⟩⟩⟩) ?_
  exact hk9 v1_16 v2_17 h H
noncomputable def fX12_lie_9 : Nat → Int32 → Int32 → HS → Option (Int32 × HS)
  | 0, _, _, _ => none
  | n + 1, v1, v2, h => if (gI h 0 0) ≤ v2 then (if v1 = 0 then (some ((-2 : Int32), h)) else (bd (fX12_draw v1 h) (fun r5 h4 => fX12_lie_55 FU r5 (0 : Int32) h4))) else (ck (inb v2 15) (if (gI h 4 v2.toNatClampNeg) ≤ 0 then (fX12_lie_32 (fX12_lie_9 n) v2 (0 : Int32) v1 h) else (fX12_lie_32 (fX12_lie_9 n) v2 (1 : Int32) v1 h)))
set_option maxRecDepth 100000 in
theorem jX12_lie_9 {r : Int32} {h0 : HS} : ∀ (n : Nat) (v1 : Int32) (v2 : Int32) (h : HS), fX12_lie_9 n v1 v2 h = some (r, h0) → Jx skM RX12 cX12_lie 4 (some .int) 1 (some (.int r)) h0 9 [some (.ref 0), some (.int v1), some (.int v2), none] [] h := by
  intro n
  induction n with
  | zero => intro v1 v2  h H; cases H
  | succ n ih =>
    intro v1 v2  h H
    rw [fX12_lie_9] at H
    refine j_iload_n (pc := 9) dX12_lie_9 rfl ?_
    refine j_aload_n (pc := 10) dX12_lie_10 rfl ?_
    refine j_getI (pc := 11) dX12_lie_11 flX12_139 rfl ?_
    refine j_icmp_ge (pc := 14) (tgt := 40) dX12_lie_14 (by decide) (fun c2 => ?_) (fun c2 => ?_)
    · rw [if_pos c2] at H
      refine j_iload_n (pc := 40) dX12_lie_40 rfl ?_
      refine j_if_ne (pc := 41) (tgt := 47) dX12_lie_41 (by decide) (fun c3 => ?_) (fun c3 => ?_)
      · rw [if_neg c3] at H
        refine j_aload_n (pc := 47) dX12_lie_47 rfl ?_
        refine j_iload_n (pc := 48) dX12_lie_48 rfl ?_
        obtain ⟨r5, h4, eh4, H⟩ := bd_x H
        refine j_callV (pc := 49) dX12_lie_49 mlX12_381 wyX12_draw (tX12_draw eh4) (by decide) rfl rfl rfl rfl (by simp [Value.category]) rfl ?_
        refine j_istore_n (pc := 52) (L' := [some (.ref 0), some (.int v1), some (.int r5), none]) dX12_lie_52 (by decide) rfl ?_
        refine j_iconst (pc := 53) (v := 0) dX12_lie_53 (by decide) ?_
        refine j_istore_n (pc := 54) (L' := [some (.ref 0), some (.int v1), some (.int r5), some (.int (0 : Int32))]) dX12_lie_54 (by decide) rfl ?_
        refine Jx.sub (L' := [some (.ref 0), none, some (.int r5), some (.int (0 : Int32))]) (⟨rfl, ⟨rfl, ⟨rfl, trivial⟩⟩⟩) ?_
        exact jX12_lie_55 FU r5 (0 : Int32) h4 H
      · rw [if_pos c3] at H
        refine j_bipush (pc := 44) (v := -2) dX12_lie_44 (by decide) ?_
        exact j_ireturn (pc := 46) dX12_lie_46 rfl (ri_1 H) (ri_2 H)
    · rw [if_neg c2] at H
      refine j_iload_n (pc := 17) dX12_lie_17 rfl ?_
      refine j_aload_n (pc := 18) dX12_lie_18 rfl ?_
      refine j_getR (pc := 19) (b := 4) dX12_lie_19 flX12_19 rfl ?_
      refine j_iload_n (pc := 22) dX12_lie_22 rfl ?_
      obtain ⟨b6, H⟩ := ck_x H
      refine j_iaload (pc := 23) dX12_lie_23 rfl b6 rfl ?_
      refine j_if_le (pc := 24) (tgt := 31) dX12_lie_24 (by decide) (fun c7 => ?_) (fun c7 => ?_)
      · rw [if_pos c7] at H
        refine j_iconst (pc := 31) (v := 0) dX12_lie_31 (by decide) ?_
        refine Jx.sub (L' := [some (.ref 0), none, some (.int v2), none]) (⟨rfl, ⟨rfl, trivial⟩⟩) ?_
        exact jX12_lie_32 _ ih v2 (0 : Int32) v1 h H
      · rw [if_neg c7] at H
        refine j_iconst (pc := 27) (v := 1) dX12_lie_27 (by decide) ?_
        refine j_goto (pc := 28) (tgt := 32) dX12_lie_28 (by decide) ?_
        refine Jx.sub (L' := [some (.ref 0), none, some (.int v2), none]) (⟨rfl, ⟨rfl, trivial⟩⟩) ?_
        exact jX12_lie_32 _ ih v2 (1 : Int32) v1 h H
noncomputable def fX12_lie (h : HS) : Option (Int32 × HS) := nm (pI h 0 22 (0 : Int32)) (fun h1 => fX12_lie_9 FU (0 : Int32) (0 : Int32) h1)
set_option maxRecDepth 100000 in
theorem tX12_lie {r : Int32} {h h0 : HS} (H : fX12_lie h = some (r, h0)) : Cn skM yX12_lie cX12_lie 4 (some .int) 1 [.ref 0] h (some (.int r)) h0 := by
  refine Cn_of (L := [some (.ref 0), none, none, none]) (by decide +kernel) (by simp [lg_sl, Value.category]) (fun ad => by simp [lg_sl, tv, Value.category]) (⟨rfl, trivial⟩) ?_
  unfold fX12_lie at H
  refine j_aload_n (pc := 0) dX12_lie_0 rfl ?_
  refine j_iconst (pc := 1) (v := 0) dX12_lie_1 (by decide) ?_
  obtain ⟨h1, eh1, H⟩ := nm_x H
  refine j_putI (pc := 2) dX12_lie_2 fpX12_133 rfl h1 eh1 ?_
  refine j_iconst (pc := 5) (v := 0) dX12_lie_5 (by decide) ?_
  refine j_istore_n (pc := 6) (L' := [some (.ref 0), some (.int (0 : Int32)), none, none]) dX12_lie_6 (by decide) rfl ?_
  refine j_iconst (pc := 7) (v := 0) dX12_lie_7 (by decide) ?_
  refine j_istore_n (pc := 8) (L' := [some (.ref 0), some (.int (0 : Int32)), some (.int (0 : Int32)), none]) dX12_lie_8 (by decide) rfl ?_
  refine Jx.sub (L' := [some (.ref 0), some (.int (0 : Int32)), some (.int (0 : Int32)), none]) (⟨rfl, ⟨rfl, ⟨rfl, trivial⟩⟩⟩) ?_
  exact jX12_lie_9 FU (0 : Int32) (0 : Int32) h1 H

noncomputable def fX12_count (p1 : Int32) (h : HS) : Option (Int32 × HS) := nm (pI h 0 22 (0 : Int32)) (fun h1 => if p1 = (0 : Int32) then (some ((gI h1 0 0), h1)) else (if p1 = (1 : Int32) then (some ((gI h1 0 11), h1)) else (if p1 = (2 : Int32) then (some ((gI h1 0 31), h1)) else (if p1 = (3 : Int32) then (some ((gI h1 0 39), h1)) else (if p1 = (4 : Int32) then (some ((gI h1 0 50), h1)) else (if p1 = (5 : Int32) then (some ((gI h1 0 53), h1)) else (if p1 = (6 : Int32) then (some ((gI h1 0 15), h1)) else (if p1 = (7 : Int32) then (some ((gI h1 0 16), h1)) else (if p1 = (8 : Int32) then (some ((gI h1 0 21), h1)) else (if p1 = (9 : Int32) then (some ((gI h1 0 19), h1)) else (some ((-1 : Int32), h1))))))))))))
set_option maxRecDepth 100000 in
theorem tX12_count {p1 : Int32} {r : Int32} {h h0 : HS} (H : fX12_count p1 h = some (r, h0)) : Cn skM yX12_count cX12_count 2 (some .int) 0 [.ref 0, .int p1] h (some (.int r)) h0 := by
  refine Cn_of (L := [some (.ref 0), some (.int p1)]) (by decide +kernel) (by simp [lg_sl, Value.category]) (fun ad => by simp [lg_sl, tv, Value.category]) (⟨rfl, ⟨rfl, trivial⟩⟩) ?_
  unfold fX12_count at H
  refine j_aload_n (pc := 0) dX12_count_0 rfl ?_
  refine j_iconst (pc := 1) (v := 0) dX12_count_1 (by decide) ?_
  obtain ⟨h1, eh1, H⟩ := nm_x H
  refine j_putI (pc := 2) dX12_count_2 fpX12_133 rfl h1 eh1 ?_
  refine j_iload_n (pc := 5) dX12_count_5 rfl ?_
  by_cases c2 : p1 = 0
  · rw [if_pos c2] at H
    refine j_tableIn (pc := 6) (tgt := 60) dX12_count_6 (by rw [c2]; decide) (by rw [c2]; decide) (by rw [c2]; rfl) (by decide) ?_
    refine j_aload_n (pc := 60) dX12_count_60 rfl ?_
    refine j_getI (pc := 61) dX12_count_61 flX12_139 rfl ?_
    exact j_ireturn (pc := 64) dX12_count_64 rfl (ri_1 H) (ri_2 H)
  · rw [if_neg c2] at H
    by_cases c3 : p1 = 1
    · rw [if_pos c3] at H
      refine j_tableIn (pc := 6) (tgt := 65) dX12_count_6 (by rw [c3]; decide) (by rw [c3]; decide) (by rw [c3]; rfl) (by decide) ?_
      refine j_aload_n (pc := 65) dX12_count_65 rfl ?_
      refine j_getI (pc := 66) dX12_count_66 flX12_181 rfl ?_
      exact j_ireturn (pc := 69) dX12_count_69 rfl (ri_1 H) (ri_2 H)
    · rw [if_neg c3] at H
      by_cases c4 : p1 = 2
      · rw [if_pos c4] at H
        refine j_tableIn (pc := 6) (tgt := 70) dX12_count_6 (by rw [c4]; decide) (by rw [c4]; decide) (by rw [c4]; rfl) (by decide) ?_
        refine j_aload_n (pc := 70) dX12_count_70 rfl ?_
        refine j_getI (pc := 71) dX12_count_71 flX12_272 rfl ?_
        exact j_ireturn (pc := 74) dX12_count_74 rfl (ri_1 H) (ri_2 H)
      · rw [if_neg c4] at H
        by_cases c5 : p1 = 3
        · rw [if_pos c5] at H
          refine j_tableIn (pc := 6) (tgt := 75) dX12_count_6 (by rw [c5]; decide) (by rw [c5]; decide) (by rw [c5]; rfl) (by decide) ?_
          refine j_aload_n (pc := 75) dX12_count_75 rfl ?_
          refine j_getI (pc := 76) dX12_count_76 flX12_304 rfl ?_
          exact j_ireturn (pc := 79) dX12_count_79 rfl (ri_1 H) (ri_2 H)
        · rw [if_neg c5] at H
          by_cases c6 : p1 = 4
          · rw [if_pos c6] at H
            refine j_tableIn (pc := 6) (tgt := 80) dX12_count_6 (by rw [c6]; decide) (by rw [c6]; decide) (by rw [c6]; rfl) (by decide) ?_
            refine j_aload_n (pc := 80) dX12_count_80 rfl ?_
            refine j_getI (pc := 81) dX12_count_81 flX12_345 rfl ?_
            exact j_ireturn (pc := 84) dX12_count_84 rfl (ri_1 H) (ri_2 H)
          · rw [if_neg c6] at H
            by_cases c7 : p1 = 5
            · rw [if_pos c7] at H
              refine j_tableIn (pc := 6) (tgt := 85) dX12_count_6 (by rw [c7]; decide) (by rw [c7]; decide) (by rw [c7]; rfl) (by decide) ?_
              refine j_aload_n (pc := 85) dX12_count_85 rfl ?_
              refine j_getI (pc := 86) dX12_count_86 flX12_351 rfl ?_
              exact j_ireturn (pc := 89) dX12_count_89 rfl (ri_1 H) (ri_2 H)
            · rw [if_neg c7] at H
              by_cases c8 : p1 = 6
              · rw [if_pos c8] at H
                refine j_tableIn (pc := 6) (tgt := 90) dX12_count_6 (by rw [c8]; decide) (by rw [c8]; decide) (by rw [c8]; rfl) (by decide) ?_
                refine j_aload_n (pc := 90) dX12_count_90 rfl ?_
                refine j_getI (pc := 91) dX12_count_91 flX12_368 rfl ?_
                exact j_ireturn (pc := 94) dX12_count_94 rfl (ri_1 H) (ri_2 H)
              · rw [if_neg c8] at H
                by_cases c9 : p1 = 7
                · rw [if_pos c9] at H
                  refine j_tableIn (pc := 6) (tgt := 95) dX12_count_6 (by rw [c9]; decide) (by rw [c9]; decide) (by rw [c9]; rfl) (by decide) ?_
                  refine j_aload_n (pc := 95) dX12_count_95 rfl ?_
                  refine j_getI (pc := 96) dX12_count_96 flX12_262 rfl ?_
                  exact j_ireturn (pc := 99) dX12_count_99 rfl (ri_1 H) (ri_2 H)
                · rw [if_neg c9] at H
                  by_cases c10 : p1 = 8
                  · rw [if_pos c10] at H
                    refine j_tableIn (pc := 6) (tgt := 100) dX12_count_6 (by rw [c10]; decide) (by rw [c10]; decide) (by rw [c10]; rfl) (by decide) ?_
                    refine j_aload_n (pc := 100) dX12_count_100 rfl ?_
                    refine j_getI (pc := 101) dX12_count_101 flX12_136 rfl ?_
                    exact j_ireturn (pc := 104) dX12_count_104 rfl (ri_1 H) (ri_2 H)
                  · rw [if_neg c10] at H
                    by_cases c11 : p1 = 9
                    · rw [if_pos c11] at H
                      refine j_tableIn (pc := 6) (tgt := 105) dX12_count_6 (by rw [c11]; decide) (by rw [c11]; decide) (by rw [c11]; rfl) (by decide) ?_
                      refine j_aload_n (pc := 105) dX12_count_105 rfl ?_
                      refine j_getI (pc := 106) dX12_count_106 flX12_214 rfl ?_
                      exact j_ireturn (pc := 109) dX12_count_109 rfl (ri_1 H) (ri_2 H)
                    · rw [if_neg c11] at H
                      refine j_tableOut (pc := 6) (tgt := 110) dX12_count_6 (tb_out (fun k k1 k2 => ?_)) (by decide) ?_
                      · have hk : k = 0 ∨ k = 1 ∨ k = 2 ∨ k = 3 ∨ k = 4 ∨ k = 5 ∨ k = 6 ∨ k = 7 ∨ k = 8 ∨ k = 9 := by omega
                        rcases hk with rfl | rfl | rfl | rfl | rfl | rfl | rfl | rfl | rfl | rfl
                        · exact c2
                        · exact c3
                        · exact c4
                        · exact c5
                        · exact c6
                        · exact c7
                        · exact c8
                        · exact c9
                        · exact c10
                        · exact c11
                      · refine j_iconst (pc := 110) (v := -1) dX12_count_110 (by decide) ?_
                        exact j_ireturn (pc := 111) dX12_count_111 rfl (ri_1 H) (ri_2 H)

noncomputable def fX12_row (p1 : Int32) (h : HS) : Option (Int32 × HS) := nm (pI h 0 22 (0 : Int32)) (fun h1 => bd (fX12_in p1 (0 : Int32) (((gI h1 0 21) - (1 : Int32))) h1) (fun r3 h2 => if r3 = 0 then (bd (fX12_lost h2) (fun r6 h5 => some (r6, h5))) else (ck (inb p1 24) (some ((gI h2 10 p1.toNatClampNeg), h2)))))
set_option maxRecDepth 100000 in
theorem tX12_row {p1 : Int32} {r : Int32} {h h0 : HS} (H : fX12_row p1 h = some (r, h0)) : Cn skM yX12_row cX12_row 2 (some .int) 1 [.ref 0, .int p1] h (some (.int r)) h0 := by
  refine Cn_of (L := [some (.ref 0), some (.int p1)]) (by decide +kernel) (by simp [lg_sl, Value.category]) (fun ad => by simp [lg_sl, tv, Value.category]) (⟨rfl, ⟨rfl, trivial⟩⟩) ?_
  unfold fX12_row at H
  refine j_aload_n (pc := 0) dX12_row_0 rfl ?_
  refine j_iconst (pc := 1) (v := 0) dX12_row_1 (by decide) ?_
  obtain ⟨h1, eh1, H⟩ := nm_x H
  refine j_putI (pc := 2) dX12_row_2 fpX12_133 rfl h1 eh1 ?_
  refine j_iload_n (pc := 5) dX12_row_5 rfl ?_
  refine j_iconst (pc := 6) (v := 0) dX12_row_6 (by decide) ?_
  refine j_aload_n (pc := 7) dX12_row_7 rfl ?_
  refine j_getI (pc := 8) dX12_row_8 flX12_136 rfl ?_
  refine j_iconst (pc := 11) (v := 1) dX12_row_11 (by decide) ?_
  refine j_isub (pc := 12) dX12_row_12 ?_
  obtain ⟨r3, h2, eh2, H⟩ := bd_x H
  refine j_callS (pc := 13) dX12_row_13 mlX12_142 wyX12_in (tX12_in eh2) (by decide) rfl (by simp [Value.category]) rfl ?_
  refine j_if_eq (pc := 16) (tgt := 28) dX12_row_16 (by decide) (fun c4 => ?_) (fun c4 => ?_)
  · rw [if_pos c4] at H
    refine j_aload_n (pc := 28) dX12_row_28 rfl ?_
    obtain ⟨r6, h5, eh5, H⟩ := bd_x H
    refine j_callV (pc := 29) dX12_row_29 mlX12_184 wyX12_lost (tX12_lost eh5) (by decide) rfl rfl rfl rfl (by simp [Value.category]) rfl ?_
    exact j_ireturn (pc := 32) dX12_row_32 rfl (ri_1 H) (ri_2 H)
  · rw [if_neg c4] at H
    refine j_aload_n (pc := 19) dX12_row_19 rfl ?_
    refine j_getR (pc := 20) (b := 10) dX12_row_20 flX12_45 rfl ?_
    refine j_iload_n (pc := 23) dX12_row_23 rfl ?_
    obtain ⟨b7, H⟩ := ck_x H
    refine j_iaload (pc := 24) dX12_row_24 rfl b7 rfl ?_
    refine j_goto (pc := 25) (tgt := 32) dX12_row_25 (by decide) ?_
    exact j_ireturn (pc := 32) dX12_row_32 rfl (ri_1 H) (ri_2 H)
