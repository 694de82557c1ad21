theorem dX9_readOther_0 : decode cX9_readOther 0 = .ok (.aload_n 0, 1) := by decide +kernel
theorem dX9_readOther_1 : decode cX9_readOther 1 = .ok (.getfield 12, 3) := by decide +kernel
theorem dX9_readOther_4 : decode cX9_readOther 4 = .ok (.bipush 45, 2) := by decide +kernel
theorem dX9_readOther_6 : decode cX9_readOther 6 = .ok (.invokevirtual 95, 3) := by decide +kernel
theorem dX9_readOther_9 : decode cX9_readOther 9 = .ok (.aload_n 0, 1) := by decide +kernel
theorem dX9_readOther_10 : decode cX9_readOther 10 = .ok (.getfield 12, 3) := by decide +kernel
theorem dX9_readOther_13 : decode cX9_readOther 13 = .ok (.aload_n 0, 1) := by decide +kernel
theorem dX9_readOther_14 : decode cX9_readOther 14 = .ok (.getfield 49, 3) := by decide +kernel
theorem dX9_readOther_17 : decode cX9_readOther 17 = .ok (.getfield 86, 3) := by decide +kernel
theorem dX9_readOther_20 : decode cX9_readOther 20 = .ok (.invokevirtual 89, 3) := by decide +kernel
theorem dX9_readOther_23 : decode cX9_readOther 23 = .ok (.istore_n 2, 1) := by decide +kernel
theorem dX9_readOther_24 : decode cX9_readOther 24 = .ok (.iload_n 2, 1) := by decide +kernel
theorem dX9_readOther_25 : decode cX9_readOther 25 = .ok (.iload_n 1, 1) := by decide +kernel
theorem dX9_readOther_26 : decode cX9_readOther 26 = .ok (.if_icmp .ne 19, 3) := by decide +kernel
theorem dX9_readOther_29 : decode cX9_readOther 29 = .ok (.aload_n 0, 1) := by decide +kernel
theorem dX9_readOther_30 : decode cX9_readOther 30 = .ok (.getfield 12, 3) := by decide +kernel
theorem dX9_readOther_33 : decode cX9_readOther 33 = .ok (.aload_n 0, 1) := by decide +kernel
theorem dX9_readOther_34 : decode cX9_readOther 34 = .ok (.getfield 12, 3) := by decide +kernel
theorem dX9_readOther_37 : decode cX9_readOther 37 = .ok (.getfield 79, 3) := by decide +kernel
theorem dX9_readOther_40 : decode cX9_readOther 40 = .ok (.iconst 1, 1) := by decide +kernel
theorem dX9_readOther_41 : decode cX9_readOther 41 = .ok (.isub, 1) := by decide +kernel
theorem dX9_readOther_42 : decode cX9_readOther 42 = .ok (.invokevirtual 82, 3) := by decide +kernel
theorem dX9_readOther_45 : decode cX9_readOther 45 = .ok (.iload_n 2, 1) := by decide +kernel
theorem dX9_readOther_46 : decode cX9_readOther 46 = .ok (.ireturn, 1) := by decide +kernel
theorem dX9_addTo_0 : decode cX9_addTo 0 = .ok (.aload_n 0, 1) := by decide +kernel
theorem dX9_addTo_1 : decode cX9_addTo 1 = .ok (.getfield 49, 3) := by decide +kernel
theorem dX9_addTo_4 : decode cX9_addTo 4 = .ok (.iload_n 2, 1) := by decide +kernel
theorem dX9_addTo_5 : decode cX9_addTo 5 = .ok (.invokevirtual 104, 3) := by decide +kernel
theorem dX9_addTo_8 : decode cX9_addTo 8 = .ok (.ifCond .eq 44, 3) := by decide +kernel
theorem dX9_addTo_11 : decode cX9_addTo 11 = .ok (.aload_n 1, 1) := by decide +kernel
theorem dX9_addTo_12 : decode cX9_addTo 12 = .ok (.iconst 0, 1) := by decide +kernel
theorem dX9_addTo_13 : decode cX9_addTo 13 = .ok (.dup2, 1) := by decide +kernel
theorem dX9_addTo_14 : decode cX9_addTo 14 = .ok (.iaload, 1) := by decide +kernel
theorem dX9_addTo_15 : decode cX9_addTo 15 = .ok (.iload_n 3, 1) := by decide +kernel
theorem dX9_addTo_16 : decode cX9_addTo 16 = .ok (.iadd, 1) := by decide +kernel
theorem dX9_addTo_17 : decode cX9_addTo 17 = .ok (.iastore, 1) := by decide +kernel
theorem dX9_addTo_18 : decode cX9_addTo 18 = .ok (.aload_n 1, 1) := by decide +kernel
theorem dX9_addTo_19 : decode cX9_addTo 19 = .ok (.iconst 1, 1) := by decide +kernel
theorem dX9_addTo_20 : decode cX9_addTo 20 = .ok (.dup2, 1) := by decide +kernel
theorem dX9_addTo_21 : decode cX9_addTo 21 = .ok (.iaload, 1) := by decide +kernel
theorem dX9_addTo_22 : decode cX9_addTo 22 = .ok (.aload_n 0, 1) := by decide +kernel
theorem dX9_addTo_23 : decode cX9_addTo 23 = .ok (.getfield 49, 3) := by decide +kernel
theorem dX9_addTo_26 : decode cX9_addTo 26 = .ok (.getfield 107, 3) := by decide +kernel
theorem dX9_addTo_29 : decode cX9_addTo 29 = .ok (.iload_n 2, 1) := by decide +kernel
theorem dX9_addTo_30 : decode cX9_addTo 30 = .ok (.iaload, 1) := by decide +kernel
theorem dX9_addTo_31 : decode cX9_addTo 31 = .ok (.iload_n 3, 1) := by decide +kernel
theorem dX9_addTo_32 : decode cX9_addTo 32 = .ok (.imul, 1) := by decide +kernel
theorem dX9_addTo_33 : decode cX9_addTo 33 = .ok (.iadd, 1) := by decide +kernel
theorem dX9_addTo_34 : decode cX9_addTo 34 = .ok (.iastore, 1) := by decide +kernel
theorem dX9_addTo_35 : decode cX9_addTo 35 = .ok (.aload_n 1, 1) := by decide +kernel
theorem dX9_addTo_36 : decode cX9_addTo 36 = .ok (.iconst 2, 1) := by decide +kernel
theorem dX9_addTo_37 : decode cX9_addTo 37 = .ok (.dup2, 1) := by decide +kernel
theorem dX9_addTo_38 : decode cX9_addTo 38 = .ok (.iaload, 1) := by decide +kernel
theorem dX9_addTo_39 : decode cX9_addTo 39 = .ok (.aload_n 0, 1) := by decide +kernel
theorem dX9_addTo_40 : decode cX9_addTo 40 = .ok (.getfield 49, 3) := by decide +kernel
theorem dX9_addTo_43 : decode cX9_addTo 43 = .ok (.getfield 110, 3) := by decide +kernel
theorem dX9_addTo_46 : decode cX9_addTo 46 = .ok (.iload_n 2, 1) := by decide +kernel
theorem dX9_addTo_47 : decode cX9_addTo 47 = .ok (.iaload, 1) := by decide +kernel
theorem dX9_addTo_48 : decode cX9_addTo 48 = .ok (.iload_n 3, 1) := by decide +kernel
theorem dX9_addTo_49 : decode cX9_addTo 49 = .ok (.imul, 1) := by decide +kernel
theorem dX9_addTo_50 : decode cX9_addTo 50 = .ok (.iadd, 1) := by decide +kernel
theorem dX9_addTo_51 : decode cX9_addTo 51 = .ok (.iastore, 1) := by decide +kernel
theorem dX9_addTo_52 : decode cX9_addTo 52 = .ok (.return_, 1) := by decide +kernel
theorem dX9_readTerm_0 : decode cX9_readTerm 0 = .ok (.aload_n 0, 1) := by decide +kernel
theorem dX9_readTerm_1 : decode cX9_readTerm 1 = .ok (.getfield 12, 3) := by decide +kernel
theorem dX9_readTerm_4 : decode cX9_readTerm 4 = .ok (.invokevirtual 75, 3) := by decide +kernel
theorem dX9_readTerm_7 : decode cX9_readTerm 7 = .ok (.istore_n 1, 1) := by decide +kernel
theorem dX9_readTerm_8 : decode cX9_readTerm 8 = .ok (.iload_n 1, 1) := by decide +kernel
theorem dX9_readTerm_9 : decode cX9_readTerm 9 = .ok (.bipush 108, 2) := by decide +kernel
theorem dX9_readTerm_11 : decode cX9_readTerm 11 = .ok (.if_icmp .eq 30, 3) := by decide +kernel
theorem dX9_readTerm_14 : decode cX9_readTerm 14 = .ok (.iload_n 1, 1) := by decide +kernel
theorem dX9_readTerm_15 : decode cX9_readTerm 15 = .ok (.bipush 118, 2) := by decide +kernel
theorem dX9_readTerm_17 : decode cX9_readTerm 17 = .ok (.if_icmp .eq 24, 3) := by decide +kernel
theorem dX9_readTerm_20 : decode cX9_readTerm 20 = .ok (.iload_n 1, 1) := by decide +kernel
theorem dX9_readTerm_21 : decode cX9_readTerm 21 = .ok (.bipush 98, 2) := by decide +kernel
theorem dX9_readTerm_23 : decode cX9_readTerm 23 = .ok (.if_icmp .eq 18, 3) := by decide +kernel
theorem dX9_readTerm_26 : decode cX9_readTerm 26 = .ok (.aload_n 0, 1) := by decide +kernel
theorem dX9_readTerm_27 : decode cX9_readTerm 27 = .ok (.getfield 12, 3) := by decide +kernel
theorem dX9_readTerm_30 : decode cX9_readTerm 30 = .ok (.aload_n 0, 1) := by decide +kernel
theorem dX9_readTerm_31 : decode cX9_readTerm 31 = .ok (.getfield 12, 3) := by decide +kernel
theorem dX9_readTerm_34 : decode cX9_readTerm 34 = .ok (.getfield 79, 3) := by decide +kernel
theorem dX9_readTerm_37 : decode cX9_readTerm 37 = .ok (.invokevirtual 82, 3) := by decide +kernel
theorem dX9_readTerm_40 : decode cX9_readTerm 40 = .ok (.return_, 1) := by decide +kernel
theorem dX9_readTerm_41 : decode cX9_readTerm 41 = .ok (.aload_n 0, 1) := by decide +kernel
theorem dX9_readTerm_42 : decode cX9_readTerm 42 = .ok (.getfield 12, 3) := by decide +kernel
theorem dX9_readTerm_45 : decode cX9_readTerm 45 = .ok (.dup, 1) := by decide +kernel
theorem dX9_readTerm_46 : decode cX9_readTerm 46 = .ok (.getfield 79, 3) := by decide +kernel
theorem dX9_readTerm_49 : decode cX9_readTerm 49 = .ok (.iconst 1, 1) := by decide +kernel
theorem dX9_readTerm_50 : decode cX9_readTerm 50 = .ok (.iadd, 1) := by decide +kernel
theorem dX9_readTerm_51 : decode cX9_readTerm 51 = .ok (.putfield 79, 3) := by decide +kernel
theorem dX9_readTerm_54 : decode cX9_readTerm 54 = .ok (.aload_n 0, 1) := by decide +kernel
theorem dX9_readTerm_55 : decode cX9_readTerm 55 = .ok (.getfield 12, 3) := by decide +kernel
theorem dX9_readTerm_58 : decode cX9_readTerm 58 = .ok (.aload_n 0, 1) := by decide +kernel
theorem dX9_readTerm_59 : decode cX9_readTerm 59 = .ok (.getfield 49, 3) := by decide +kernel
theorem dX9_readTerm_62 : decode cX9_readTerm 62 = .ok (.getfield 86, 3) := by decide +kernel
theorem dX9_readTerm_65 : decode cX9_readTerm 65 = .ok (.invokevirtual 89, 3) := by decide +kernel
theorem dX9_readTerm_68 : decode cX9_readTerm 68 = .ok (.istore_n 2, 1) := by decide +kernel
theorem dX9_readTerm_69 : decode cX9_readTerm 69 = .ok (.iload_n 1, 1) := by decide +kernel
theorem dX9_readTerm_70 : decode cX9_readTerm 70 = .ok (.bipush 118, 2) := by decide +kernel
theorem dX9_readTerm_72 : decode cX9_readTerm 72 = .ok (.if_icmp .ne 11, 3) := by decide +kernel
theorem dX9_readTerm_75 : decode cX9_readTerm 75 = .ok (.aload_n 0, 1) := by decide +kernel
theorem dX9_readTerm_76 : decode cX9_readTerm 76 = .ok (.iload_n 2, 1) := by decide +kernel
theorem dX9_readTerm_77 : decode cX9_readTerm 77 = .ok (.invokevirtual 92, 3) := by decide +kernel
theorem dX9_readTerm_80 : decode cX9_readTerm 80 = .ok (.goto 4, 3) := by decide +kernel
theorem dX9_readTerm_83 : decode cX9_readTerm 83 = .ok (.iconst (-1), 1) := by decide +kernel
theorem dX9_readTerm_84 : decode cX9_readTerm 84 = .ok (.istore_n 3, 1) := by decide +kernel
theorem dX9_readTerm_85 : decode cX9_readTerm 85 = .ok (.aload_n 0, 1) := by decide +kernel
theorem dX9_readTerm_86 : decode cX9_readTerm 86 = .ok (.getfield 12, 3) := by decide +kernel
theorem dX9_readTerm_89 : decode cX9_readTerm 89 = .ok (.bipush 44, 2) := by decide +kernel
theorem dX9_readTerm_91 : decode cX9_readTerm 91 = .ok (.invokevirtual 95, 3) := by decide +kernel
theorem dX9_readTerm_94 : decode cX9_readTerm 94 = .ok (.iload_n 1, 1) := by decide +kernel
theorem dX9_readTerm_95 : decode cX9_readTerm 95 = .ok (.bipush 98, 2) := by decide +kernel
theorem dX9_readTerm_97 : decode cX9_readTerm 97 = .ok (.if_icmp .ne 19, 3) := by decide +kernel
theorem dX9_readTerm_100 : decode cX9_readTerm 100 = .ok (.aload_n 0, 1) := by decide +kernel
theorem dX9_readTerm_101 : decode cX9_readTerm 101 = .ok (.getfield 12, 3) := by decide +kernel
theorem dX9_readTerm_104 : decode cX9_readTerm 104 = .ok (.bipush 45, 2) := by decide +kernel
theorem dX9_readTerm_106 : decode cX9_readTerm 106 = .ok (.invokevirtual 67, 3) := by decide +kernel
theorem dX9_readTerm_109 : decode cX9_readTerm 109 = .ok (.ifCond .eq 7, 3) := by decide +kernel
theorem dX9_readTerm_112 : decode cX9_readTerm 112 = .ok (.iconst (-1), 1) := by decide +kernel
theorem dX9_readTerm_113 : decode cX9_readTerm 113 = .ok (.goto 4, 3) := by decide +kernel
theorem dX9_readTerm_116 : decode cX9_readTerm 116 = .ok (.iconst 1, 1) := by decide +kernel
theorem dX9_readTerm_117 : decode cX9_readTerm 117 = .ok (.istore 4, 2) := by decide +kernel
theorem dX9_readTerm_119 : decode cX9_readTerm 119 = .ok (.iload 4, 2) := by decide +kernel
theorem dX9_readTerm_121 : decode cX9_readTerm 121 = .ok (.aload_n 0, 1) := by decide +kernel
theorem dX9_readTerm_122 : decode cX9_readTerm 122 = .ok (.getfield 12, 3) := by decide +kernel
theorem dX9_readTerm_125 : decode cX9_readTerm 125 = .ok (.iconst 3, 1) := by decide +kernel
theorem dX9_readTerm_126 : decode cX9_readTerm 126 = .ok (.invokevirtual 98, 3) := by decide +kernel
theorem dX9_readTerm_129 : decode cX9_readTerm 129 = .ok (.imul, 1) := by decide +kernel
theorem dX9_readTerm_130 : decode cX9_readTerm 130 = .ok (.istore 5, 2) := by decide +kernel
theorem dX9_readTerm_132 : decode cX9_readTerm 132 = .ok (.iload_n 1, 1) := by decide +kernel
theorem dX9_readTerm_133 : decode cX9_readTerm 133 = .ok (.bipush 98, 2) := by decide +kernel
theorem dX9_readTerm_135 : decode cX9_readTerm 135 = .ok (.if_icmp .ne 22, 3) := by decide +kernel
theorem dX9_readTerm_138 : decode cX9_readTerm 138 = .ok (.aload_n 0, 1) := by decide +kernel
theorem dX9_readTerm_139 : decode cX9_readTerm 139 = .ok (.aload_n 0, 1) := by decide +kernel
theorem dX9_readTerm_140 : decode cX9_readTerm 140 = .ok (.getfield 20, 3) := by decide +kernel
theorem dX9_readTerm_143 : decode cX9_readTerm 143 = .ok (.aload_n 0, 1) := by decide +kernel
theorem dX9_readTerm_144 : decode cX9_readTerm 144 = .ok (.getfield 50, 3) := by decide +kernel
theorem dX9_readTerm_147 : decode cX9_readTerm 147 = .ok (.aaload, 1) := by decide +kernel
theorem dX9_readTerm_148 : decode cX9_readTerm 148 = .ok (.iload_n 2, 1) := by decide +kernel
theorem dX9_readTerm_149 : decode cX9_readTerm 149 = .ok (.iload 5, 2) := by decide +kernel
theorem dX9_readTerm_151 : decode cX9_readTerm 151 = .ok (.invokevirtual 101, 3) := by decide +kernel
theorem dX9_readTerm_154 : decode cX9_readTerm 154 = .ok (.goto 47, 3) := by decide +kernel
theorem dX9_readTerm_157 : decode cX9_readTerm 157 = .ok (.aload_n 0, 1) := by decide +kernel
theorem dX9_readTerm_158 : decode cX9_readTerm 158 = .ok (.aload_n 0, 1) := by decide +kernel
theorem dX9_readTerm_159 : decode cX9_readTerm 159 = .ok (.getfield 23, 3) := by decide +kernel
theorem dX9_readTerm_162 : decode cX9_readTerm 162 = .ok (.aload_n 0, 1) := by decide +kernel
theorem dX9_readTerm_163 : decode cX9_readTerm 163 = .ok (.getfield 50, 3) := by decide +kernel
theorem dX9_readTerm_166 : decode cX9_readTerm 166 = .ok (.aaload, 1) := by decide +kernel
theorem dX9_readTerm_167 : decode cX9_readTerm 167 = .ok (.iload_n 2, 1) := by decide +kernel
theorem dX9_readTerm_168 : decode cX9_readTerm 168 = .ok (.iload_n 1, 1) := by decide +kernel
theorem dX9_readTerm_169 : decode cX9_readTerm 169 = .ok (.bipush 118, 2) := by decide +kernel
theorem dX9_readTerm_171 : decode cX9_readTerm 171 = .ok (.if_icmp .ne 9, 3) := by decide +kernel
theorem dX9_readTerm_174 : decode cX9_readTerm 174 = .ok (.iload 5, 2) := by decide +kernel
theorem dX9_readTerm_176 : decode cX9_readTerm 176 = .ok (.ineg, 1) := by decide +kernel
theorem dX9_readTerm_177 : decode cX9_readTerm 177 = .ok (.goto 5, 3) := by decide +kernel
theorem dX9_readTerm_180 : decode cX9_readTerm 180 = .ok (.iload 5, 2) := by decide +kernel
theorem dX9_readTerm_182 : decode cX9_readTerm 182 = .ok (.invokevirtual 101, 3) := by decide +kernel
theorem dX9_readTerm_185 : decode cX9_readTerm 185 = .ok (.aload_n 0, 1) := by decide +kernel
theorem dX9_readTerm_186 : decode cX9_readTerm 186 = .ok (.aload_n 0, 1) := by decide +kernel
theorem dX9_readTerm_187 : decode cX9_readTerm 187 = .ok (.getfield 23, 3) := by decide +kernel
theorem dX9_readTerm_190 : decode cX9_readTerm 190 = .ok (.aload_n 0, 1) := by decide +kernel
theorem dX9_readTerm_191 : decode cX9_readTerm 191 = .ok (.getfield 50, 3) := by decide +kernel
theorem dX9_readTerm_194 : decode cX9_readTerm 194 = .ok (.aaload, 1) := by decide +kernel
theorem dX9_readTerm_195 : decode cX9_readTerm 195 = .ok (.iload_n 3, 1) := by decide +kernel
theorem dX9_readTerm_196 : decode cX9_readTerm 196 = .ok (.iload 5, 2) := by decide +kernel
theorem dX9_readTerm_198 : decode cX9_readTerm 198 = .ok (.invokevirtual 101, 3) := by decide +kernel
theorem dX9_readTerm_201 : decode cX9_readTerm 201 = .ok (.return_, 1) := by decide +kernel
theorem dX9_read_0 : decode cX9_read 0 = .ok (.iconst 0, 1) := by decide +kernel
theorem dX9_read_1 : decode cX9_read 1 = .ok (.istore_n 3, 1) := by decide +kernel
theorem dX9_read_2 : decode cX9_read 2 = .ok (.iload_n 3, 1) := by decide +kernel
theorem dX9_read_3 : decode cX9_read 3 = .ok (.iconst 2, 1) := by decide +kernel
theorem dX9_read_4 : decode cX9_read 4 = .ok (.if_icmp .gt 33, 3) := by decide +kernel
theorem dX9_read_7 : decode cX9_read 7 = .ok (.aload_n 0, 1) := by decide +kernel
theorem dX9_read_8 : decode cX9_read 8 = .ok (.getfield 20, 3) := by decide +kernel
theorem dX9_read_11 : decode cX9_read 11 = .ok (.aload_n 0, 1) := by decide +kernel
theorem dX9_read_12 : decode cX9_read 12 = .ok (.getfield 50, 3) := by decide +kernel
theorem dX9_read_15 : decode cX9_read 15 = .ok (.aaload, 1) := by decide +kernel
theorem dX9_read_16 : decode cX9_read 16 = .ok (.iload_n 3, 1) := by decide +kernel
theorem dX9_read_17 : decode cX9_read 17 = .ok (.iconst 0, 1) := by decide +kernel
theorem dX9_read_18 : decode cX9_read 18 = .ok (.iastore, 1) := by decide +kernel
theorem dX9_read_19 : decode cX9_read 19 = .ok (.aload_n 0, 1) := by decide +kernel
theorem dX9_read_20 : decode cX9_read 20 = .ok (.getfield 23, 3) := by decide +kernel
theorem dX9_read_23 : decode cX9_read 23 = .ok (.aload_n 0, 1) := by decide +kernel
theorem dX9_read_24 : decode cX9_read 24 = .ok (.getfield 50, 3) := by decide +kernel
theorem dX9_read_27 : decode cX9_read 27 = .ok (.aaload, 1) := by decide +kernel
theorem dX9_read_28 : decode cX9_read 28 = .ok (.iload_n 3, 1) := by decide +kernel
theorem dX9_read_29 : decode cX9_read 29 = .ok (.iconst 0, 1) := by decide +kernel
theorem dX9_read_30 : decode cX9_read 30 = .ok (.iastore, 1) := by decide +kernel
theorem dX9_read_31 : decode cX9_read 31 = .ok (.iinc 3 1, 3) := by decide +kernel
theorem dX9_read_34 : decode cX9_read 34 = .ok (.goto (-32), 3) := by decide +kernel
theorem dX9_read_37 : decode cX9_read 37 = .ok (.aload_n 0, 1) := by decide +kernel
theorem dX9_read_38 : decode cX9_read 38 = .ok (.getfield 12, 3) := by decide +kernel
theorem dX9_read_41 : decode cX9_read 41 = .ok (.aload_n 1, 1) := by decide +kernel
theorem dX9_read_42 : decode cX9_read 42 = .ok (.iconst 0, 1) := by decide +kernel
theorem dX9_read_43 : decode cX9_read 43 = .ok (.iload_n 2, 1) := by decide +kernel
theorem dX9_read_44 : decode cX9_read 44 = .ok (.bipush 30, 2) := by decide +kernel
theorem dX9_read_46 : decode cX9_read 46 = .ok (.invokestatic 54, 3) := by decide +kernel
theorem dX9_read_49 : decode cX9_read 49 = .ok (.invokevirtual 60, 3) := by decide +kernel
theorem dX9_read_52 : decode cX9_read 52 = .ok (.iload_n 2, 1) := by decide +kernel
theorem dX9_read_53 : decode cX9_read 53 = .ok (.ifCond .le 7, 3) := by decide +kernel
theorem dX9_read_56 : decode cX9_read 56 = .ok (.aload_n 0, 1) := by decide +kernel
theorem dX9_read_57 : decode cX9_read 57 = .ok (.invokevirtual 64, 3) := by decide +kernel
theorem dX9_read_60 : decode cX9_read 60 = .ok (.iconst 0, 1) := by decide +kernel
theorem dX9_read_61 : decode cX9_read 61 = .ok (.istore_n 3, 1) := by decide +kernel
theorem dX9_read_62 : decode cX9_read 62 = .ok (.iload_n 3, 1) := by decide +kernel
theorem dX9_read_63 : decode cX9_read 63 = .ok (.bipush 30, 2) := by decide +kernel
theorem dX9_read_65 : decode cX9_read 65 = .ok (.if_icmp .ge 25, 3) := by decide +kernel
theorem dX9_read_68 : decode cX9_read 68 = .ok (.aload_n 0, 1) := by decide +kernel
theorem dX9_read_69 : decode cX9_read 69 = .ok (.getfield 12, 3) := by decide +kernel
theorem dX9_read_72 : decode cX9_read 72 = .ok (.bipush 59, 2) := by decide +kernel
theorem dX9_read_74 : decode cX9_read 74 = .ok (.invokevirtual 67, 3) := by decide +kernel
theorem dX9_read_77 : decode cX9_read 77 = .ok (.ifCond .eq 13, 3) := by decide +kernel
theorem dX9_read_80 : decode cX9_read 80 = .ok (.aload_n 0, 1) := by decide +kernel
theorem dX9_read_81 : decode cX9_read 81 = .ok (.invokevirtual 64, 3) := by decide +kernel
theorem dX9_read_84 : decode cX9_read 84 = .ok (.iinc 3 1, 3) := by decide +kernel
theorem dX9_read_87 : decode cX9_read 87 = .ok (.goto (-25), 3) := by decide +kernel
theorem dX9_read_90 : decode cX9_read 90 = .ok (.aload_n 0, 1) := by decide +kernel
theorem dX9_read_91 : decode cX9_read 91 = .ok (.getfield 12, 3) := by decide +kernel
theorem dX9_read_94 : decode cX9_read 94 = .ok (.iload_n 2, 1) := by decide +kernel
theorem dX9_read_95 : decode cX9_read 95 = .ok (.invokevirtual 71, 3) := by decide +kernel
theorem dX9_read_98 : decode cX9_read 98 = .ok (.istore_n 3, 1) := by decide +kernel
theorem dX9_read_99 : decode cX9_read 99 = .ok (.aload_n 0, 1) := by decide +kernel
theorem dX9_read_100 : decode cX9_read 100 = .ok (.dup, 1) := by decide +kernel
theorem dX9_read_101 : decode cX9_read 101 = .ok (.getfield 50, 3) := by decide +kernel
theorem dX9_read_104 : decode cX9_read 104 = .ok (.iload_n 3, 1) := by decide +kernel
theorem dX9_read_105 : decode cX9_read 105 = .ok (.iconst (-1), 1) := by decide +kernel
theorem dX9_read_106 : decode cX9_read 106 = .ok (.if_icmp .ne 7, 3) := by decide +kernel
theorem dX9_read_109 : decode cX9_read 109 = .ok (.iconst 1, 1) := by decide +kernel
theorem dX9_read_110 : decode cX9_read 110 = .ok (.goto 4, 3) := by decide +kernel
theorem dX9_read_113 : decode cX9_read 113 = .ok (.iconst 0, 1) := by decide +kernel
theorem dX9_read_114 : decode cX9_read 114 = .ok (.iadd, 1) := by decide +kernel
theorem dX9_read_115 : decode cX9_read 115 = .ok (.putfield 50, 3) := by decide +kernel
theorem dX9_read_118 : decode cX9_read 118 = .ok (.iload_n 3, 1) := by decide +kernel
theorem dX9_read_119 : decode cX9_read 119 = .ok (.ireturn, 1) := by decide +kernel
theorem dX9_addGauge_0 : decode cX9_addGauge 0 = .ok (.aload_n 0, 1) := by decide +kernel
theorem dX9_addGauge_1 : decode cX9_addGauge 1 = .ok (.getfield 113, 3) := by decide +kernel
theorem dX9_addGauge_4 : decode cX9_addGauge 4 = .ok (.bipush 12, 2) := by decide +kernel
theorem dX9_addGauge_6 : decode cX9_addGauge 6 = .ok (.if_icmp .lt 5, 3) := by decide +kernel
theorem dX9_addGauge_9 : decode cX9_addGauge 9 = .ok (.iconst (-1), 1) := by decide +kernel
theorem dX9_addGauge_10 : decode cX9_addGauge 10 = .ok (.ireturn, 1) := by decide +kernel
theorem dX9_addGauge_11 : decode cX9_addGauge 11 = .ok (.aload_n 0, 1) := by decide +kernel
theorem dX9_addGauge_12 : decode cX9_addGauge 12 = .ok (.getfield 26, 3) := by decide +kernel
theorem dX9_addGauge_15 : decode cX9_addGauge 15 = .ok (.aload_n 0, 1) := by decide +kernel
theorem dX9_addGauge_16 : decode cX9_addGauge 16 = .ok (.getfield 113, 3) := by decide +kernel
theorem dX9_addGauge_19 : decode cX9_addGauge 19 = .ok (.iload_n 1, 1) := by decide +kernel
theorem dX9_addGauge_20 : decode cX9_addGauge 20 = .ok (.iastore, 1) := by decide +kernel
theorem dX9_addGauge_21 : decode cX9_addGauge 21 = .ok (.aload_n 0, 1) := by decide +kernel
theorem dX9_addGauge_22 : decode cX9_addGauge 22 = .ok (.getfield 30, 3) := by decide +kernel
theorem dX9_addGauge_25 : decode cX9_addGauge 25 = .ok (.aload_n 0, 1) := by decide +kernel
theorem dX9_addGauge_26 : decode cX9_addGauge 26 = .ok (.getfield 113, 3) := by decide +kernel
theorem dX9_addGauge_29 : decode cX9_addGauge 29 = .ok (.iload_n 2, 1) := by decide +kernel
theorem dX9_addGauge_30 : decode cX9_addGauge 30 = .ok (.iastore, 1) := by decide +kernel
theorem dX9_addGauge_31 : decode cX9_addGauge 31 = .ok (.aload_n 0, 1) := by decide +kernel
theorem dX9_addGauge_32 : decode cX9_addGauge 32 = .ok (.getfield 33, 3) := by decide +kernel
theorem dX9_addGauge_35 : decode cX9_addGauge 35 = .ok (.aload_n 0, 1) := by decide +kernel
theorem dX9_addGauge_36 : decode cX9_addGauge 36 = .ok (.getfield 113, 3) := by decide +kernel
theorem dX9_addGauge_39 : decode cX9_addGauge 39 = .ok (.iload_n 3, 1) := by decide +kernel
theorem dX9_addGauge_40 : decode cX9_addGauge 40 = .ok (.iastore, 1) := by decide +kernel
theorem dX9_addGauge_41 : decode cX9_addGauge 41 = .ok (.aload_n 0, 1) := by decide +kernel
theorem dX9_addGauge_42 : decode cX9_addGauge 42 = .ok (.getfield 36, 3) := by decide +kernel
theorem dX9_addGauge_45 : decode cX9_addGauge 45 = .ok (.aload_n 0, 1) := by decide +kernel
theorem dX9_addGauge_46 : decode cX9_addGauge 46 = .ok (.getfield 113, 3) := by decide +kernel
theorem dX9_addGauge_49 : decode cX9_addGauge 49 = .ok (.iload 4, 2) := by decide +kernel
theorem dX9_addGauge_51 : decode cX9_addGauge 51 = .ok (.iastore, 1) := by decide +kernel
theorem dX9_addGauge_52 : decode cX9_addGauge 52 = .ok (.aload_n 0, 1) := by decide +kernel
theorem dX9_addGauge_53 : decode cX9_addGauge 53 = .ok (.dup, 1) := by decide +kernel
theorem dX9_addGauge_54 : decode cX9_addGauge 54 = .ok (.getfield 113, 3) := by decide +kernel
theorem dX9_addGauge_57 : decode cX9_addGauge 57 = .ok (.iconst 1, 1) := by decide +kernel
theorem dX9_addGauge_58 : decode cX9_addGauge 58 = .ok (.iadd, 1) := by decide +kernel
theorem dX9_addGauge_59 : decode cX9_addGauge 59 = .ok (.putfield 113, 3) := by decide +kernel
theorem dX9_addGauge_62 : decode cX9_addGauge 62 = .ok (.aload_n 0, 1) := by decide +kernel
theorem dX9_addGauge_63 : decode cX9_addGauge 63 = .ok (.getfield 113, 3) := by decide +kernel
theorem dX9_addGauge_66 : decode cX9_addGauge 66 = .ok (.ireturn, 1) := by decide +kernel
theorem dX9_numberOf_0 : decode cX9_numberOf 0 = .ok (.aload_n 0, 1) := by decide +kernel
theorem dX9_numberOf_1 : decode cX9_numberOf 1 = .ok (.getfield 39, 3) := by decide +kernel
theorem dX9_numberOf_4 : decode cX9_numberOf 4 = .ok (.iload 4, 2) := by decide +kernel
theorem dX9_numberOf_6 : decode cX9_numberOf 6 = .ok (.iload_n 3, 1) := by decide +kernel
theorem dX9_numberOf_7 : decode cX9_numberOf 7 = .ok (.invokevirtual 116, 3) := by decide +kernel
theorem dX9_numberOf_10 : decode cX9_numberOf 10 = .ok (.aload_n 0, 1) := by decide +kernel
theorem dX9_numberOf_11 : decode cX9_numberOf 11 = .ok (.getfield 20, 3) := by decide +kernel
theorem dX9_numberOf_14 : decode cX9_numberOf 14 = .ok (.iload_n 1, 1) := by decide +kernel
theorem dX9_numberOf_15 : decode cX9_numberOf 15 = .ok (.aaload, 1) := by decide +kernel
theorem dX9_numberOf_16 : decode cX9_numberOf 16 = .ok (.iload 4, 2) := by decide +kernel
theorem dX9_numberOf_18 : decode cX9_numberOf 18 = .ok (.iaload, 1) := by decide +kernel
theorem dX9_numberOf_19 : decode cX9_numberOf 19 = .ok (.iadd, 1) := by decide +kernel
theorem dX9_numberOf_20 : decode cX9_numberOf 20 = .ok (.iload_n 2, 1) := by decide +kernel
theorem dX9_numberOf_21 : decode cX9_numberOf 21 = .ok (.aload_n 0, 1) := by decide +kernel
theorem dX9_numberOf_22 : decode cX9_numberOf 22 = .ok (.getfield 23, 3) := by decide +kernel
theorem dX9_numberOf_25 : decode cX9_numberOf 25 = .ok (.iload_n 1, 1) := by decide +kernel
theorem dX9_numberOf_26 : decode cX9_numberOf 26 = .ok (.aaload, 1) := by decide +kernel
theorem dX9_numberOf_27 : decode cX9_numberOf 27 = .ok (.iload 4, 2) := by decide +kernel
theorem dX9_numberOf_29 : decode cX9_numberOf 29 = .ok (.iaload, 1) := by decide +kernel
theorem dX9_numberOf_30 : decode cX9_numberOf 30 = .ok (.imul, 1) := by decide +kernel
theorem dX9_numberOf_31 : decode cX9_numberOf 31 = .ok (.iadd, 1) := by decide +kernel
theorem dX9_numberOf_32 : decode cX9_numberOf 32 = .ok (.ireturn, 1) := by decide +kernel
theorem dX9_farFrom_0 : decode cX9_farFrom 0 = .ok (.aload_n 0, 1) := by decide +kernel
theorem dX9_farFrom_1 : decode cX9_farFrom 1 = .ok (.iload_n 2, 1) := by decide +kernel
theorem dX9_farFrom_2 : decode cX9_farFrom 2 = .ok (.aload_n 0, 1) := by decide +kernel
theorem dX9_farFrom_3 : decode cX9_farFrom 3 = .ok (.getfield 26, 3) := by decide +kernel
theorem dX9_farFrom_6 : decode cX9_farFrom 6 = .ok (.iload_n 1, 1) := by decide +kernel
theorem dX9_farFrom_7 : decode cX9_farFrom 7 = .ok (.iaload, 1) := by decide +kernel
theorem dX9_farFrom_8 : decode cX9_farFrom 8 = .ok (.aload_n 0, 1) := by decide +kernel
theorem dX9_farFrom_9 : decode cX9_farFrom 9 = .ok (.getfield 30, 3) := by decide +kernel
theorem dX9_farFrom_12 : decode cX9_farFrom 12 = .ok (.iload_n 1, 1) := by decide +kernel
theorem dX9_farFrom_13 : decode cX9_farFrom 13 = .ok (.iaload, 1) := by decide +kernel
theorem dX9_farFrom_14 : decode cX9_farFrom 14 = .ok (.aload_n 0, 1) := by decide +kernel
theorem dX9_farFrom_15 : decode cX9_farFrom 15 = .ok (.getfield 33, 3) := by decide +kernel
theorem dX9_farFrom_18 : decode cX9_farFrom 18 = .ok (.iload_n 1, 1) := by decide +kernel
theorem dX9_farFrom_19 : decode cX9_farFrom 19 = .ok (.iaload, 1) := by decide +kernel
theorem dX9_farFrom_20 : decode cX9_farFrom 20 = .ok (.invokevirtual 119, 3) := by decide +kernel
theorem dX9_farFrom_23 : decode cX9_farFrom 23 = .ok (.istore_n 3, 1) := by decide +kernel
theorem dX9_farFrom_24 : decode cX9_farFrom 24 = .ok (.iload_n 3, 1) := by decide +kernel
theorem dX9_farFrom_25 : decode cX9_farFrom 25 = .ok (.aload_n 0, 1) := by decide +kernel
theorem dX9_farFrom_26 : decode cX9_farFrom 26 = .ok (.getfield 36, 3) := by decide +kernel
theorem dX9_farFrom_29 : decode cX9_farFrom 29 = .ok (.iload_n 1, 1) := by decide +kernel
theorem dX9_farFrom_30 : decode cX9_farFrom 30 = .ok (.iaload, 1) := by decide +kernel
theorem dX9_farFrom_31 : decode cX9_farFrom 31 = .ok (.isub, 1) := by decide +kernel
theorem dX9_farFrom_32 : decode cX9_farFrom 32 = .ok (.invokestatic 123, 3) := by decide +kernel
theorem dX9_farFrom_35 : decode cX9_farFrom 35 = .ok (.ireturn, 1) := by decide +kernel
theorem dX9_farFromGauges_0 : decode cX9_farFromGauges 0 = .ok (.iconst 0, 1) := by decide +kernel
theorem dX9_farFromGauges_1 : decode cX9_farFromGauges 1 = .ok (.istore_n 2, 1) := by decide +kernel
theorem dX9_farFromGauges_2 : decode cX9_farFromGauges 2 = .ok (.iconst 0, 1) := by decide +kernel
theorem dX9_farFromGauges_3 : decode cX9_farFromGauges 3 = .ok (.istore_n 3, 1) := by decide +kernel
theorem dX9_farFromGauges_4 : decode cX9_farFromGauges 4 = .ok (.iload_n 3, 1) := by decide +kernel
theorem dX9_farFromGauges_5 : decode cX9_farFromGauges 5 = .ok (.aload_n 0, 1) := by decide +kernel
theorem dX9_farFromGauges_6 : decode cX9_farFromGauges 6 = .ok (.getfield 113, 3) := by decide +kernel
theorem dX9_farFromGauges_9 : decode cX9_farFromGauges 9 = .ok (.if_icmp .ge 18, 3) := by decide +kernel
theorem dX9_farFromGauges_12 : decode cX9_farFromGauges 12 = .ok (.iload_n 2, 1) := by decide +kernel
theorem dX9_farFromGauges_13 : decode cX9_farFromGauges 13 = .ok (.aload_n 0, 1) := by decide +kernel
theorem dX9_farFromGauges_14 : decode cX9_farFromGauges 14 = .ok (.iload_n 3, 1) := by decide +kernel
theorem dX9_farFromGauges_15 : decode cX9_farFromGauges 15 = .ok (.iload_n 1, 1) := by decide +kernel
theorem dX9_farFromGauges_16 : decode cX9_farFromGauges 16 = .ok (.invokevirtual 126, 3) := by decide +kernel
theorem dX9_farFromGauges_19 : decode cX9_farFromGauges 19 = .ok (.iadd, 1) := by decide +kernel
theorem dX9_farFromGauges_20 : decode cX9_farFromGauges 20 = .ok (.istore_n 2, 1) := by decide +kernel
theorem dX9_farFromGauges_21 : decode cX9_farFromGauges 21 = .ok (.iinc 3 1, 3) := by decide +kernel
theorem dX9_farFromGauges_24 : decode cX9_farFromGauges 24 = .ok (.goto (-20), 3) := by decide +kernel
theorem dX9_farFromGauges_27 : decode cX9_farFromGauges 27 = .ok (.iload_n 2, 1) := by decide +kernel
theorem dX9_farFromGauges_28 : decode cX9_farFromGauges 28 = .ok (.ireturn, 1) := by decide +kernel
theorem dX9_fitting_0 : decode cX9_fitting 0 = .ok (.iconst 0, 1) := by decide +kernel
theorem dX9_fitting_1 : decode cX9_fitting 1 = .ok (.istore_n 2, 1) := by decide +kernel
theorem dX9_fitting_2 : decode cX9_fitting 2 = .ok (.iconst 0, 1) := by decide +kernel
theorem dX9_fitting_3 : decode cX9_fitting 3 = .ok (.istore_n 3, 1) := by decide +kernel
theorem dX9_fitting_4 : decode cX9_fitting 4 = .ok (.iload_n 3, 1) := by decide +kernel
theorem dX9_fitting_5 : decode cX9_fitting 5 = .ok (.aload_n 0, 1) := by decide +kernel
theorem dX9_fitting_6 : decode cX9_fitting 6 = .ok (.getfield 50, 3) := by decide +kernel
theorem dX9_fitting_9 : decode cX9_fitting 9 = .ok (.if_icmp .ge 68, 3) := by decide +kernel
theorem dX9_fitting_12 : decode cX9_fitting 12 = .ok (.iconst 1, 1) := by decide +kernel
theorem dX9_fitting_13 : decode cX9_fitting 13 = .ok (.istore 4, 2) := by decide +kernel
theorem dX9_fitting_15 : decode cX9_fitting 15 = .ok (.iconst 0, 1) := by decide +kernel
theorem dX9_fitting_16 : decode cX9_fitting 16 = .ok (.istore 5, 2) := by decide +kernel
theorem dX9_fitting_18 : decode cX9_fitting 18 = .ok (.iload 5, 2) := by decide +kernel
theorem dX9_fitting_20 : decode cX9_fitting 20 = .ok (.aload_n 0, 1) := by decide +kernel
theorem dX9_fitting_21 : decode cX9_fitting 21 = .ok (.getfield 113, 3) := by decide +kernel
theorem dX9_fitting_24 : decode cX9_fitting 24 = .ok (.if_icmp .ge 32, 3) := by decide +kernel
theorem dX9_fitting_27 : decode cX9_fitting 27 = .ok (.iload 4, 2) := by decide +kernel
theorem dX9_fitting_29 : decode cX9_fitting 29 = .ok (.ifCond .eq 18, 3) := by decide +kernel
theorem dX9_fitting_32 : decode cX9_fitting 32 = .ok (.aload_n 0, 1) := by decide +kernel
theorem dX9_fitting_33 : decode cX9_fitting 33 = .ok (.iload 5, 2) := by decide +kernel
theorem dX9_fitting_35 : decode cX9_fitting 35 = .ok (.iload_n 3, 1) := by decide +kernel
theorem dX9_fitting_36 : decode cX9_fitting 36 = .ok (.invokevirtual 126, 3) := by decide +kernel
theorem dX9_fitting_39 : decode cX9_fitting 39 = .ok (.iload_n 1, 1) := by decide +kernel
theorem dX9_fitting_40 : decode cX9_fitting 40 = .ok (.if_icmp .gt 7, 3) := by decide +kernel
theorem dX9_fitting_43 : decode cX9_fitting 43 = .ok (.iconst 1, 1) := by decide +kernel
theorem dX9_fitting_44 : decode cX9_fitting 44 = .ok (.goto 4, 3) := by decide +kernel
theorem dX9_fitting_47 : decode cX9_fitting 47 = .ok (.iconst 0, 1) := by decide +kernel
theorem dX9_fitting_48 : decode cX9_fitting 48 = .ok (.istore 4, 2) := by decide +kernel
theorem dX9_fitting_50 : decode cX9_fitting 50 = .ok (.iinc 5 1, 3) := by decide +kernel
theorem dX9_fitting_53 : decode cX9_fitting 53 = .ok (.goto (-35), 3) := by decide +kernel
theorem dX9_fitting_56 : decode cX9_fitting 56 = .ok (.iload_n 2, 1) := by decide +kernel
theorem dX9_fitting_57 : decode cX9_fitting 57 = .ok (.iload 4, 2) := by decide +kernel
theorem dX9_fitting_59 : decode cX9_fitting 59 = .ok (.ifCond .eq 9, 3) := by decide +kernel
theorem dX9_fitting_62 : decode cX9_fitting 62 = .ok (.iconst 1, 1) := by decide +kernel
theorem dX9_fitting_63 : decode cX9_fitting 63 = .ok (.iload_n 3, 1) := by decide +kernel
theorem dX9_fitting_64 : decode cX9_fitting 64 = .ok (.ishl, 1) := by decide +kernel
theorem dX9_fitting_65 : decode cX9_fitting 65 = .ok (.goto 4, 3) := by decide +kernel
theorem dX9_fitting_68 : decode cX9_fitting 68 = .ok (.iconst 0, 1) := by decide +kernel
theorem dX9_fitting_69 : decode cX9_fitting 69 = .ok (.ior, 1) := by decide +kernel
theorem dX9_fitting_70 : decode cX9_fitting 70 = .ok (.istore_n 2, 1) := by decide +kernel
theorem dX9_fitting_71 : decode cX9_fitting 71 = .ok (.iinc 3 1, 3) := by decide +kernel
theorem dX9_fitting_74 : decode cX9_fitting 74 = .ok (.goto (-70), 3) := by decide +kernel
theorem dX9_fitting_77 : decode cX9_fitting 77 = .ok (.iload_n 2, 1) := by decide +kernel
theorem dX9_fitting_78 : decode cX9_fitting 78 = .ok (.ireturn, 1) := by decide +kernel
theorem dX9_apartAt_0 : decode cX9_apartAt 0 = .ok (.aload_n 0, 1) := by decide +kernel
theorem dX9_apartAt_1 : decode cX9_apartAt 1 = .ok (.getfield 20, 3) := by decide +kernel
theorem dX9_apartAt_4 : decode cX9_apartAt 4 = .ok (.iload_n 1, 1) := by decide +kernel
theorem dX9_apartAt_5 : decode cX9_apartAt 5 = .ok (.aaload, 1) := by decide +kernel
theorem dX9_apartAt_6 : decode cX9_apartAt 6 = .ok (.iload 4, 2) := by decide +kernel
theorem dX9_apartAt_8 : decode cX9_apartAt 8 = .ok (.iaload, 1) := by decide +kernel
theorem dX9_apartAt_9 : decode cX9_apartAt 9 = .ok (.aload_n 0, 1) := by decide +kernel
theorem dX9_apartAt_10 : decode cX9_apartAt 10 = .ok (.getfield 20, 3) := by decide +kernel
theorem dX9_apartAt_13 : decode cX9_apartAt 13 = .ok (.iload_n 2, 1) := by decide +kernel
theorem dX9_apartAt_14 : decode cX9_apartAt 14 = .ok (.aaload, 1) := by decide +kernel
theorem dX9_apartAt_15 : decode cX9_apartAt 15 = .ok (.iload 4, 2) := by decide +kernel
theorem dX9_apartAt_17 : decode cX9_apartAt 17 = .ok (.iaload, 1) := by decide +kernel
theorem dX9_apartAt_18 : decode cX9_apartAt 18 = .ok (.isub, 1) := by decide +kernel
theorem dX9_apartAt_19 : decode cX9_apartAt 19 = .ok (.iload_n 3, 1) := by decide +kernel
theorem dX9_apartAt_20 : decode cX9_apartAt 20 = .ok (.aload_n 0, 1) := by decide +kernel
theorem dX9_apartAt_21 : decode cX9_apartAt 21 = .ok (.getfield 23, 3) := by decide +kernel
theorem dX9_apartAt_24 : decode cX9_apartAt 24 = .ok (.iload_n 1, 1) := by decide +kernel
theorem dX9_apartAt_25 : decode cX9_apartAt 25 = .ok (.aaload, 1) := by decide +kernel
theorem dX9_apartAt_26 : decode cX9_apartAt 26 = .ok (.iload 4, 2) := by decide +kernel
theorem dX9_apartAt_28 : decode cX9_apartAt 28 = .ok (.iaload, 1) := by decide +kernel
theorem dX9_apartAt_29 : decode cX9_apartAt 29 = .ok (.aload_n 0, 1) := by decide +kernel
theorem dX9_apartAt_30 : decode cX9_apartAt 30 = .ok (.getfield 23, 3) := by decide +kernel
theorem dX9_apartAt_33 : decode cX9_apartAt 33 = .ok (.iload_n 2, 1) := by decide +kernel
theorem dX9_apartAt_34 : decode cX9_apartAt 34 = .ok (.aaload, 1) := by decide +kernel
theorem dX9_apartAt_35 : decode cX9_apartAt 35 = .ok (.iload 4, 2) := by decide +kernel
theorem dX9_apartAt_37 : decode cX9_apartAt 37 = .ok (.iaload, 1) := by decide +kernel
theorem dX9_apartAt_38 : decode cX9_apartAt 38 = .ok (.isub, 1) := by decide +kernel
theorem dX9_apartAt_39 : decode cX9_apartAt 39 = .ok (.imul, 1) := by decide +kernel
theorem dX9_apartAt_40 : decode cX9_apartAt 40 = .ok (.iadd, 1) := by decide +kernel
theorem dX9_apartAt_41 : decode cX9_apartAt 41 = .ok (.ireturn, 1) := by decide +kernel
theorem dX9_mostTogether_0 : decode cX9_mostTogether 0 = .ok (.iconst 0, 1) := by decide +kernel
theorem dX9_mostTogether_1 : decode cX9_mostTogether 1 = .ok (.istore 5, 2) := by decide +kernel
theorem dX9_mostTogether_3 : decode cX9_mostTogether 3 = .ok (.iconst 0, 1) := by decide +kernel
theorem dX9_mostTogether_4 : decode cX9_mostTogether 4 = .ok (.istore 6, 2) := by decide +kernel
theorem dX9_mostTogether_6 : decode cX9_mostTogether 6 = .ok (.iload 6, 2) := by decide +kernel
theorem dX9_mostTogether_8 : decode cX9_mostTogether 8 = .ok (.aload_n 0, 1) := by decide +kernel
theorem dX9_mostTogether_9 : decode cX9_mostTogether 9 = .ok (.getfield 50, 3) := by decide +kernel
theorem dX9_mostTogether_12 : decode cX9_mostTogether 12 = .ok (.if_icmp .ge 103, 3) := by decide +kernel
theorem dX9_mostTogether_15 : decode cX9_mostTogether 15 = .ok (.iconst 0, 1) := by decide +kernel
theorem dX9_mostTogether_16 : decode cX9_mostTogether 16 = .ok (.istore 7, 2) := by decide +kernel
theorem dX9_mostTogether_18 : decode cX9_mostTogether 18 = .ok (.iconst 0, 1) := by decide +kernel
theorem dX9_mostTogether_19 : decode cX9_mostTogether 19 = .ok (.istore 8, 2) := by decide +kernel
theorem dX9_mostTogether_21 : decode cX9_mostTogether 21 = .ok (.iload 8, 2) := by decide +kernel
theorem dX9_mostTogether_23 : decode cX9_mostTogether 23 = .ok (.aload_n 0, 1) := by decide +kernel
theorem dX9_mostTogether_24 : decode cX9_mostTogether 24 = .ok (.getfield 50, 3) := by decide +kernel
theorem dX9_mostTogether_27 : decode cX9_mostTogether 27 = .ok (.if_icmp .ge 73, 3) := by decide +kernel
theorem dX9_mostTogether_30 : decode cX9_mostTogether 30 = .ok (.iload_n 1, 1) := by decide +kernel
theorem dX9_mostTogether_31 : decode cX9_mostTogether 31 = .ok (.iload 6, 2) := by decide +kernel
theorem dX9_mostTogether_33 : decode cX9_mostTogether 33 = .ok (.ishr, 1) := by decide +kernel
theorem dX9_mostTogether_34 : decode cX9_mostTogether 34 = .ok (.iconst 1, 1) := by decide +kernel
theorem dX9_mostTogether_35 : decode cX9_mostTogether 35 = .ok (.iand, 1) := by decide +kernel
theorem dX9_mostTogether_36 : decode cX9_mostTogether 36 = .ok (.iconst 1, 1) := by decide +kernel
theorem dX9_mostTogether_37 : decode cX9_mostTogether 37 = .ok (.if_icmp .ne 17, 3) := by decide +kernel
theorem dX9_mostTogether_40 : decode cX9_mostTogether 40 = .ok (.iload_n 1, 1) := by decide +kernel
theorem dX9_mostTogether_41 : decode cX9_mostTogether 41 = .ok (.iload 8, 2) := by decide +kernel
theorem dX9_mostTogether_43 : decode cX9_mostTogether 43 = .ok (.ishr, 1) := by decide +kernel
theorem dX9_mostTogether_44 : decode cX9_mostTogether 44 = .ok (.iconst 1, 1) := by decide +kernel
theorem dX9_mostTogether_45 : decode cX9_mostTogether 45 = .ok (.iand, 1) := by decide +kernel
theorem dX9_mostTogether_46 : decode cX9_mostTogether 46 = .ok (.iconst 1, 1) := by decide +kernel
theorem dX9_mostTogether_47 : decode cX9_mostTogether 47 = .ok (.if_icmp .ne 7, 3) := by decide +kernel
theorem dX9_mostTogether_50 : decode cX9_mostTogether 50 = .ok (.iconst 1, 1) := by decide +kernel
theorem dX9_mostTogether_51 : decode cX9_mostTogether 51 = .ok (.goto 4, 3) := by decide +kernel
theorem dX9_mostTogether_54 : decode cX9_mostTogether 54 = .ok (.iconst 0, 1) := by decide +kernel
theorem dX9_mostTogether_55 : decode cX9_mostTogether 55 = .ok (.istore 9, 2) := by decide +kernel
theorem dX9_mostTogether_57 : decode cX9_mostTogether 57 = .ok (.aload_n 0, 1) := by decide +kernel
theorem dX9_mostTogether_58 : decode cX9_mostTogether 58 = .ok (.iload 6, 2) := by decide +kernel
theorem dX9_mostTogether_60 : decode cX9_mostTogether 60 = .ok (.iload 8, 2) := by decide +kernel
theorem dX9_mostTogether_62 : decode cX9_mostTogether 62 = .ok (.iload_n 3, 1) := by decide +kernel
theorem dX9_mostTogether_63 : decode cX9_mostTogether 63 = .ok (.iload 4, 2) := by decide +kernel
theorem dX9_mostTogether_65 : decode cX9_mostTogether 65 = .ok (.invokevirtual 129, 3) := by decide +kernel
theorem dX9_mostTogether_68 : decode cX9_mostTogether 68 = .ok (.invokestatic 123, 3) := by decide +kernel
theorem dX9_mostTogether_71 : decode cX9_mostTogether 71 = .ok (.istore 10, 2) := by decide +kernel
theorem dX9_mostTogether_73 : decode cX9_mostTogether 73 = .ok (.iload 7, 2) := by decide +kernel
theorem dX9_mostTogether_75 : decode cX9_mostTogether 75 = .ok (.iload 9, 2) := by decide +kernel
theorem dX9_mostTogether_77 : decode cX9_mostTogether 77 = .ok (.ifCond .eq 13, 3) := by decide +kernel
theorem dX9_mostTogether_80 : decode cX9_mostTogether 80 = .ok (.iload 10, 2) := by decide +kernel
theorem dX9_mostTogether_82 : decode cX9_mostTogether 82 = .ok (.iload_n 2, 1) := by decide +kernel
theorem dX9_mostTogether_83 : decode cX9_mostTogether 83 = .ok (.if_icmp .gt 7, 3) := by decide +kernel
theorem dX9_mostTogether_86 : decode cX9_mostTogether 86 = .ok (.iconst 1, 1) := by decide +kernel
theorem dX9_mostTogether_87 : decode cX9_mostTogether 87 = .ok (.goto 4, 3) := by decide +kernel
theorem dX9_mostTogether_90 : decode cX9_mostTogether 90 = .ok (.iconst 0, 1) := by decide +kernel
theorem dX9_mostTogether_91 : decode cX9_mostTogether 91 = .ok (.iadd, 1) := by decide +kernel
theorem dX9_mostTogether_92 : decode cX9_mostTogether 92 = .ok (.istore 7, 2) := by decide +kernel
theorem dX9_mostTogether_94 : decode cX9_mostTogether 94 = .ok (.iinc 8 1, 3) := by decide +kernel
theorem dX9_mostTogether_97 : decode cX9_mostTogether 97 = .ok (.goto (-76), 3) := by decide +kernel
theorem dX9_mostTogether_100 : decode cX9_mostTogether 100 = .ok (.iload 5, 2) := by decide +kernel
theorem dX9_mostTogether_102 : decode cX9_mostTogether 102 = .ok (.iload 7, 2) := by decide +kernel
theorem dX9_mostTogether_104 : decode cX9_mostTogether 104 = .ok (.invokestatic 132, 3) := by decide +kernel
theorem dX9_mostTogether_107 : decode cX9_mostTogether 107 = .ok (.istore 5, 2) := by decide +kernel
theorem dX9_mostTogether_109 : decode cX9_mostTogether 109 = .ok (.iinc 6 1, 3) := by decide +kernel
theorem dX9_mostTogether_112 : decode cX9_mostTogether 112 = .ok (.goto (-106), 3) := by decide +kernel
theorem dX9_mostTogether_115 : decode cX9_mostTogether 115 = .ok (.iload 5, 2) := by decide +kernel
theorem dX9_mostTogether_117 : decode cX9_mostTogether 117 = .ok (.ireturn, 1) := by decide +kernel
noncomputable def fX9_readOther (p1 : Int32) (h : HS) : Option (Int32 × HS) := bv (fX2_expect 15 (45 : Int32) h) (fun h1 => bd (fX2_loadBelow 15 ((gI h1 2 8)) h1) (fun r3 h2 => if r3 = p1 then (bv (fX2_fail 15 (((gI h2 15 2) - (1 : Int32))) h2) (fun h5 => some (r3, h5))) else (some (r3, h2))))
set_option maxRecDepth 100000 in
theorem tX9_readOther {p1 : Int32} {r : Int32} {h h0 : HS} (H : fX9_readOther p1 h = some (r, h0)) : Cn skC yX9_readOther cX9_readOther 3 (some .int) 2 [.ref 8, .int p1] h (some (.int r)) h0 := by
  refine Cn_of (L := [some (.ref 8), some (.int p1), none]) (by decide +kernel) (by simp [lg_sl, Value.category]) (fun ad => by simp [lg_sl, tv, Value.category]) (⟨rfl, ⟨rfl, trivial⟩⟩) ?_
  unfold fX9_readOther at H
  refine j_aload_n (pc := 0) dX9_readOther_0 rfl ?_
  refine j_getR (pc := 1) (b := 15) dX9_readOther_1 flX9_12 rfl ?_
  refine j_bipush (pc := 4) (v := 45) dX9_readOther_4 (by decide) ?_
  obtain ⟨h1, eh1, H⟩ := bv_x H
  refine j_callV (pc := 6) dX9_readOther_6 mlX9_95 wyX2_expect (tX2_expect rfl eh1) (by decide) rfl rfl rfl rfl (by simp [Value.category]) rfl ?_
  refine j_aload_n (pc := 9) dX9_readOther_9 rfl ?_
  refine j_getR (pc := 10) (b := 15) dX9_readOther_10 flX9_12 rfl ?_
  refine j_aload_n (pc := 13) dX9_readOther_13 rfl ?_
  refine j_getR (pc := 14) (b := 2) dX9_readOther_14 flX9_49 rfl ?_
  refine j_getI (pc := 17) dX9_readOther_17 flX9_86 rfl ?_
  obtain ⟨r3, h2, eh2, H⟩ := bd_x H
  refine j_callV (pc := 20) dX9_readOther_20 mlX9_89 wyX2_loadBelow (tX2_loadBelow rfl eh2) (by decide) rfl rfl rfl rfl (by simp [Value.category]) rfl ?_
  refine j_istore_n (pc := 23) (L' := [some (.ref 8), some (.int p1), some (.int r3)]) dX9_readOther_23 (by decide) rfl ?_
  refine j_iload_n (pc := 24) dX9_readOther_24 rfl ?_
  refine j_iload_n (pc := 25) dX9_readOther_25 rfl ?_
  refine j_icmp_ne (pc := 26) (tgt := 45) dX9_readOther_26 (by decide) (fun c4 => ?_) (fun c4 => ?_)
  · rw [if_neg c4] at H
    refine j_iload_n (pc := 45) dX9_readOther_45 rfl ?_
    exact j_ireturn (pc := 46) dX9_readOther_46 rfl (ri_1 H) (ri_2 H)
  · rw [if_pos c4] at H
    refine j_aload_n (pc := 29) dX9_readOther_29 rfl ?_
    refine j_getR (pc := 30) (b := 15) dX9_readOther_30 flX9_12 rfl ?_
    refine j_aload_n (pc := 33) dX9_readOther_33 rfl ?_
    refine j_getR (pc := 34) (b := 15) dX9_readOther_34 flX9_12 rfl ?_
    refine j_getI (pc := 37) dX9_readOther_37 flX9_79 rfl ?_
    refine j_iconst (pc := 40) (v := 1) dX9_readOther_40 (by decide) ?_
    refine j_isub (pc := 41) dX9_readOther_41 ?_
    obtain ⟨h5, eh5, H⟩ := bv_x H
    refine j_callV (pc := 42) dX9_readOther_42 mlX9_82 wyX2_fail (tX2_fail rfl eh5) (by decide) rfl rfl rfl rfl (by simp [Value.category]) rfl ?_
    refine j_iload_n (pc := 45) dX9_readOther_45 rfl ?_
    exact j_ireturn (pc := 46) dX9_readOther_46 rfl (ri_1 H) (ri_2 H)

noncomputable def fX9_addTo (p1 : Nat) (p2 : Int32) (p3 : Int32) (h : HS) : Option HS := bd (fX4_there p2 h) (fun r2 h1 => if r2 = 0 then (some h1) else (bA skC 1 p1 (fun n4 => ck (inb (0 : Int32) n4) (bA skC 1 p1 (fun n6 => ck (inb (0 : Int32) n6) (nm (pI h1 p1 (0 : Int32).toNatClampNeg ((gI h1 p1 (0 : Int32).toNatClampNeg) + p3)) (fun h7 => bA skC 1 p1 (fun n9 => ck (inb (1 : Int32) n9) (ck (inb p2 15) (bA skC 1 p1 (fun n12 => ck (inb (1 : Int32) n12) (nm (pI h7 p1 (1 : Int32).toNatClampNeg ((gI h7 p1 (1 : Int32).toNatClampNeg) + ((gI h7 27 p2.toNatClampNeg) * p3))) (fun h13 => bA skC 1 p1 (fun n15 => ck (inb (2 : Int32) n15) (ck (inb p2 15) (bA skC 1 p1 (fun n18 => ck (inb (2 : Int32) n18) (nm (pI h13 p1 (2 : Int32).toNatClampNeg ((gI h13 p1 (2 : Int32).toNatClampNeg) + ((gI h13 28 p2.toNatClampNeg) * p3))) (fun h19 => some h19)))))))))))))))))))
set_option maxRecDepth 100000 in
theorem tX9_addTo {p1 : Nat} {p2 : Int32} {p3 : Int32} {h h0 : HS} (H : fX9_addTo p1 p2 p3 h = some h0) : Cn skC yX9_addTo cX9_addTo 4 none 1 [.ref 8, .ref p1, .int p2, .int p3] h none h0 := by
  refine Cn_of (L := [some (.ref 8), some (.ref p1), some (.int p2), some (.int p3)]) (by decide +kernel) (by simp [lg_sl, Value.category]) (fun ad => by simp [lg_sl, tv, Value.category]) (⟨rfl, ⟨rfl, ⟨rfl, ⟨rfl, trivial⟩⟩⟩⟩) ?_
  unfold fX9_addTo at H
  refine j_aload_n (pc := 0) dX9_addTo_0 rfl ?_
  refine j_getR (pc := 1) (b := 2) dX9_addTo_1 flX9_49 rfl ?_
  refine j_iload_n (pc := 4) dX9_addTo_4 rfl ?_
  obtain ⟨r2, h1, eh1, H⟩ := bd_x H
  refine j_callV (pc := 5) dX9_addTo_5 mlX9_104 wyX4_there (tX4_there eh1) (by decide) rfl rfl rfl rfl (by simp [Value.category]) rfl ?_
  refine j_if_eq (pc := 8) (tgt := 52) dX9_addTo_8 (by decide) (fun c3 => ?_) (fun c3 => ?_)
  · rw [if_pos c3] at H
    exact j_return (pc := 52) dX9_addTo_52 rfl rfl (rv_2 H)
  · rw [if_neg c3] at H
    refine j_aload_n (pc := 11) dX9_addTo_11 rfl ?_
    refine j_iconst (pc := 12) (v := 0) dX9_addTo_12 (by decide) ?_
    refine j_dup2 (pc := 13) dX9_addTo_13 rfl rfl ?_
    obtain ⟨n4, en4, H⟩ := bA_x H
    obtain ⟨b5, H⟩ := ck_x H
    refine j_iaload (pc := 14) dX9_addTo_14 en4 b5 rfl ?_
    refine j_iload_n (pc := 15) dX9_addTo_15 rfl ?_
    refine j_iadd (pc := 16) dX9_addTo_16 ?_
    obtain ⟨n6, en6, H⟩ := bA_x H
    obtain ⟨b8, H⟩ := ck_x H
    obtain ⟨h7, eh7, H⟩ := nm_x H
    refine j_iastore (pc := 17) dX9_addTo_17 en6 b8 rfl h7 eh7 ?_
    refine j_aload_n (pc := 18) dX9_addTo_18 rfl ?_
    refine j_iconst (pc := 19) (v := 1) dX9_addTo_19 (by decide) ?_
    refine j_dup2 (pc := 20) dX9_addTo_20 rfl rfl ?_
    obtain ⟨n9, en9, H⟩ := bA_x H
    obtain ⟨b10, H⟩ := ck_x H
    refine j_iaload (pc := 21) dX9_addTo_21 en9 b10 rfl ?_
    refine j_aload_n (pc := 22) dX9_addTo_22 rfl ?_
    refine j_getR (pc := 23) (b := 2) dX9_addTo_23 flX9_49 rfl ?_
    refine j_getR (pc := 26) (b := 27) dX9_addTo_26 flX9_107 rfl ?_
    refine j_iload_n (pc := 29) dX9_addTo_29 rfl ?_
    obtain ⟨b11, H⟩ := ck_x H
    refine j_iaload (pc := 30) dX9_addTo_30 rfl b11 rfl ?_
    refine j_iload_n (pc := 31) dX9_addTo_31 rfl ?_
    refine j_imul (pc := 32) dX9_addTo_32 ?_
    refine j_iadd (pc := 33) dX9_addTo_33 ?_
    obtain ⟨n12, en12, H⟩ := bA_x H
    obtain ⟨b14, H⟩ := ck_x H
    obtain ⟨h13, eh13, H⟩ := nm_x H
    refine j_iastore (pc := 34) dX9_addTo_34 en12 b14 rfl h13 eh13 ?_
    refine j_aload_n (pc := 35) dX9_addTo_35 rfl ?_
    refine j_iconst (pc := 36) (v := 2) dX9_addTo_36 (by decide) ?_
    refine j_dup2 (pc := 37) dX9_addTo_37 rfl rfl ?_
    obtain ⟨n15, en15, H⟩ := bA_x H
    obtain ⟨b16, H⟩ := ck_x H
    refine j_iaload (pc := 38) dX9_addTo_38 en15 b16 rfl ?_
    refine j_aload_n (pc := 39) dX9_addTo_39 rfl ?_
    refine j_getR (pc := 40) (b := 2) dX9_addTo_40 flX9_49 rfl ?_
    refine j_getR (pc := 43) (b := 28) dX9_addTo_43 flX9_110 rfl ?_
    refine j_iload_n (pc := 46) dX9_addTo_46 rfl ?_
    obtain ⟨b17, H⟩ := ck_x H
    refine j_iaload (pc := 47) dX9_addTo_47 rfl b17 rfl ?_
    refine j_iload_n (pc := 48) dX9_addTo_48 rfl ?_
    refine j_imul (pc := 49) dX9_addTo_49 ?_
    refine j_iadd (pc := 50) dX9_addTo_50 ?_
    obtain ⟨n18, en18, H⟩ := bA_x H
    obtain ⟨b20, H⟩ := ck_x H
    obtain ⟨h19, eh19, H⟩ := nm_x H
    refine j_iastore (pc := 51) dX9_addTo_51 en18 b20 rfl h19 eh19 ?_
    exact j_return (pc := 52) dX9_addTo_52 rfl rfl (rv_2 H)

noncomputable def fX9_readTerm_182 (v3 : Int32) (v5 : Int32) (s3 : Int32) (s2 : Int32) (s1 : Nat) (h : HS) : Option HS := bv (fX9_addTo s1 s2 s3 h) (fun h26 => ck (inb (gI h26 8 3) 6) (bv (fX9_addTo (53 + (gI h26 8 3).toNatClampNeg) v3 v5 h26) (fun h28 => some h28)))
set_option maxRecDepth 100000 in
theorem jX9_readTerm_182 {h0 : HS} (v3 : Int32) (v5 : Int32) (s3 : Int32) (s2 : Int32) (s1 : Nat) (h : HS) (H : fX9_readTerm_182 v3 v5 s3 s2 s1 h = some h0) : Jx skC RX9 cX9_readTerm 6 none 3 none h0 182 [some (.ref 8), none, none, some (.int v3), none, some (.int v5)] [.int s3, .int s2, .ref s1, .ref 8] h := by
  unfold fX9_readTerm_182 at H
  obtain ⟨h26, eh26, H⟩ := bv_x H
  refine j_callV (pc := 182) dX9_readTerm_182 mlX9_101 wyX9_addTo (tX9_addTo eh26) (by decide) rfl rfl rfl rfl (by simp [Value.category]) rfl ?_
  refine j_aload_n (pc := 185) dX9_readTerm_185 rfl ?_
  refine j_aload_n (pc := 186) dX9_readTerm_186 rfl ?_
  refine j_getR (pc := 187) (b := 52) dX9_readTerm_187 flX9_23 rfl ?_
  refine j_aload_n (pc := 190) dX9_readTerm_190 rfl ?_
  refine j_getI (pc := 191) dX9_readTerm_191 flX9_50 rfl ?_
  obtain ⟨b27, H⟩ := ck_x H
  refine j_aaload (pc := 194) dX9_readTerm_194 rfl b27 ?_
  refine j_iload_n (pc := 195) dX9_readTerm_195 rfl ?_
  refine j_iload (pc := 196) dX9_readTerm_196 rfl ?_
  obtain ⟨h28, eh28, H⟩ := bv_x H
  refine j_callV (pc := 198) dX9_readTerm_198 mlX9_101 wyX9_addTo (tX9_addTo eh28) (by decide) rfl rfl rfl rfl (by simp [Value.category]) rfl ?_
  exact j_return (pc := 201) dX9_readTerm_201 rfl rfl (rv_2 H)
noncomputable def fX9_readTerm_117 (v1 : Int32) (v2 : Int32) (v3 : Int32) (s0 : Int32) (h : HS) : Option HS := bd (fX2_number 15 (3 : Int32) h) (fun r19 h18 => nm ((s0 * r19)) (fun v5_20 => if v1 = (98 : Int32) then (ck (inb (gI h18 8 3) 6) (bv (fX9_addTo (46 + (gI h18 8 3).toNatClampNeg) v2 v5_20 h18) (fun h25 => some h25))) else (ck (inb (gI h18 8 3) 6) (if v1 = (118 : Int32) then (fX9_readTerm_182 v3 v5_20 ((-v5_20)) v2 (53 + (gI h18 8 3).toNatClampNeg) h18) else (fX9_readTerm_182 v3 v5_20 v5_20 v2 (53 + (gI h18 8 3).toNatClampNeg) h18)))))
set_option maxRecDepth 100000 in
theorem jX9_readTerm_117 {h0 : HS} (v1 : Int32) (v2 : Int32) (v3 : Int32) (s0 : Int32) (h : HS) (H : fX9_readTerm_117 v1 v2 v3 s0 h = some h0) : Jx skC RX9 cX9_readTerm 6 none 3 none h0 117 [some (.ref 8), some (.int v1), some (.int v2), some (.int v3), none, none] [.int s0] h := by
  unfold fX9_readTerm_117 at H
  refine j_istore (pc := 117) (L' := [some (.ref 8), some (.int v1), some (.int v2), some (.int v3), some (.int s0), none]) dX9_readTerm_117 (by decide) rfl ?_
  refine j_iload (pc := 119) dX9_readTerm_119 rfl ?_
  refine j_aload_n (pc := 121) dX9_readTerm_121 rfl ?_
  refine j_getR (pc := 122) (b := 15) dX9_readTerm_122 flX9_12 rfl ?_
  refine j_iconst (pc := 125) (v := 3) dX9_readTerm_125 (by decide) ?_
  obtain ⟨r19, h18, eh18, H⟩ := bd_x H
  refine j_callV (pc := 126) dX9_readTerm_126 mlX9_98 wyX2_number (tX2_number rfl eh18) (by decide) rfl rfl rfl rfl (by simp [Value.category]) rfl ?_
  refine j_imul (pc := 129) dX9_readTerm_129 ?_
  obtain ⟨v5_20, ev5_20, H⟩ := nm_x H
  refine j_topi ev5_20 ?_
  refine j_istore (pc := 130) (L' := [some (.ref 8), some (.int v1), some (.int v2), some (.int v3), some (.int s0), some (.int v5_20)]) dX9_readTerm_130 (by decide) rfl ?_
  refine j_iload_n (pc := 132) dX9_readTerm_132 rfl ?_
  refine j_bipush (pc := 133) (v := 98) dX9_readTerm_133 (by decide) ?_
  refine j_icmp_ne (pc := 135) (tgt := 157) dX9_readTerm_135 (by decide) (fun c21 => ?_) (fun c21 => ?_)
  · rw [if_neg c21] at H
    refine j_aload_n (pc := 157) dX9_readTerm_157 rfl ?_
    refine j_aload_n (pc := 158) dX9_readTerm_158 rfl ?_
    refine j_getR (pc := 159) (b := 52) dX9_readTerm_159 flX9_23 rfl ?_
    refine j_aload_n (pc := 162) dX9_readTerm_162 rfl ?_
    refine j_getI (pc := 163) dX9_readTerm_163 flX9_50 rfl ?_
    obtain ⟨b22, H⟩ := ck_x H
    refine j_aaload (pc := 166) dX9_readTerm_166 rfl b22 ?_
    refine j_iload_n (pc := 167) dX9_readTerm_167 rfl ?_
    refine j_iload_n (pc := 168) dX9_readTerm_168 rfl ?_
    refine j_bipush (pc := 169) (v := 118) dX9_readTerm_169 (by decide) ?_
    refine j_icmp_ne (pc := 171) (tgt := 180) dX9_readTerm_171 (by decide) (fun c23 => ?_) (fun c23 => ?_)
    · rw [if_neg c23] at H
      refine j_iload (pc := 180) dX9_readTerm_180 rfl ?_
      refine Jx.sub (L' := [some (.ref 8), none, none, some (.int v3), none, some (.int v5_20)]) (⟨rfl, ⟨rfl, ⟨rfl, trivial⟩⟩⟩) ?_
      exact jX9_readTerm_182 v3 v5_20 v5_20 v2 (53 + (gI h18 8 3).toNatClampNeg) h18 H
    · rw [if_pos c23] at H
      refine j_iload (pc := 174) dX9_readTerm_174 rfl ?_
      refine j_ineg (pc := 176) dX9_readTerm_176 ?_
      refine j_goto (pc := 177) (tgt := 182) dX9_readTerm_177 (by decide) ?_
      refine Jx.sub (L' := [some (.ref 8), none, none, some (.int v3), none, some (.int v5_20)]) (⟨rfl, ⟨rfl, ⟨rfl, trivial⟩⟩⟩) ?_
      exact jX9_readTerm_182 v3 v5_20 ((-v5_20)) v2 (53 + (gI h18 8 3).toNatClampNeg) h18 H
  · rw [if_pos c21] at H
    refine j_aload_n (pc := 138) dX9_readTerm_138 rfl ?_
    refine j_aload_n (pc := 139) dX9_readTerm_139 rfl ?_
    refine j_getR (pc := 140) (b := 45) dX9_readTerm_140 flX9_20 rfl ?_
    refine j_aload_n (pc := 143) dX9_readTerm_143 rfl ?_
    refine j_getI (pc := 144) dX9_readTerm_144 flX9_50 rfl ?_
    obtain ⟨b24, H⟩ := ck_x H
    refine j_aaload (pc := 147) dX9_readTerm_147 rfl b24 ?_
    refine j_iload_n (pc := 148) dX9_readTerm_148 rfl ?_
    refine j_iload (pc := 149) dX9_readTerm_149 rfl ?_
    obtain ⟨h25, eh25, H⟩ := bv_x H
    refine j_callV (pc := 151) dX9_readTerm_151 mlX9_101 wyX9_addTo (tX9_addTo eh25) (by decide) rfl rfl rfl rfl (by simp [Value.category]) rfl ?_
    refine j_goto (pc := 154) (tgt := 201) dX9_readTerm_154 (by decide) ?_
    exact j_return (pc := 201) dX9_readTerm_201 rfl rfl (rv_2 H)
noncomputable def fX9_readTerm_116 (v1 : Int32) (v2 : Int32) (v3 : Int32) (h : HS) : Option HS := fX9_readTerm_117 v1 v2 v3 (1 : Int32) h
set_option maxRecDepth 100000 in
theorem jX9_readTerm_116 {h0 : HS} (v1 : Int32) (v2 : Int32) (v3 : Int32) (h : HS) (H : fX9_readTerm_116 v1 v2 v3 h = some h0) : Jx skC RX9 cX9_readTerm 6 none 3 none h0 116 [some (.ref 8), some (.int v1), some (.int v2), some (.int v3), none, none] [] h := by
  unfold fX9_readTerm_116 at H
  refine j_iconst (pc := 116) (v := 1) dX9_readTerm_116 (by decide) ?_
  refine Jx.sub (L' := [some (.ref 8), some (.int v1), some (.int v2), some (.int v3), none, none]) (⟨rfl, ⟨rfl, ⟨rfl, ⟨rfl, trivial⟩⟩⟩⟩) ?_
  exact jX9_readTerm_117 v1 v2 v3 (1 : Int32) h H
noncomputable def fX9_readTerm_84 (v1 : Int32) (v2 : Int32) (s0 : Int32) (h : HS) : Option HS := bv (fX2_expect 15 (44 : Int32) h) (fun h13 => if v1 = (98 : Int32) then (bd (fX2_take 15 (45 : Int32) h13) (fun r16 h15 => if r16 = 0 then (fX9_readTerm_116 v1 v2 s0 h15) else (fX9_readTerm_117 v1 v2 s0 (-1 : Int32) h15))) else (fX9_readTerm_116 v1 v2 s0 h13))
set_option maxRecDepth 100000 in
theorem jX9_readTerm_84 {h0 : HS} (v1 : Int32) (v2 : Int32) (s0 : Int32) (h : HS) (H : fX9_readTerm_84 v1 v2 s0 h = some h0) : Jx skC RX9 cX9_readTerm 6 none 3 none h0 84 [some (.ref 8), some (.int v1), some (.int v2), none, none, none] [.int s0] h := by
  unfold fX9_readTerm_84 at H
  refine j_istore_n (pc := 84) (L' := [some (.ref 8), some (.int v1), some (.int v2), some (.int s0), none, none]) dX9_readTerm_84 (by decide) rfl ?_
  refine j_aload_n (pc := 85) dX9_readTerm_85 rfl ?_
  refine j_getR (pc := 86) (b := 15) dX9_readTerm_86 flX9_12 rfl ?_
  refine j_bipush (pc := 89) (v := 44) dX9_readTerm_89 (by decide) ?_
  obtain ⟨h13, eh13, H⟩ := bv_x H
  refine j_callV (pc := 91) dX9_readTerm_91 mlX9_95 wyX2_expect (tX2_expect rfl eh13) (by decide) rfl rfl rfl rfl (by simp [Value.category]) rfl ?_
  refine j_iload_n (pc := 94) dX9_readTerm_94 rfl ?_
  refine j_bipush (pc := 95) (v := 98) dX9_readTerm_95 (by decide) ?_
  refine j_icmp_ne (pc := 97) (tgt := 116) dX9_readTerm_97 (by decide) (fun c14 => ?_) (fun c14 => ?_)
  · rw [if_neg c14] at H
    refine Jx.sub (L' := [some (.ref 8), some (.int v1), some (.int v2), some (.int s0), none, none]) (⟨rfl, ⟨rfl, ⟨rfl, ⟨rfl, trivial⟩⟩⟩⟩) ?_
    exact jX9_readTerm_116 v1 v2 s0 h13 H
  · rw [if_pos c14] at H
    refine j_aload_n (pc := 100) dX9_readTerm_100 rfl ?_
    refine j_getR (pc := 101) (b := 15) dX9_readTerm_101 flX9_12 rfl ?_
    refine j_bipush (pc := 104) (v := 45) dX9_readTerm_104 (by decide) ?_
    obtain ⟨r16, h15, eh15, H⟩ := bd_x H
    refine j_callV (pc := 106) dX9_readTerm_106 mlX9_67 wyX2_take (tX2_take rfl eh15) (by decide) rfl rfl rfl rfl (by simp [Value.category]) rfl ?_
    refine j_if_eq (pc := 109) (tgt := 116) dX9_readTerm_109 (by decide) (fun c17 => ?_) (fun c17 => ?_)
    · rw [if_pos c17] at H
      refine Jx.sub (L' := [some (.ref 8), some (.int v1), some (.int v2), some (.int s0), none, none]) (⟨rfl, ⟨rfl, ⟨rfl, ⟨rfl, trivial⟩⟩⟩⟩) ?_
      exact jX9_readTerm_116 v1 v2 s0 h15 H
    · rw [if_neg c17] at H
      refine j_iconst (pc := 112) (v := -1) dX9_readTerm_112 (by decide) ?_
      refine j_goto (pc := 113) (tgt := 117) dX9_readTerm_113 (by decide) ?_
      refine Jx.sub (L' := [some (.ref 8), some (.int v1), some (.int v2), some (.int s0), none, none]) (⟨rfl, ⟨rfl, ⟨rfl, ⟨rfl, trivial⟩⟩⟩⟩) ?_
      exact jX9_readTerm_117 v1 v2 s0 (-1 : Int32) h15 H
noncomputable def fX9_readTerm_41 (v1 : Int32) (h : HS) : Option HS := nm (pI h 15 2 ((gI h 15 2) + (1 : Int32))) (fun h7 => bd (fX2_loadBelow 15 ((gI h7 2 8)) h7) (fun r9 h8 => if v1 = (118 : Int32) then (bd (fX9_readOther r9 h8) (fun r12 h11 => fX9_readTerm_84 v1 r9 r12 h11)) else (fX9_readTerm_84 v1 r9 (-1 : Int32) h8)))
set_option maxRecDepth 100000 in
theorem jX9_readTerm_41 {h0 : HS} (v1 : Int32) (h : HS) (H : fX9_readTerm_41 v1 h = some h0) : Jx skC RX9 cX9_readTerm 6 none 3 none h0 41 [some (.ref 8), some (.int v1), none, none, none, none] [] h := by
  unfold fX9_readTerm_41 at H
  refine j_aload_n (pc := 41) dX9_readTerm_41 rfl ?_
  refine j_getR (pc := 42) (b := 15) dX9_readTerm_42 flX9_12 rfl ?_
  refine j_dup (pc := 45) dX9_readTerm_45 rfl ?_
  refine j_getI (pc := 46) dX9_readTerm_46 flX9_79 rfl ?_
  refine j_iconst (pc := 49) (v := 1) dX9_readTerm_49 (by decide) ?_
  refine j_iadd (pc := 50) dX9_readTerm_50 ?_
  obtain ⟨h7, eh7, H⟩ := nm_x H
  refine j_putI (pc := 51) dX9_readTerm_51 fpX9_79 rfl h7 eh7 ?_
  refine j_aload_n (pc := 54) dX9_readTerm_54 rfl ?_
  refine j_getR (pc := 55) (b := 15) dX9_readTerm_55 flX9_12 rfl ?_
  refine j_aload_n (pc := 58) dX9_readTerm_58 rfl ?_
  refine j_getR (pc := 59) (b := 2) dX9_readTerm_59 flX9_49 rfl ?_
  refine j_getI (pc := 62) dX9_readTerm_62 flX9_86 rfl ?_
  obtain ⟨r9, h8, eh8, H⟩ := bd_x H
  refine j_callV (pc := 65) dX9_readTerm_65 mlX9_89 wyX2_loadBelow (tX2_loadBelow rfl eh8) (by decide) rfl rfl rfl rfl (by simp [Value.category]) rfl ?_
  refine j_istore_n (pc := 68) (L' := [some (.ref 8), some (.int v1), some (.int r9), none, none, none]) dX9_readTerm_68 (by decide) rfl ?_
  refine j_iload_n (pc := 69) dX9_readTerm_69 rfl ?_
  refine j_bipush (pc := 70) (v := 118) dX9_readTerm_70 (by decide) ?_
  refine j_icmp_ne (pc := 72) (tgt := 83) dX9_readTerm_72 (by decide) (fun c10 => ?_) (fun c10 => ?_)
  · rw [if_neg c10] at H
    refine j_iconst (pc := 83) (v := -1) dX9_readTerm_83 (by decide) ?_
    refine Jx.sub (L' := [some (.ref 8), some (.int v1), some (.int r9), none, none, none]) (⟨rfl, ⟨rfl, ⟨rfl, trivial⟩⟩⟩) ?_
    exact jX9_readTerm_84 v1 r9 (-1 : Int32) h8 H
  · rw [if_pos c10] at H
    refine j_aload_n (pc := 75) dX9_readTerm_75 rfl ?_
    refine j_iload_n (pc := 76) dX9_readTerm_76 rfl ?_
    obtain ⟨r12, h11, eh11, H⟩ := bd_x H
    refine j_callV (pc := 77) dX9_readTerm_77 mlX9_92 wyX9_readOther (tX9_readOther eh11) (by decide) rfl rfl rfl rfl (by simp [Value.category]) rfl ?_
    refine j_goto (pc := 80) (tgt := 84) dX9_readTerm_80 (by decide) ?_
    refine Jx.sub (L' := [some (.ref 8), some (.int v1), some (.int r9), none, none, none]) (⟨rfl, ⟨rfl, ⟨rfl, trivial⟩⟩⟩) ?_
    exact jX9_readTerm_84 v1 r9 r12 h11 H
noncomputable def fX9_readTerm (h : HS) : Option HS := bd (fX2_peek 15 h) (fun r2 h1 => if r2 = (108 : Int32) then (fX9_readTerm_41 r2 h1) else (if r2 = (118 : Int32) then (fX9_readTerm_41 r2 h1) else (if r2 = (98 : Int32) then (fX9_readTerm_41 r2 h1) else (bv (fX2_fail 15 ((gI h1 15 2)) h1) (fun h6 => some h6)))))
set_option maxRecDepth 100000 in
theorem tX9_readTerm {h h0 : HS} (H : fX9_readTerm h = some h0) : Cn skC yX9_readTerm cX9_readTerm 6 none 3 [.ref 8] h none h0 := by
  refine Cn_of (L := [some (.ref 8), none, none, none, none, none]) (by decide +kernel) (by simp [lg_sl, Value.category]) (fun ad => by simp [lg_sl, tv, Value.category]) (⟨rfl, trivial⟩) ?_
  unfold fX9_readTerm at H
  refine j_aload_n (pc := 0) dX9_readTerm_0 rfl ?_
  refine j_getR (pc := 1) (b := 15) dX9_readTerm_1 flX9_12 rfl ?_
  obtain ⟨r2, h1, eh1, H⟩ := bd_x H
  refine j_callV (pc := 4) dX9_readTerm_4 mlX9_75 wyX2_peek (tX2_peek rfl eh1) (by decide) rfl rfl rfl rfl (by simp [Value.category]) rfl ?_
  refine j_istore_n (pc := 7) (L' := [some (.ref 8), some (.int r2), none, none, none, none]) dX9_readTerm_7 (by decide) rfl ?_
  refine j_iload_n (pc := 8) dX9_readTerm_8 rfl ?_
  refine j_bipush (pc := 9) (v := 108) dX9_readTerm_9 (by decide) ?_
  refine j_icmp_eq (pc := 11) (tgt := 41) dX9_readTerm_11 (by decide) (fun c3 => ?_) (fun c3 => ?_)
  · rw [if_pos c3] at H
    refine Jx.sub (L' := [some (.ref 8), some (.int r2), none, none, none, none]) (⟨rfl, ⟨rfl, trivial⟩⟩) ?_
    exact jX9_readTerm_41 r2 h1 H
  · rw [if_neg c3] at H
    refine j_iload_n (pc := 14) dX9_readTerm_14 rfl ?_
    refine j_bipush (pc := 15) (v := 118) dX9_readTerm_15 (by decide) ?_
    refine j_icmp_eq (pc := 17) (tgt := 41) dX9_readTerm_17 (by decide) (fun c4 => ?_) (fun c4 => ?_)
    · rw [if_pos c4] at H
      refine Jx.sub (L' := [some (.ref 8), some (.int r2), none, none, none, none]) (⟨rfl, ⟨rfl, trivial⟩⟩) ?_
      exact jX9_readTerm_41 r2 h1 H
    · rw [if_neg c4] at H
      refine j_iload_n (pc := 20) dX9_readTerm_20 rfl ?_
      refine j_bipush (pc := 21) (v := 98) dX9_readTerm_21 (by decide) ?_
      refine j_icmp_eq (pc := 23) (tgt := 41) dX9_readTerm_23 (by decide) (fun c5 => ?_) (fun c5 => ?_)
      · rw [if_pos c5] at H
        refine Jx.sub (L' := [some (.ref 8), some (.int r2), none, none, none, none]) (⟨rfl, ⟨rfl, trivial⟩⟩) ?_
        exact jX9_readTerm_41 r2 h1 H
      · rw [if_neg c5] at H
        refine j_aload_n (pc := 26) dX9_readTerm_26 rfl ?_
        refine j_getR (pc := 27) (b := 15) dX9_readTerm_27 flX9_12 rfl ?_
        refine j_aload_n (pc := 30) dX9_readTerm_30 rfl ?_
        refine j_getR (pc := 31) (b := 15) dX9_readTerm_31 flX9_12 rfl ?_
        refine j_getI (pc := 34) dX9_readTerm_34 flX9_79 rfl ?_
        obtain ⟨h6, eh6, H⟩ := bv_x H
        refine j_callV (pc := 37) dX9_readTerm_37 mlX9_82 wyX2_fail (tX2_fail rfl eh6) (by decide) rfl rfl rfl rfl (by simp [Value.category]) rfl ?_
        exact j_return (pc := 40) dX9_readTerm_40 rfl rfl (rv_2 H)

noncomputable def fX9_read_90 (p1 : Nat) (v2 : Int32) (h : HS) : Option (Int32 × HS) := bd (fX2_finish 15 v2 h) (fun r19 h18 => if r19 = (-1 : Int32) then (nm (pI h18 8 3 ((gI h18 8 3) + (1 : Int32))) (fun h22 => some (r19, h22))) else (nm (pI h18 8 3 ((gI h18 8 3) + (0 : Int32))) (fun h21 => some (r19, h21))))
set_option maxRecDepth 100000 in
theorem jX9_read_90 {r : Int32} {h0 : HS} (p1 : Nat) (v2 : Int32) (h : HS) (H : fX9_read_90 p1 v2 h = some (r, h0)) : Jx skC RX9 cX9_read 4 (some .int) 4 (some (.int r)) h0 90 [some (.ref 8), none, some (.int v2), none] [] h := by
  unfold fX9_read_90 at H
  refine j_aload_n (pc := 90) dX9_read_90 rfl ?_
  refine j_getR (pc := 91) (b := 15) dX9_read_91 flX9_12 rfl ?_
  refine j_iload_n (pc := 94) dX9_read_94 rfl ?_
  obtain ⟨r19, h18, eh18, H⟩ := bd_x H
  refine j_callV (pc := 95) dX9_read_95 mlX9_71 wyX2_finish (tX2_finish rfl eh18) (by decide) rfl rfl rfl rfl (by simp [Value.category]) rfl ?_
  refine j_istore_n (pc := 98) (L' := [some (.ref 8), none, some (.int v2), some (.int r19)]) dX9_read_98 (by decide) rfl ?_
  refine j_aload_n (pc := 99) dX9_read_99 rfl ?_
  refine j_dup (pc := 100) dX9_read_100 rfl ?_
  refine j_getI (pc := 101) dX9_read_101 flX9_50 rfl ?_
  refine j_iload_n (pc := 104) dX9_read_104 rfl ?_
  refine j_iconst (pc := 105) (v := -1) dX9_read_105 (by decide) ?_
  refine j_icmp_ne (pc := 106) (tgt := 113) dX9_read_106 (by decide) (fun c20 => ?_) (fun c20 => ?_)
  · rw [if_neg c20] at H
    refine j_iconst (pc := 113) (v := 0) dX9_read_113 (by decide) ?_
    refine j_iadd (pc := 114) dX9_read_114 ?_
    obtain ⟨h21, eh21, H⟩ := nm_x H
    refine j_putI (pc := 115) dX9_read_115 fpX9_50 rfl h21 eh21 ?_
    refine j_iload_n (pc := 118) dX9_read_118 rfl ?_
    exact j_ireturn (pc := 119) dX9_read_119 rfl (ri_1 H) (ri_2 H)
  · rw [if_pos c20] at H
    refine j_iconst (pc := 109) (v := 1) dX9_read_109 (by decide) ?_
    refine j_goto (pc := 110) (tgt := 114) dX9_read_110 (by decide) ?_
    refine j_iadd (pc := 114) dX9_read_114 ?_
    obtain ⟨h22, eh22, H⟩ := nm_x H
    refine j_putI (pc := 115) dX9_read_115 fpX9_50 rfl h22 eh22 ?_
    refine j_iload_n (pc := 118) dX9_read_118 rfl ?_
    exact j_ireturn (pc := 119) dX9_read_119 rfl (ri_1 H) (ri_2 H)
noncomputable def fX9_read_62 (p1 : Nat) : Nat → Int32 → Int32 → HS → Option (Int32 × HS)
  | 0, _, _, _ => none
  | n + 1, v2, v3, h => if (30 : Int32) ≤ v3 then (fX9_read_90 p1 v2 h) else (bd (fX2_take 15 (59 : Int32) h) (fun r14 h13 => if r14 = 0 then (fX9_read_90 p1 v2 h13) else (bv (fX9_readTerm h13) (fun h16 => nm (v3 + (1 : Int32)) (fun v3_17 => fX9_read_62 p1 n v2 v3_17 h16)))))
set_option maxRecDepth 100000 in
theorem jX9_read_62 {r : Int32} {h0 : HS} (p1 : Nat) : ∀ (n : Nat) (v2 : Int32) (v3 : Int32) (h : HS), fX9_read_62 p1 n v2 v3 h = some (r, h0) → Jx skC RX9 cX9_read 4 (some .int) 4 (some (.int r)) h0 62 [some (.ref 8), none, some (.int v2), some (.int v3)] [] h := by
  intro n
  induction n with
  | zero => intro v2 v3  h H; cases H
  | succ n ih =>
    intro v2 v3  h H
    rw [fX9_read_62] at H
    refine j_iload_n (pc := 62) dX9_read_62 rfl ?_
    refine j_bipush (pc := 63) (v := 30) dX9_read_63 (by decide) ?_
    refine j_icmp_ge (pc := 65) (tgt := 90) dX9_read_65 (by decide) (fun c12 => ?_) (fun c12 => ?_)
    · rw [if_pos c12] at H
      refine Jx.sub (L' := [some (.ref 8), none, some (.int v2), none]) (⟨rfl, ⟨rfl, trivial⟩⟩) ?_
      exact jX9_read_90 p1 v2 h H
    · rw [if_neg c12] at H
      refine j_aload_n (pc := 68) dX9_read_68 rfl ?_
      refine j_getR (pc := 69) (b := 15) dX9_read_69 flX9_12 rfl ?_
      refine j_bipush (pc := 72) (v := 59) dX9_read_72 (by decide) ?_
      obtain ⟨r14, h13, eh13, H⟩ := bd_x H
      refine j_callV (pc := 74) dX9_read_74 mlX9_67 wyX2_take (tX2_take rfl eh13) (by decide) rfl rfl rfl rfl (by simp [Value.category]) rfl ?_
      refine j_if_eq (pc := 77) (tgt := 90) dX9_read_77 (by decide) (fun c15 => ?_) (fun c15 => ?_)
      · rw [if_pos c15] at H
        refine Jx.sub (L' := [some (.ref 8), none, some (.int v2), none]) (⟨rfl, ⟨rfl, trivial⟩⟩) ?_
        exact jX9_read_90 p1 v2 h13 H
      · rw [if_neg c15] at H
        refine j_aload_n (pc := 80) dX9_read_80 rfl ?_
        obtain ⟨h16, eh16, H⟩ := bv_x H
        refine j_callV (pc := 81) dX9_read_81 mlX9_64 wyX9_readTerm (tX9_readTerm eh16) (by decide) rfl rfl rfl rfl (by simp [Value.category]) rfl ?_
        obtain ⟨v3_17, ev3_17, H⟩ := nm_x H
        refine j_iinc (pc := 84) (L' := [some (.ref 8), none, some (.int v2), some (.int v3_17)]) (w := 1) dX9_read_84 rfl (by decide) (by decide) v3_17 ev3_17 rfl ?_
        refine j_goto (pc := 87) (tgt := 62) dX9_read_87 (by decide) ?_
        refine Jx.sub (L' := [some (.ref 8), none, some (.int v2), some (.int v3_17)]) (⟨rfl, ⟨rfl, ⟨rfl, trivial⟩⟩⟩) ?_
        exact ih v2 v3_17 h16 H
noncomputable def fX9_read_2 (p1 : Nat) : Nat → Int32 → Int32 → HS → Option (Int32 × HS)
  | 0, _, _, _ => none
  | n + 1, v2, v3, h => if (2 : Int32) < v3 then (bv (fX2_begin 15 p1 (0 : Int32) ((imin v2 (30 : Int32))) h) (fun h2 => if v2 ≤ 0 then (fX9_read_62 p1 FU v2 (0 : Int32) h2) else (bv (fX9_readTerm h2) (fun h4 => fX9_read_62 p1 FU v2 (0 : Int32) h4)))) else (ck (inb (gI h 8 3) 6) (ck (inb v3 3) (nm (pI h (46 + (gI h 8 3).toNatClampNeg) v3.toNatClampNeg (0 : Int32)) (fun h6 => ck (inb (gI h6 8 3) 6) (ck (inb v3 3) (nm (pI h6 (53 + (gI h6 8 3).toNatClampNeg) v3.toNatClampNeg (0 : Int32)) (fun h9 => nm (v3 + (1 : Int32)) (fun v3_11 => fX9_read_2 p1 n v2 v3_11 h9))))))))
set_option maxRecDepth 100000 in
theorem jX9_read_2 {r : Int32} {h0 : HS} (p1 : Nat) : ∀ (n : Nat) (v2 : Int32) (v3 : Int32) (h : HS), fX9_read_2 p1 n v2 v3 h = some (r, h0) → Jx skC RX9 cX9_read 4 (some .int) 4 (some (.int r)) h0 2 [some (.ref 8), some (.ref p1), some (.int v2), some (.int v3)] [] h := by
  intro n
  induction n with
  | zero => intro v2 v3  h H; cases H
  | succ n ih =>
    intro v2 v3  h H
    rw [fX9_read_2] at H
    refine j_iload_n (pc := 2) dX9_read_2 rfl ?_
    refine j_iconst (pc := 3) (v := 2) dX9_read_3 (by decide) ?_
    refine j_icmp_gt (pc := 4) (tgt := 37) dX9_read_4 (by decide) (fun c1 => ?_) (fun c1 => ?_)
    · rw [if_pos c1] at H
      refine j_aload_n (pc := 37) dX9_read_37 rfl ?_
      refine j_getR (pc := 38) (b := 15) dX9_read_38 flX9_12 rfl ?_
      refine j_aload_n (pc := 41) dX9_read_41 rfl ?_
      refine j_iconst (pc := 42) (v := 0) dX9_read_42 (by decide) ?_
      refine j_iload_n (pc := 43) dX9_read_43 rfl ?_
      refine j_bipush (pc := 44) (v := 30) dX9_read_44 (by decide) ?_
      refine j_mmin (pc := 46) dX9_read_46 wmX9_54 (by simp [Value.category]) ?_
      obtain ⟨h2, eh2, H⟩ := bv_x H
      refine j_callV (pc := 49) dX9_read_49 mlX9_60 wyX2_begin (tX2_begin rfl eh2) (by decide) rfl rfl rfl rfl (by simp [Value.category]) rfl ?_
      refine j_iload_n (pc := 52) dX9_read_52 rfl ?_
      refine j_if_le (pc := 53) (tgt := 60) dX9_read_53 (by decide) (fun c3 => ?_) (fun c3 => ?_)
      · rw [if_pos c3] at H
        refine j_iconst (pc := 60) (v := 0) dX9_read_60 (by decide) ?_
        refine j_istore_n (pc := 61) (L' := [some (.ref 8), some (.ref p1), some (.int v2), some (.int (0 : Int32))]) dX9_read_61 (by decide) rfl ?_
        refine Jx.sub (L' := [some (.ref 8), none, some (.int v2), some (.int (0 : Int32))]) (⟨rfl, ⟨rfl, ⟨rfl, trivial⟩⟩⟩) ?_
        exact jX9_read_62 p1 FU v2 (0 : Int32) h2 H
      · rw [if_neg c3] at H
        refine j_aload_n (pc := 56) dX9_read_56 rfl ?_
        obtain ⟨h4, eh4, H⟩ := bv_x H
        refine j_callV (pc := 57) dX9_read_57 mlX9_64 wyX9_readTerm (tX9_readTerm eh4) (by decide) rfl rfl rfl rfl (by simp [Value.category]) rfl ?_
        refine j_iconst (pc := 60) (v := 0) dX9_read_60 (by decide) ?_
        refine j_istore_n (pc := 61) (L' := [some (.ref 8), some (.ref p1), some (.int v2), some (.int (0 : Int32))]) dX9_read_61 (by decide) rfl ?_
        refine Jx.sub (L' := [some (.ref 8), none, some (.int v2), some (.int (0 : Int32))]) (⟨rfl, ⟨rfl, ⟨rfl, trivial⟩⟩⟩) ?_
        exact jX9_read_62 p1 FU v2 (0 : Int32) h4 H
    · rw [if_neg c1] at H
      refine j_aload_n (pc := 7) dX9_read_7 rfl ?_
      refine j_getR (pc := 8) (b := 45) dX9_read_8 flX9_20 rfl ?_
      refine j_aload_n (pc := 11) dX9_read_11 rfl ?_
      refine j_getI (pc := 12) dX9_read_12 flX9_50 rfl ?_
      obtain ⟨b5, H⟩ := ck_x H
      refine j_aaload (pc := 15) dX9_read_15 rfl b5 ?_
      refine j_iload_n (pc := 16) dX9_read_16 rfl ?_
      refine j_iconst (pc := 17) (v := 0) dX9_read_17 (by decide) ?_
      obtain ⟨b7, H⟩ := ck_x H
      obtain ⟨h6, eh6, H⟩ := nm_x H
      refine j_iastore (pc := 18) dX9_read_18 (row_45 b5) b7 rfl h6 eh6 ?_
      refine j_aload_n (pc := 19) dX9_read_19 rfl ?_
      refine j_getR (pc := 20) (b := 52) dX9_read_20 flX9_23 rfl ?_
      refine j_aload_n (pc := 23) dX9_read_23 rfl ?_
      refine j_getI (pc := 24) dX9_read_24 flX9_50 rfl ?_
      obtain ⟨b8, H⟩ := ck_x H
      refine j_aaload (pc := 27) dX9_read_27 rfl b8 ?_
      refine j_iload_n (pc := 28) dX9_read_28 rfl ?_
      refine j_iconst (pc := 29) (v := 0) dX9_read_29 (by decide) ?_
      obtain ⟨b10, H⟩ := ck_x H
      obtain ⟨h9, eh9, H⟩ := nm_x H
      refine j_iastore (pc := 30) dX9_read_30 (row_52 b8) b10 rfl h9 eh9 ?_
      obtain ⟨v3_11, ev3_11, H⟩ := nm_x H
      refine j_iinc (pc := 31) (L' := [some (.ref 8), some (.ref p1), some (.int v2), some (.int v3_11)]) (w := 1) dX9_read_31 rfl (by decide) (by decide) v3_11 ev3_11 rfl ?_
      refine j_goto (pc := 34) (tgt := 2) dX9_read_34 (by decide) ?_
      refine Jx.sub (L' := [some (.ref 8), some (.ref p1), some (.int v2), some (.int v3_11)]) (⟨rfl, ⟨rfl, ⟨rfl, ⟨rfl, trivial⟩⟩⟩⟩) ?_
      exact ih v2 v3_11 h9 H
noncomputable def fX9_read (p1 : Nat) (p2 : Int32) (h : HS) : Option (Int32 × HS) := fX9_read_2 p1 FU p2 (0 : Int32) h
set_option maxRecDepth 100000 in
theorem tX9_read {p1 : Nat} {p2 : Int32} {r : Int32} {h h0 : HS} (H : fX9_read p1 p2 h = some (r, h0)) : Cn skC yX9_read cX9_read 4 (some .int) 4 [.ref 8, .ref p1, .int p2] h (some (.int r)) h0 := by
  refine Cn_of (L := [some (.ref 8), some (.ref p1), some (.int p2), none]) (by decide +kernel) (by simp [lg_sl, Value.category]) (fun ad => by simp [lg_sl, tv, Value.category]) (⟨rfl, ⟨rfl, ⟨rfl, trivial⟩⟩⟩) ?_
  unfold fX9_read at H
  refine j_iconst (pc := 0) (v := 0) dX9_read_0 (by decide) ?_
  refine j_istore_n (pc := 1) (L' := [some (.ref 8), some (.ref p1), some (.int p2), some (.int (0 : Int32))]) dX9_read_1 (by decide) rfl ?_
  refine Jx.sub (L' := [some (.ref 8), some (.ref p1), some (.int p2), some (.int (0 : Int32))]) (⟨rfl, ⟨rfl, ⟨rfl, ⟨rfl, trivial⟩⟩⟩⟩) ?_
  exact jX9_read_2 p1 FU p2 (0 : Int32) h H

noncomputable def fX9_addGauge (p1 : Int32) (p2 : Int32) (p3 : Int32) (p4 : Int32) (h : HS) : Option (Int32 × HS) := if (gI h 8 6) < (12 : Int32) then (ck (inb (gI h 8 6) 12) (nm (pI h 59 (gI h 8 6).toNatClampNeg p1) (fun h2 => ck (inb (gI h2 8 6) 12) (nm (pI h2 60 (gI h2 8 6).toNatClampNeg p2) (fun h4 => ck (inb (gI h4 8 6) 12) (nm (pI h4 61 (gI h4 8 6).toNatClampNeg p3) (fun h6 => ck (inb (gI h6 8 6) 12) (nm (pI h6 62 (gI h6 8 6).toNatClampNeg p4) (fun h8 => nm (pI h8 8 6 ((gI h8 8 6) + (1 : Int32))) (fun h10 => some ((gI h10 8 6), h10))))))))))) else (some ((-1 : Int32), h))
set_option maxRecDepth 100000 in
theorem tX9_addGauge {p1 : Int32} {p2 : Int32} {p3 : Int32} {p4 : Int32} {r : Int32} {h h0 : HS} (H : fX9_addGauge p1 p2 p3 p4 h = some (r, h0)) : Cn skC yX9_addGauge cX9_addGauge 5 (some .int) 0 [.ref 8, .int p1, .int p2, .int p3, .int p4] h (some (.int r)) h0 := by
  refine Cn_of (L := [some (.ref 8), some (.int p1), some (.int p2), some (.int p3), some (.int p4)]) (by decide +kernel) (by simp [lg_sl, Value.category]) (fun ad => by simp [lg_sl, tv, Value.category]) (⟨rfl, ⟨rfl, ⟨rfl, ⟨rfl, ⟨rfl, trivial⟩⟩⟩⟩⟩) ?_
  unfold fX9_addGauge at H
  refine j_aload_n (pc := 0) dX9_addGauge_0 rfl ?_
  refine j_getI (pc := 1) dX9_addGauge_1 flX9_113 rfl ?_
  refine j_bipush (pc := 4) (v := 12) dX9_addGauge_4 (by decide) ?_
  refine j_icmp_lt (pc := 6) (tgt := 11) dX9_addGauge_6 (by decide) (fun c1 => ?_) (fun c1 => ?_)
  · rw [if_pos c1] at H
    refine j_aload_n (pc := 11) dX9_addGauge_11 rfl ?_
    refine j_getR (pc := 12) (b := 59) dX9_addGauge_12 flX9_26 rfl ?_
    refine j_aload_n (pc := 15) dX9_addGauge_15 rfl ?_
    refine j_getI (pc := 16) dX9_addGauge_16 flX9_113 rfl ?_
    refine j_iload_n (pc := 19) dX9_addGauge_19 rfl ?_
    obtain ⟨b3, H⟩ := ck_x H
    obtain ⟨h2, eh2, H⟩ := nm_x H
    refine j_iastore (pc := 20) dX9_addGauge_20 rfl b3 rfl h2 eh2 ?_
    refine j_aload_n (pc := 21) dX9_addGauge_21 rfl ?_
    refine j_getR (pc := 22) (b := 60) dX9_addGauge_22 flX9_30 rfl ?_
    refine j_aload_n (pc := 25) dX9_addGauge_25 rfl ?_
    refine j_getI (pc := 26) dX9_addGauge_26 flX9_113 rfl ?_
    refine j_iload_n (pc := 29) dX9_addGauge_29 rfl ?_
    obtain ⟨b5, H⟩ := ck_x H
    obtain ⟨h4, eh4, H⟩ := nm_x H
    refine j_iastore (pc := 30) dX9_addGauge_30 rfl b5 rfl h4 eh4 ?_
    refine j_aload_n (pc := 31) dX9_addGauge_31 rfl ?_
    refine j_getR (pc := 32) (b := 61) dX9_addGauge_32 flX9_33 rfl ?_
    refine j_aload_n (pc := 35) dX9_addGauge_35 rfl ?_
    refine j_getI (pc := 36) dX9_addGauge_36 flX9_113 rfl ?_
    refine j_iload_n (pc := 39) dX9_addGauge_39 rfl ?_
    obtain ⟨b7, H⟩ := ck_x H
    obtain ⟨h6, eh6, H⟩ := nm_x H
    refine j_iastore (pc := 40) dX9_addGauge_40 rfl b7 rfl h6 eh6 ?_
    refine j_aload_n (pc := 41) dX9_addGauge_41 rfl ?_
    refine j_getR (pc := 42) (b := 62) dX9_addGauge_42 flX9_36 rfl ?_
    refine j_aload_n (pc := 45) dX9_addGauge_45 rfl ?_
    refine j_getI (pc := 46) dX9_addGauge_46 flX9_113 rfl ?_
    refine j_iload (pc := 49) dX9_addGauge_49 rfl ?_
    obtain ⟨b9, H⟩ := ck_x H
    obtain ⟨h8, eh8, H⟩ := nm_x H
    refine j_iastore (pc := 51) dX9_addGauge_51 rfl b9 rfl h8 eh8 ?_
    refine j_aload_n (pc := 52) dX9_addGauge_52 rfl ?_
    refine j_dup (pc := 53) dX9_addGauge_53 rfl ?_
    refine j_getI (pc := 54) dX9_addGauge_54 flX9_113 rfl ?_
    refine j_iconst (pc := 57) (v := 1) dX9_addGauge_57 (by decide) ?_
    refine j_iadd (pc := 58) dX9_addGauge_58 ?_
    obtain ⟨h10, eh10, H⟩ := nm_x H
    refine j_putI (pc := 59) dX9_addGauge_59 fpX9_113 rfl h10 eh10 ?_
    refine j_aload_n (pc := 62) dX9_addGauge_62 rfl ?_
    refine j_getI (pc := 63) dX9_addGauge_63 flX9_113 rfl ?_
    exact j_ireturn (pc := 66) dX9_addGauge_66 rfl (ri_1 H) (ri_2 H)
  · rw [if_neg c1] at H
    refine j_iconst (pc := 9) (v := -1) dX9_addGauge_9 (by decide) ?_
    exact j_ireturn (pc := 10) dX9_addGauge_10 rfl (ri_1 H) (ri_2 H)

noncomputable def fX9_numberOf (p1 : Int32) (p2 : Int32) (p3 : Int32) (p4 : Int32) (h : HS) : Option (Int32 × HS) := bd (fX0_numberNow p4 p3 h) (fun r2 h1 => ck (inb p1 6) (ck (inb p4 3) (ck (inb p1 6) (ck (inb p4 3) (some (((r2 + (gI h1 (46 + p1.toNatClampNeg) p4.toNatClampNeg)) + (p2 * (gI h1 (53 + p1.toNatClampNeg) p4.toNatClampNeg))), h1))))))
set_option maxRecDepth 100000 in
theorem tX9_numberOf {p1 : Int32} {p2 : Int32} {p3 : Int32} {p4 : Int32} {r : Int32} {h h0 : HS} (H : fX9_numberOf p1 p2 p3 p4 h = some (r, h0)) : Cn skC yX9_numberOf cX9_numberOf 5 (some .int) 4 [.ref 8, .int p1, .int p2, .int p3, .int p4] h (some (.int r)) h0 := by
  refine Cn_of (L := [some (.ref 8), some (.int p1), some (.int p2), some (.int p3), some (.int p4)]) (by decide +kernel) (by simp [lg_sl, Value.category]) (fun ad => by simp [lg_sl, tv, Value.category]) (⟨rfl, ⟨rfl, ⟨rfl, ⟨rfl, ⟨rfl, trivial⟩⟩⟩⟩⟩) ?_
  unfold fX9_numberOf at H
  refine j_aload_n (pc := 0) dX9_numberOf_0 rfl ?_
  refine j_getR (pc := 1) (b := 1) dX9_numberOf_1 flX9_39 rfl ?_
  refine j_iload (pc := 4) dX9_numberOf_4 rfl ?_
  refine j_iload_n (pc := 6) dX9_numberOf_6 rfl ?_
  obtain ⟨r2, h1, eh1, H⟩ := bd_x H
  refine j_callV (pc := 7) dX9_numberOf_7 mlX9_116 wyX0_numberNow (tX0_numberNow eh1) (by decide) rfl rfl rfl rfl (by simp [Value.category]) rfl ?_
  refine j_aload_n (pc := 10) dX9_numberOf_10 rfl ?_
  refine j_getR (pc := 11) (b := 45) dX9_numberOf_11 flX9_20 rfl ?_
  refine j_iload_n (pc := 14) dX9_numberOf_14 rfl ?_
  obtain ⟨b3, H⟩ := ck_x H
  refine j_aaload (pc := 15) dX9_numberOf_15 rfl b3 ?_
  refine j_iload (pc := 16) dX9_numberOf_16 rfl ?_
  obtain ⟨b4, H⟩ := ck_x H
  refine j_iaload (pc := 18) dX9_numberOf_18 (row_45 b3) b4 rfl ?_
  refine j_iadd (pc := 19) dX9_numberOf_19 ?_
  refine j_iload_n (pc := 20) dX9_numberOf_20 rfl ?_
  refine j_aload_n (pc := 21) dX9_numberOf_21 rfl ?_
  refine j_getR (pc := 22) (b := 52) dX9_numberOf_22 flX9_23 rfl ?_
  refine j_iload_n (pc := 25) dX9_numberOf_25 rfl ?_
  obtain ⟨b5, H⟩ := ck_x H
  refine j_aaload (pc := 26) dX9_numberOf_26 rfl b5 ?_
  refine j_iload (pc := 27) dX9_numberOf_27 rfl ?_
  obtain ⟨b6, H⟩ := ck_x H
  refine j_iaload (pc := 29) dX9_numberOf_29 (row_52 b5) b6 rfl ?_
  refine j_imul (pc := 30) dX9_numberOf_30 ?_
  refine j_iadd (pc := 31) dX9_numberOf_31 ?_
  exact j_ireturn (pc := 32) dX9_numberOf_32 rfl (ri_1 H) (ri_2 H)

noncomputable def fX9_farFrom (p1 : Int32) (p2 : Int32) (h : HS) : Option (Int32 × HS) := ck (inb p1 12) (ck (inb p1 12) (ck (inb p1 12) (bd (fX9_numberOf p2 ((gI h 59 p1.toNatClampNeg)) ((gI h 60 p1.toNatClampNeg)) ((gI h 61 p1.toNatClampNeg)) h) (fun r5 h4 => ck (inb p1 12) (some ((iabs (r5 - (gI h4 62 p1.toNatClampNeg))), h4))))))
set_option maxRecDepth 100000 in
theorem tX9_farFrom {p1 : Int32} {p2 : Int32} {r : Int32} {h h0 : HS} (H : fX9_farFrom p1 p2 h = some (r, h0)) : Cn skC yX9_farFrom cX9_farFrom 4 (some .int) 5 [.ref 8, .int p1, .int p2] h (some (.int r)) h0 := by
  refine Cn_of (L := [some (.ref 8), some (.int p1), some (.int p2), none]) (by decide +kernel) (by simp [lg_sl, Value.category]) (fun ad => by simp [lg_sl, tv, Value.category]) (⟨rfl, ⟨rfl, ⟨rfl, trivial⟩⟩⟩) ?_
  unfold fX9_farFrom at H
  refine j_aload_n (pc := 0) dX9_farFrom_0 rfl ?_
  refine j_iload_n (pc := 1) dX9_farFrom_1 rfl ?_
  refine j_aload_n (pc := 2) dX9_farFrom_2 rfl ?_
  refine j_getR (pc := 3) (b := 59) dX9_farFrom_3 flX9_26 rfl ?_
  refine j_iload_n (pc := 6) dX9_farFrom_6 rfl ?_
  obtain ⟨b1, H⟩ := ck_x H
  refine j_iaload (pc := 7) dX9_farFrom_7 rfl b1 rfl ?_
  refine j_aload_n (pc := 8) dX9_farFrom_8 rfl ?_
  refine j_getR (pc := 9) (b := 60) dX9_farFrom_9 flX9_30 rfl ?_
  refine j_iload_n (pc := 12) dX9_farFrom_12 rfl ?_
  obtain ⟨b2, H⟩ := ck_x H
  refine j_iaload (pc := 13) dX9_farFrom_13 rfl b2 rfl ?_
  refine j_aload_n (pc := 14) dX9_farFrom_14 rfl ?_
  refine j_getR (pc := 15) (b := 61) dX9_farFrom_15 flX9_33 rfl ?_
  refine j_iload_n (pc := 18) dX9_farFrom_18 rfl ?_
  obtain ⟨b3, H⟩ := ck_x H
  refine j_iaload (pc := 19) dX9_farFrom_19 rfl b3 rfl ?_
  obtain ⟨r5, h4, eh4, H⟩ := bd_x H
  refine j_callV (pc := 20) dX9_farFrom_20 mlX9_119 wyX9_numberOf (tX9_numberOf eh4) (by decide) rfl rfl rfl rfl (by simp [Value.category]) rfl ?_
  refine j_istore_n (pc := 23) (L' := [some (.ref 8), some (.int p1), some (.int p2), some (.int r5)]) dX9_farFrom_23 (by decide) rfl ?_
  refine j_iload_n (pc := 24) dX9_farFrom_24 rfl ?_
  refine j_aload_n (pc := 25) dX9_farFrom_25 rfl ?_
  refine j_getR (pc := 26) (b := 62) dX9_farFrom_26 flX9_36 rfl ?_
  refine j_iload_n (pc := 29) dX9_farFrom_29 rfl ?_
  obtain ⟨b6, H⟩ := ck_x H
  refine j_iaload (pc := 30) dX9_farFrom_30 rfl b6 rfl ?_
  refine j_isub (pc := 31) dX9_farFrom_31 ?_
  refine j_mabs (pc := 32) dX9_farFrom_32 wmX9_123 (by simp [Value.category]) ?_
  exact j_ireturn (pc := 35) dX9_farFrom_35 rfl (ri_1 H) (ri_2 H)

noncomputable def fX9_farFromGauges_4 : Nat → Int32 → Int32 → Int32 → HS → Option (Int32 × HS)
  | 0, _, _, _, _ => none
  | n + 1, v1, v2, v3, h => if (gI h 8 6) ≤ v3 then (some (v2, h)) else (bd (fX9_farFrom v3 v1 h) (fun r3 h2 => nm ((v2 + r3)) (fun v2_4 => nm (v3 + (1 : Int32)) (fun v3_5 => fX9_farFromGauges_4 n v1 v2_4 v3_5 h2))))
set_option maxRecDepth 100000 in
theorem jX9_farFromGauges_4 {r : Int32} {h0 : HS} : ∀ (n : Nat) (v1 : Int32) (v2 : Int32) (v3 : Int32) (h : HS), fX9_farFromGauges_4 n v1 v2 v3 h = some (r, h0) → Jx skC RX9 cX9_farFromGauges 4 (some .int) 6 (some (.int r)) h0 4 [some (.ref 8), some (.int v1), some (.int v2), some (.int v3)] [] h := by
  intro n
  induction n with
  | zero => intro v1 v2 v3  h H; cases H
  | succ n ih =>
    intro v1 v2 v3  h H
    rw [fX9_farFromGauges_4] at H
    refine j_iload_n (pc := 4) dX9_farFromGauges_4 rfl ?_
    refine j_aload_n (pc := 5) dX9_farFromGauges_5 rfl ?_
    refine j_getI (pc := 6) dX9_farFromGauges_6 flX9_113 rfl ?_
    refine j_icmp_ge (pc := 9) (tgt := 27) dX9_farFromGauges_9 (by decide) (fun c1 => ?_) (fun c1 => ?_)
    · rw [if_pos c1] at H
      refine j_iload_n (pc := 27) dX9_farFromGauges_27 rfl ?_
      exact j_ireturn (pc := 28) dX9_farFromGauges_28 rfl (ri_1 H) (ri_2 H)
    · rw [if_neg c1] at H
      refine j_iload_n (pc := 12) dX9_farFromGauges_12 rfl ?_
      refine j_aload_n (pc := 13) dX9_farFromGauges_13 rfl ?_
      refine j_iload_n (pc := 14) dX9_farFromGauges_14 rfl ?_
      refine j_iload_n (pc := 15) dX9_farFromGauges_15 rfl ?_
      obtain ⟨r3, h2, eh2, H⟩ := bd_x H
      refine j_callV (pc := 16) dX9_farFromGauges_16 mlX9_126 wyX9_farFrom (tX9_farFrom eh2) (by decide) rfl rfl rfl rfl (by simp [Value.category]) rfl ?_
      refine j_iadd (pc := 19) dX9_farFromGauges_19 ?_
      obtain ⟨v2_4, ev2_4, H⟩ := nm_x H
      refine j_topi ev2_4 ?_
      refine j_istore_n (pc := 20) (L' := [some (.ref 8), some (.int v1), some (.int v2_4), some (.int v3)]) dX9_farFromGauges_20 (by decide) rfl ?_
      obtain ⟨v3_5, ev3_5, H⟩ := nm_x H
      refine j_iinc (pc := 21) (L' := [some (.ref 8), some (.int v1), some (.int v2_4), some (.int v3_5)]) (w := 1) dX9_farFromGauges_21 rfl (by decide) (by decide) v3_5 ev3_5 rfl ?_
      refine j_goto (pc := 24) (tgt := 4) dX9_farFromGauges_24 (by decide) ?_
      refine Jx.sub (L' := [some (.ref 8), some (.int v1), some (.int v2_4), some (.int v3_5)]) (⟨rfl, ⟨rfl, ⟨rfl, ⟨rfl, trivial⟩⟩⟩⟩) ?_
      exact ih v1 v2_4 v3_5 h2 H
noncomputable def fX9_farFromGauges (p1 : Int32) (h : HS) : Option (Int32 × HS) := fX9_farFromGauges_4 FU p1 (0 : Int32) (0 : Int32) h
set_option maxRecDepth 100000 in
theorem tX9_farFromGauges {p1 : Int32} {r : Int32} {h h0 : HS} (H : fX9_farFromGauges p1 h = some (r, h0)) : Cn skC yX9_farFromGauges cX9_farFromGauges 4 (some .int) 6 [.ref 8, .int p1] h (some (.int r)) h0 := by
  refine Cn_of (L := [some (.ref 8), some (.int p1), none, none]) (by decide +kernel) (by simp [lg_sl, Value.category]) (fun ad => by simp [lg_sl, tv, Value.category]) (⟨rfl, ⟨rfl, trivial⟩⟩) ?_
  unfold fX9_farFromGauges at H
  refine j_iconst (pc := 0) (v := 0) dX9_farFromGauges_0 (by decide) ?_
  refine j_istore_n (pc := 1) (L' := [some (.ref 8), some (.int p1), some (.int (0 : Int32)), none]) dX9_farFromGauges_1 (by decide) rfl ?_
  refine j_iconst (pc := 2) (v := 0) dX9_farFromGauges_2 (by decide) ?_
  refine j_istore_n (pc := 3) (L' := [some (.ref 8), some (.int p1), some (.int (0 : Int32)), some (.int (0 : Int32))]) dX9_farFromGauges_3 (by decide) rfl ?_
  refine Jx.sub (L' := [some (.ref 8), some (.int p1), some (.int (0 : Int32)), some (.int (0 : Int32))]) (⟨rfl, ⟨rfl, ⟨rfl, ⟨rfl, trivial⟩⟩⟩⟩) ?_
  exact jX9_farFromGauges_4 FU p1 (0 : Int32) (0 : Int32) h H

noncomputable def fX9_fitting_69 (k4 : Int32 → Int32 → Int32 → HS → Option (Int32 × HS)) (v1 : Int32) (v3 : Int32) (s1 : Int32) (s0 : Int32) (h : HS) : Option (Int32 × HS) := nm ((s0 ||| s1)) (fun v2_8 => nm (v3 + (1 : Int32)) (fun v3_9 => k4 v1 v2_8 v3_9 h))
set_option maxRecDepth 100000 in
theorem jX9_fitting_69 {r : Int32} {h0 : HS} (k4 : Int32 → Int32 → Int32 → HS → Option (Int32 × HS)) (hk4 : ∀ (v1 : Int32) (v2 : Int32) (v3 : Int32) (h : HS), k4 v1 v2 v3 h = some (r, h0) → Jx skC RX9 cX9_fitting 6 (some .int) 6 (some (.int r)) h0 4 [some (.ref 8), some (.int v1), some (.int v2), some (.int v3), none, none] [] h) (v1 : Int32) (v3 : Int32) (s1 : Int32) (s0 : Int32) (h : HS) (H : fX9_fitting_69 k4 v1 v3 s1 s0 h = some (r, h0)) : Jx skC RX9 cX9_fitting 6 (some .int) 6 (some (.int r)) h0 69 [some (.ref 8), some (.int v1), none, some (.int v3), none, none] [.int s1, .int s0] h := by
  unfold fX9_fitting_69 at H
  refine j_ior (pc := 69) dX9_fitting_69 ?_
  obtain ⟨v2_8, ev2_8, H⟩ := nm_x H
  refine j_topi ev2_8 ?_
  refine j_istore_n (pc := 70) (L' := [some (.ref 8), some (.int v1), some (.int v2_8), some (.int v3), none, none]) dX9_fitting_70 (by decide) rfl ?_
  obtain ⟨v3_9, ev3_9, H⟩ := nm_x H
  refine j_iinc (pc := 71) (L' := [some (.ref 8), some (.int v1), some (.int v2_8), some (.int v3_9), none, none]) (w := 1) dX9_fitting_71 rfl (by decide) (by decide) v3_9 ev3_9 rfl ?_
  refine j_goto (pc := 74) (tgt := 4) dX9_fitting_74 (by decide) ?_
  refine Jx.sub (L' := [some (.ref 8), some (.int v1), some (.int v2_8), some (.int v3_9), none, none]) (⟨rfl, ⟨rfl, ⟨rfl, ⟨rfl, trivial⟩⟩⟩⟩) ?_
  exact hk4 v1 v2_8 v3_9 h H
noncomputable def fX9_fitting_48 (k4 : Int32 → Int32 → Int32 → HS → Option (Int32 × HS)) (k18 : Int32 → Int32 → Int32 → Int32 → Int32 → HS → Option (Int32 × HS)) (v1 : Int32) (v2 : Int32) (v3 : Int32) (v5 : Int32) (s0 : Int32) (h : HS) : Option (Int32 × HS) := nm (v5 + (1 : Int32)) (fun v5_10 => k18 v1 v2 v3 s0 v5_10 h)
set_option maxRecDepth 100000 in
theorem jX9_fitting_48 {r : Int32} {h0 : HS} (k4 : Int32 → Int32 → Int32 → HS → Option (Int32 × HS)) (k18 : Int32 → Int32 → Int32 → Int32 → Int32 → HS → Option (Int32 × HS)) (hk4 : ∀ (v1 : Int32) (v2 : Int32) (v3 : Int32) (h : HS), k4 v1 v2 v3 h = some (r, h0) → Jx skC RX9 cX9_fitting 6 (some .int) 6 (some (.int r)) h0 4 [some (.ref 8), some (.int v1), some (.int v2), some (.int v3), none, none] [] h) (hk18 : ∀ (v1 : Int32) (v2 : Int32) (v3 : Int32) (v4 : Int32) (v5 : Int32) (h : HS), k18 v1 v2 v3 v4 v5 h = some (r, h0) → Jx skC RX9 cX9_fitting 6 (some .int) 6 (some (.int r)) h0 18 [some (.ref 8), some (.int v1), some (.int v2), some (.int v3), some (.int v4), some (.int v5)] [] h) (v1 : Int32) (v2 : Int32) (v3 : Int32) (v5 : Int32) (s0 : Int32) (h : HS) (H : fX9_fitting_48 k4 k18 v1 v2 v3 v5 s0 h = some (r, h0)) : Jx skC RX9 cX9_fitting 6 (some .int) 6 (some (.int r)) h0 48 [some (.ref 8), some (.int v1), some (.int v2), some (.int v3), none, some (.int v5)] [.int s0] h := by
  unfold fX9_fitting_48 at H
  refine j_istore (pc := 48) (L' := [some (.ref 8), some (.int v1), some (.int v2), some (.int v3), some (.int s0), some (.int v5)]) dX9_fitting_48 (by decide) rfl ?_
  obtain ⟨v5_10, ev5_10, H⟩ := nm_x H
  refine j_iinc (pc := 50) (L' := [some (.ref 8), some (.int v1), some (.int v2), some (.int v3), some (.int s0), some (.int v5_10)]) (w := 1) dX9_fitting_50 rfl (by decide) (by decide) v5_10 ev5_10 rfl ?_
  refine j_goto (pc := 53) (tgt := 18) dX9_fitting_53 (by decide) ?_
  refine Jx.sub (L' := [some (.ref 8), some (.int v1), some (.int v2), some (.int v3), some (.int s0), some (.int v5_10)]) (⟨rfl, ⟨rfl, ⟨rfl, ⟨rfl, ⟨rfl, ⟨rfl, trivial⟩⟩⟩⟩⟩⟩) ?_
  exact hk18 v1 v2 v3 s0 v5_10 h H
noncomputable def fX9_fitting_47 (k4 : Int32 → Int32 → Int32 → HS → Option (Int32 × HS)) (k18 : Int32 → Int32 → Int32 → Int32 → Int32 → HS → Option (Int32 × HS)) (v1 : Int32) (v2 : Int32) (v3 : Int32) (v5 : Int32) (h : HS) : Option (Int32 × HS) := fX9_fitting_48 k4 k18 v1 v2 v3 v5 (0 : Int32) h
set_option maxRecDepth 100000 in
theorem jX9_fitting_47 {r : Int32} {h0 : HS} (k4 : Int32 → Int32 → Int32 → HS → Option (Int32 × HS)) (k18 : Int32 → Int32 → Int32 → Int32 → Int32 → HS → Option (Int32 × HS)) (hk4 : ∀ (v1 : Int32) (v2 : Int32) (v3 : Int32) (h : HS), k4 v1 v2 v3 h = some (r, h0) → Jx skC RX9 cX9_fitting 6 (some .int) 6 (some (.int r)) h0 4 [some (.ref 8), some (.int v1), some (.int v2), some (.int v3), none, none] [] h) (hk18 : ∀ (v1 : Int32) (v2 : Int32) (v3 : Int32) (v4 : Int32) (v5 : Int32) (h : HS), k18 v1 v2 v3 v4 v5 h = some (r, h0) → Jx skC RX9 cX9_fitting 6 (some .int) 6 (some (.int r)) h0 18 [some (.ref 8), some (.int v1), some (.int v2), some (.int v3), some (.int v4), some (.int v5)] [] h) (v1 : Int32) (v2 : Int32) (v3 : Int32) (v5 : Int32) (h : HS) (H : fX9_fitting_47 k4 k18 v1 v2 v3 v5 h = some (r, h0)) : Jx skC RX9 cX9_fitting 6 (some .int) 6 (some (.int r)) h0 47 [some (.ref 8), some (.int v1), some (.int v2), some (.int v3), none, some (.int v5)] [] h := by
  unfold fX9_fitting_47 at H
  refine j_iconst (pc := 47) (v := 0) dX9_fitting_47 (by decide) ?_
  refine Jx.sub (L' := [some (.ref 8), some (.int v1), some (.int v2), some (.int v3), none, some (.int v5)]) (⟨rfl, ⟨rfl, ⟨rfl, ⟨rfl, ⟨rfl, trivial⟩⟩⟩⟩⟩) ?_
  exact jX9_fitting_48 _ _ hk4 hk18 v1 v2 v3 v5 (0 : Int32) h H
noncomputable def fX9_fitting_18 (k4 : Int32 → Int32 → Int32 → HS → Option (Int32 × HS)) : Nat → Int32 → Int32 → Int32 → Int32 → Int32 → HS → Option (Int32 × HS)
  | 0, _, _, _, _, _, _ => none
  | n + 1, v1, v2, v3, v4, v5, h => if (gI h 8 6) ≤ v5 then (if v4 = 0 then (fX9_fitting_69 k4 v1 v3 (0 : Int32) v2 h) else (fX9_fitting_69 k4 v1 v3 (((1 : Int32) <<< (v3 &&& 31))) v2 h)) else (if v4 = 0 then (fX9_fitting_47 k4 (fX9_fitting_18 k4 n) v1 v2 v3 v5 h) else (bd (fX9_farFrom v5 v3 h) (fun r6 h5 => if v1 < r6 then (fX9_fitting_47 k4 (fX9_fitting_18 k4 n) v1 v2 v3 v5 h5) else (fX9_fitting_48 k4 (fX9_fitting_18 k4 n) v1 v2 v3 v5 (1 : Int32) h5))))
set_option maxRecDepth 100000 in
theorem jX9_fitting_18 {r : Int32} {h0 : HS} (k4 : Int32 → Int32 → Int32 → HS → Option (Int32 × HS)) (hk4 : ∀ (v1 : Int32) (v2 : Int32) (v3 : Int32) (h : HS), k4 v1 v2 v3 h = some (r, h0) → Jx skC RX9 cX9_fitting 6 (some .int) 6 (some (.int r)) h0 4 [some (.ref 8), some (.int v1), some (.int v2), some (.int v3), none, none] [] h) : ∀ (n : Nat) (v1 : Int32) (v2 : Int32) (v3 : Int32) (v4 : Int32) (v5 : Int32) (h : HS), fX9_fitting_18 k4 n v1 v2 v3 v4 v5 h = some (r, h0) → Jx skC RX9 cX9_fitting 6 (some .int) 6 (some (.int r)) h0 18 [some (.ref 8), some (.int v1), some (.int v2), some (.int v3), some (.int v4), some (.int v5)] [] h := by
  intro n
  induction n with
  | zero => intro v1 v2 v3 v4 v5  h H; cases H
  | succ n ih =>
    intro v1 v2 v3 v4 v5  h H
    rw [fX9_fitting_18] at H
    refine j_iload (pc := 18) dX9_fitting_18 rfl ?_
    refine j_aload_n (pc := 20) dX9_fitting_20 rfl ?_
    refine j_getI (pc := 21) dX9_fitting_21 flX9_113 rfl ?_
    refine j_icmp_ge (pc := 24) (tgt := 56) dX9_fitting_24 (by decide) (fun c2 => ?_) (fun c2 => ?_)
    · rw [if_pos c2] at H
      refine j_iload_n (pc := 56) dX9_fitting_56 rfl ?_
      refine j_iload (pc := 57) dX9_fitting_57 rfl ?_
      refine j_if_eq (pc := 59) (tgt := 68) dX9_fitting_59 (by decide) (fun c3 => ?_) (fun c3 => ?_)
      · rw [if_pos c3] at H
        refine j_iconst (pc := 68) (v := 0) dX9_fitting_68 (by decide) ?_
        refine Jx.sub (L' := [some (.ref 8), some (.int v1), none, some (.int v3), none, none]) (⟨rfl, ⟨rfl, ⟨rfl, trivial⟩⟩⟩) ?_
        exact jX9_fitting_69 _ hk4 v1 v3 (0 : Int32) v2 h H
      · rw [if_neg c3] at H
        refine j_iconst (pc := 62) (v := 1) dX9_fitting_62 (by decide) ?_
        refine j_iload_n (pc := 63) dX9_fitting_63 rfl ?_
        refine j_ishl (pc := 64) dX9_fitting_64 ?_
        refine j_goto (pc := 65) (tgt := 69) dX9_fitting_65 (by decide) ?_
        refine Jx.sub (L' := [some (.ref 8), some (.int v1), none, some (.int v3), none, none]) (⟨rfl, ⟨rfl, ⟨rfl, trivial⟩⟩⟩) ?_
        exact jX9_fitting_69 _ hk4 v1 v3 (((1 : Int32) <<< (v3 &&& 31))) v2 h H
    · rw [if_neg c2] at H
      refine j_iload (pc := 27) dX9_fitting_27 rfl ?_
      refine j_if_eq (pc := 29) (tgt := 47) dX9_fitting_29 (by decide) (fun c4 => ?_) (fun c4 => ?_)
      · rw [if_pos c4] at H
        refine Jx.sub (L' := [some (.ref 8), some (.int v1), some (.int v2), some (.int v3), none, some (.int v5)]) (⟨rfl, ⟨rfl, ⟨rfl, ⟨rfl, ⟨rfl, trivial⟩⟩⟩⟩⟩) ?_
        exact jX9_fitting_47 _ _ hk4 ih v1 v2 v3 v5 h H
      · rw [if_neg c4] at H
        refine j_aload_n (pc := 32) dX9_fitting_32 rfl ?_
        refine j_iload (pc := 33) dX9_fitting_33 rfl ?_
        refine j_iload_n (pc := 35) dX9_fitting_35 rfl ?_
        obtain ⟨r6, h5, eh5, H⟩ := bd_x H
        refine j_callV (pc := 36) dX9_fitting_36 mlX9_126 wyX9_farFrom (tX9_farFrom eh5) (by decide) rfl rfl rfl rfl (by simp [Value.category]) rfl ?_
        refine j_iload_n (pc := 39) dX9_fitting_39 rfl ?_
        refine j_icmp_gt (pc := 40) (tgt := 47) dX9_fitting_40 (by decide) (fun c7 => ?_) (fun c7 => ?_)
        · rw [if_pos c7] at H
          refine Jx.sub (L' := [some (.ref 8), some (.int v1), some (.int v2), some (.int v3), none, some (.int v5)]) (⟨rfl, ⟨rfl, ⟨rfl, ⟨rfl, ⟨rfl, trivial⟩⟩⟩⟩⟩) ?_
          exact jX9_fitting_47 _ _ hk4 ih v1 v2 v3 v5 h5 H
        · rw [if_neg c7] at H
          refine j_iconst (pc := 43) (v := 1) dX9_fitting_43 (by decide) ?_
          refine j_goto (pc := 44) (tgt := 48) dX9_fitting_44 (by decide) ?_
          refine Jx.sub (L' := [some (.ref 8), some (.int v1), some (.int v2), some (.int v3), none, some (.int v5)]) (⟨rfl, ⟨rfl, ⟨rfl, ⟨rfl, ⟨rfl, trivial⟩⟩⟩⟩⟩) ?_
          exact jX9_fitting_48 _ _ hk4 ih v1 v2 v3 v5 (1 : Int32) h5 H
noncomputable def fX9_fitting_4 : Nat → Int32 → Int32 → Int32 → HS → Option (Int32 × HS)
  | 0, _, _, _, _ => none
  | n + 1, v1, v2, v3, h => if (gI h 8 3) ≤ v3 then (some (v2, h)) else (fX9_fitting_18 (fX9_fitting_4 n) FU v1 v2 v3 (1 : Int32) (0 : Int32) h)
set_option maxRecDepth 100000 in
theorem jX9_fitting_4 {r : Int32} {h0 : HS} : ∀ (n : Nat) (v1 : Int32) (v2 : Int32) (v3 : Int32) (h : HS), fX9_fitting_4 n v1 v2 v3 h = some (r, h0) → Jx skC RX9 cX9_fitting 6 (some .int) 6 (some (.int r)) h0 4 [some (.ref 8), some (.int v1), some (.int v2), some (.int v3), none, none] [] h := by
  intro n
  induction n with
  | zero => intro v1 v2 v3  h H; cases H
  | succ n ih =>
    intro v1 v2 v3  h H
    rw [fX9_fitting_4] at H
    refine j_iload_n (pc := 4) dX9_fitting_4 rfl ?_
    refine j_aload_n (pc := 5) dX9_fitting_5 rfl ?_
    refine j_getI (pc := 6) dX9_fitting_6 flX9_50 rfl ?_
    refine j_icmp_ge (pc := 9) (tgt := 77) dX9_fitting_9 (by decide) (fun c1 => ?_) (fun c1 => ?_)
    · rw [if_pos c1] at H
      refine j_iload_n (pc := 77) dX9_fitting_77 rfl ?_
      exact j_ireturn (pc := 78) dX9_fitting_78 rfl (ri_1 H) (ri_2 H)
    · rw [if_neg c1] at H
      refine j_iconst (pc := 12) (v := 1) dX9_fitting_12 (by decide) ?_
      refine j_istore (pc := 13) (L' := [some (.ref 8), some (.int v1), some (.int v2), some (.int v3), some (.int (1 : Int32)), none]) dX9_fitting_13 (by decide) rfl ?_
      refine j_iconst (pc := 15) (v := 0) dX9_fitting_15 (by decide) ?_
      refine j_istore (pc := 16) (L' := [some (.ref 8), some (.int v1), some (.int v2), some (.int v3), some (.int (1 : Int32)), some (.int (0 : Int32))]) dX9_fitting_16 (by decide) rfl ?_
      refine Jx.sub (L' := [some (.ref 8), some (.int v1), some (.int v2), some (.int v3), some (.int (1 : Int32)), some (.int (0 : Int32))]) (⟨rfl, ⟨rfl, ⟨rfl, ⟨rfl, ⟨rfl, ⟨rfl, trivial⟩⟩⟩⟩⟩⟩) ?_
      exact jX9_fitting_18 _ ih FU v1 v2 v3 (1 : Int32) (0 : Int32) h H
noncomputable def fX9_fitting (p1 : Int32) (h : HS) : Option (Int32 × HS) := fX9_fitting_4 FU p1 (0 : Int32) (0 : Int32) h
set_option maxRecDepth 100000 in
theorem tX9_fitting {p1 : Int32} {r : Int32} {h h0 : HS} (H : fX9_fitting p1 h = some (r, h0)) : Cn skC yX9_fitting cX9_fitting 6 (some .int) 6 [.ref 8, .int p1] h (some (.int r)) h0 := by
  refine Cn_of (L := [some (.ref 8), some (.int p1), none, none, none, none]) (by decide +kernel) (by simp [lg_sl, Value.category]) (fun ad => by simp [lg_sl, tv, Value.category]) (⟨rfl, ⟨rfl, trivial⟩⟩) ?_
  unfold fX9_fitting at H
  refine j_iconst (pc := 0) (v := 0) dX9_fitting_0 (by decide) ?_
  refine j_istore_n (pc := 1) (L' := [some (.ref 8), some (.int p1), some (.int (0 : Int32)), none, none, none]) dX9_fitting_1 (by decide) rfl ?_
  refine j_iconst (pc := 2) (v := 0) dX9_fitting_2 (by decide) ?_
  refine j_istore_n (pc := 3) (L' := [some (.ref 8), some (.int p1), some (.int (0 : Int32)), some (.int (0 : Int32)), none, none]) dX9_fitting_3 (by decide) rfl ?_
  refine Jx.sub (L' := [some (.ref 8), some (.int p1), some (.int (0 : Int32)), some (.int (0 : Int32)), none, none]) (⟨rfl, ⟨rfl, ⟨rfl, ⟨rfl, trivial⟩⟩⟩⟩) ?_
  exact jX9_fitting_4 FU p1 (0 : Int32) (0 : Int32) h H

noncomputable def fX9_apartAt (p1 : Int32) (p2 : Int32) (p3 : Int32) (p4 : Int32) (h : HS) : Option (Int32 × HS) := ck (inb p1 6) (ck (inb p4 3) (ck (inb p2 6) (ck (inb p4 3) (ck (inb p1 6) (ck (inb p4 3) (ck (inb p2 6) (ck (inb p4 3) (some ((((gI h (46 + p1.toNatClampNeg) p4.toNatClampNeg) - (gI h (46 + p2.toNatClampNeg) p4.toNatClampNeg)) + (p3 * ((gI h (53 + p1.toNatClampNeg) p4.toNatClampNeg) - (gI h (53 + p2.toNatClampNeg) p4.toNatClampNeg)))), h)))))))))
set_option maxRecDepth 100000 in
theorem tX9_apartAt {p1 : Int32} {p2 : Int32} {p3 : Int32} {p4 : Int32} {r : Int32} {h h0 : HS} (H : fX9_apartAt p1 p2 p3 p4 h = some (r, h0)) : Cn skC yX9_apartAt cX9_apartAt 5 (some .int) 0 [.ref 8, .int p1, .int p2, .int p3, .int p4] h (some (.int r)) h0 := by
  refine Cn_of (L := [some (.ref 8), some (.int p1), some (.int p2), some (.int p3), some (.int p4)]) (by decide +kernel) (by simp [lg_sl, Value.category]) (fun ad => by simp [lg_sl, tv, Value.category]) (⟨rfl, ⟨rfl, ⟨rfl, ⟨rfl, ⟨rfl, trivial⟩⟩⟩⟩⟩) ?_
  unfold fX9_apartAt at H
  refine j_aload_n (pc := 0) dX9_apartAt_0 rfl ?_
  refine j_getR (pc := 1) (b := 45) dX9_apartAt_1 flX9_20 rfl ?_
  refine j_iload_n (pc := 4) dX9_apartAt_4 rfl ?_
  obtain ⟨b1, H⟩ := ck_x H
  refine j_aaload (pc := 5) dX9_apartAt_5 rfl b1 ?_
  refine j_iload (pc := 6) dX9_apartAt_6 rfl ?_
  obtain ⟨b2, H⟩ := ck_x H
  refine j_iaload (pc := 8) dX9_apartAt_8 (row_45 b1) b2 rfl ?_
  refine j_aload_n (pc := 9) dX9_apartAt_9 rfl ?_
  refine j_getR (pc := 10) (b := 45) dX9_apartAt_10 flX9_20 rfl ?_
  refine j_iload_n (pc := 13) dX9_apartAt_13 rfl ?_
  obtain ⟨b3, H⟩ := ck_x H
  refine j_aaload (pc := 14) dX9_apartAt_14 rfl b3 ?_
  refine j_iload (pc := 15) dX9_apartAt_15 rfl ?_
  obtain ⟨b4, H⟩ := ck_x H
  refine j_iaload (pc := 17) dX9_apartAt_17 (row_45 b3) b4 rfl ?_
  refine j_isub (pc := 18) dX9_apartAt_18 ?_
  refine j_iload_n (pc := 19) dX9_apartAt_19 rfl ?_
  refine j_aload_n (pc := 20) dX9_apartAt_20 rfl ?_
  refine j_getR (pc := 21) (b := 52) dX9_apartAt_21 flX9_23 rfl ?_
  refine j_iload_n (pc := 24) dX9_apartAt_24 rfl ?_
  obtain ⟨b5, H⟩ := ck_x H
  refine j_aaload (pc := 25) dX9_apartAt_25 rfl b5 ?_
  refine j_iload (pc := 26) dX9_apartAt_26 rfl ?_
  obtain ⟨b6, H⟩ := ck_x H
  refine j_iaload (pc := 28) dX9_apartAt_28 (row_52 b5) b6 rfl ?_
  refine j_aload_n (pc := 29) dX9_apartAt_29 rfl ?_
  refine j_getR (pc := 30) (b := 52) dX9_apartAt_30 flX9_23 rfl ?_
  refine j_iload_n (pc := 33) dX9_apartAt_33 rfl ?_
  obtain ⟨b7, H⟩ := ck_x H
  refine j_aaload (pc := 34) dX9_apartAt_34 rfl b7 ?_
  refine j_iload (pc := 35) dX9_apartAt_35 rfl ?_
  obtain ⟨b8, H⟩ := ck_x H
  refine j_iaload (pc := 37) dX9_apartAt_37 (row_52 b7) b8 rfl ?_
  refine j_isub (pc := 38) dX9_apartAt_38 ?_
  refine j_imul (pc := 39) dX9_apartAt_39 ?_
  refine j_iadd (pc := 40) dX9_apartAt_40 ?_
  exact j_ireturn (pc := 41) dX9_apartAt_41 rfl (ri_1 H) (ri_2 H)

noncomputable def fX9_mostTogether_91 (k6 : Int32 → Int32 → Int32 → Int32 → Int32 → Int32 → HS → Option (Int32 × HS)) (k21 : Int32 → Int32 → Int32 → Int32 → Int32 → Int32 → Int32 → Int32 → HS → Option (Int32 × HS)) (v1 : Int32) (v2 : Int32) (v3 : Int32) (v4 : Int32) (v5 : Int32) (v6 : Int32) (v8 : Int32) (s1 : Int32) (s0 : Int32) (h : HS) : Option (Int32 × HS) := nm ((s0 + s1)) (fun v7_12 => nm (v8 + (1 : Int32)) (fun v8_13 => k21 v1 v2 v3 v4 v5 v6 v7_12 v8_13 h))
set_option maxRecDepth 100000 in
theorem jX9_mostTogether_91 {r : Int32} {h0 : HS} (k6 : Int32 → Int32 → Int32 → Int32 → Int32 → Int32 → HS → Option (Int32 × HS)) (k21 : Int32 → Int32 → Int32 → Int32 → Int32 → Int32 → Int32 → Int32 → HS → Option (Int32 × HS)) (hk6 : ∀ (v1 : Int32) (v2 : Int32) (v3 : Int32) (v4 : Int32) (v5 : Int32) (v6 : Int32) (h : HS), k6 v1 v2 v3 v4 v5 v6 h = some (r, h0) → Jx skC RX9 cX9_mostTogether 11 (some .int) 1 (some (.int r)) h0 6 [some (.ref 8), some (.int v1), some (.int v2), some (.int v3), some (.int v4), some (.int v5), some (.int v6), none, none, none, none] [] h) (hk21 : ∀ (v1 : Int32) (v2 : Int32) (v3 : Int32) (v4 : Int32) (v5 : Int32) (v6 : Int32) (v7 : Int32) (v8 : Int32) (h : HS), k21 v1 v2 v3 v4 v5 v6 v7 v8 h = some (r, h0) → Jx skC RX9 cX9_mostTogether 11 (some .int) 1 (some (.int r)) h0 21 [some (.ref 8), some (.int v1), some (.int v2), some (.int v3), some (.int v4), some (.int v5), some (.int v6), some (.int v7), some (.int v8), none, none] [] h) (v1 : Int32) (v2 : Int32) (v3 : Int32) (v4 : Int32) (v5 : Int32) (v6 : Int32) (v8 : Int32) (s1 : Int32) (s0 : Int32) (h : HS) (H : fX9_mostTogether_91 k6 k21 v1 v2 v3 v4 v5 v6 v8 s1 s0 h = some (r, h0)) : Jx skC RX9 cX9_mostTogether 11 (some .int) 1 (some (.int r)) h0 91 [some (.ref 8), some (.int v1), some (.int v2), some (.int v3), some (.int v4), some (.int v5), some (.int v6), none, some (.int v8), none, none] [.int s1, .int s0] h := by
  unfold fX9_mostTogether_91 at H
  refine j_iadd (pc := 91) dX9_mostTogether_91 ?_
  obtain ⟨v7_12, ev7_12, H⟩ := nm_x H
  refine j_topi ev7_12 ?_
  refine j_istore (pc := 92) (L' := [some (.ref 8), some (.int v1), some (.int v2), some (.int v3), some (.int v4), some (.int v5), some (.int v6), some (.int v7_12), some (.int v8), none, none]) dX9_mostTogether_92 (by decide) rfl ?_
  obtain ⟨v8_13, ev8_13, H⟩ := nm_x H
  refine j_iinc (pc := 94) (L' := [some (.ref 8), some (.int v1), some (.int v2), some (.int v3), some (.int v4), some (.int v5), some (.int v6), some (.int v7_12), some (.int v8_13), none, none]) (w := 1) dX9_mostTogether_94 rfl (by decide) (by decide) v8_13 ev8_13 rfl ?_
  refine j_goto (pc := 97) (tgt := 21) dX9_mostTogether_97 (by decide) ?_
  refine Jx.sub (L' := [some (.ref 8), some (.int v1), some (.int v2), some (.int v3), some (.int v4), some (.int v5), some (.int v6), some (.int v7_12), some (.int v8_13), none, none]) (⟨rfl, ⟨rfl, ⟨rfl, ⟨rfl, ⟨rfl, ⟨rfl, ⟨rfl, ⟨rfl, ⟨rfl, trivial⟩⟩⟩⟩⟩⟩⟩⟩⟩) ?_
  exact hk21 v1 v2 v3 v4 v5 v6 v7_12 v8_13 h H
noncomputable def fX9_mostTogether_90 (k6 : Int32 → Int32 → Int32 → Int32 → Int32 → Int32 → HS → Option (Int32 × HS)) (k21 : Int32 → Int32 → Int32 → Int32 → Int32 → Int32 → Int32 → Int32 → HS → Option (Int32 × HS)) (v1 : Int32) (v2 : Int32) (v3 : Int32) (v4 : Int32) (v5 : Int32) (v6 : Int32) (v8 : Int32) (s0 : Int32) (h : HS) : Option (Int32 × HS) := fX9_mostTogether_91 k6 k21 v1 v2 v3 v4 v5 v6 v8 (0 : Int32) s0 h
set_option maxRecDepth 100000 in
theorem jX9_mostTogether_90 {r : Int32} {h0 : HS} (k6 : Int32 → Int32 → Int32 → Int32 → Int32 → Int32 → HS → Option (Int32 × HS)) (k21 : Int32 → Int32 → Int32 → Int32 → Int32 → Int32 → Int32 → Int32 → HS → Option (Int32 × HS)) (hk6 : ∀ (v1 : Int32) (v2 : Int32) (v3 : Int32) (v4 : Int32) (v5 : Int32) (v6 : Int32) (h : HS), k6 v1 v2 v3 v4 v5 v6 h = some (r, h0) → Jx skC RX9 cX9_mostTogether 11 (some .int) 1 (some (.int r)) h0 6 [some (.ref 8), some (.int v1), some (.int v2), some (.int v3), some (.int v4), some (.int v5), some (.int v6), none, none, none, none] [] h) (hk21 : ∀ (v1 : Int32) (v2 : Int32) (v3 : Int32) (v4 : Int32) (v5 : Int32) (v6 : Int32) (v7 : Int32) (v8 : Int32) (h : HS), k21 v1 v2 v3 v4 v5 v6 v7 v8 h = some (r, h0) → Jx skC RX9 cX9_mostTogether 11 (some .int) 1 (some (.int r)) h0 21 [some (.ref 8), some (.int v1), some (.int v2), some (.int v3), some (.int v4), some (.int v5), some (.int v6), some (.int v7), some (.int v8), none, none] [] h) (v1 : Int32) (v2 : Int32) (v3 : Int32) (v4 : Int32) (v5 : Int32) (v6 : Int32) (v8 : Int32) (s0 : Int32) (h : HS) (H : fX9_mostTogether_90 k6 k21 v1 v2 v3 v4 v5 v6 v8 s0 h = some (r, h0)) : Jx skC RX9 cX9_mostTogether 11 (some .int) 1 (some (.int r)) h0 90 [some (.ref 8), some (.int v1), some (.int v2), some (.int v3), some (.int v4), some (.int v5), some (.int v6), none, some (.int v8), none, none] [.int s0] h := by
  unfold fX9_mostTogether_90 at H
  refine j_iconst (pc := 90) (v := 0) dX9_mostTogether_90 (by decide) ?_
  refine Jx.sub (L' := [some (.ref 8), some (.int v1), some (.int v2), some (.int v3), some (.int v4), some (.int v5), some (.int v6), none, some (.int v8), none, none]) (⟨rfl, ⟨rfl, ⟨rfl, ⟨rfl, ⟨rfl, ⟨rfl, ⟨rfl, ⟨rfl, trivial⟩⟩⟩⟩⟩⟩⟩⟩) ?_
  exact jX9_mostTogether_91 _ _ hk6 hk21 v1 v2 v3 v4 v5 v6 v8 (0 : Int32) s0 h H
noncomputable def fX9_mostTogether_55 (k6 : Int32 → Int32 → Int32 → Int32 → Int32 → Int32 → HS → Option (Int32 × HS)) (k21 : Int32 → Int32 → Int32 → Int32 → Int32 → Int32 → Int32 → Int32 → HS → Option (Int32 × HS)) (v1 : Int32) (v2 : Int32) (v3 : Int32) (v4 : Int32) (v5 : Int32) (v6 : Int32) (v7 : Int32) (v8 : Int32) (s0 : Int32) (h : HS) : Option (Int32 × HS) := bd (fX9_apartAt v6 v8 v3 v4 h) (fun r8 h7 => nm ((iabs r8)) (fun v10_9 => if s0 = 0 then (fX9_mostTogether_90 k6 k21 v1 v2 v3 v4 v5 v6 v8 v7 h7) else (if v2 < v10_9 then (fX9_mostTogether_90 k6 k21 v1 v2 v3 v4 v5 v6 v8 v7 h7) else (fX9_mostTogether_91 k6 k21 v1 v2 v3 v4 v5 v6 v8 (1 : Int32) v7 h7))))
set_option maxRecDepth 100000 in
theorem jX9_mostTogether_55 {r : Int32} {h0 : HS} (k6 : Int32 → Int32 → Int32 → Int32 → Int32 → Int32 → HS → Option (Int32 × HS)) (k21 : Int32 → Int32 → Int32 → Int32 → Int32 → Int32 → Int32 → Int32 → HS → Option (Int32 × HS)) (hk6 : ∀ (v1 : Int32) (v2 : Int32) (v3 : Int32) (v4 : Int32) (v5 : Int32) (v6 : Int32) (h : HS), k6 v1 v2 v3 v4 v5 v6 h = some (r, h0) → Jx skC RX9 cX9_mostTogether 11 (some .int) 1 (some (.int r)) h0 6 [some (.ref 8), some (.int v1), some (.int v2), some (.int v3), some (.int v4), some (.int v5), some (.int v6), none, none, none, none] [] h) (hk21 : ∀ (v1 : Int32) (v2 : Int32) (v3 : Int32) (v4 : Int32) (v5 : Int32) (v6 : Int32) (v7 : Int32) (v8 : Int32) (h : HS), k21 v1 v2 v3 v4 v5 v6 v7 v8 h = some (r, h0) → Jx skC RX9 cX9_mostTogether 11 (some .int) 1 (some (.int r)) h0 21 [some (.ref 8), some (.int v1), some (.int v2), some (.int v3), some (.int v4), some (.int v5), some (.int v6), some (.int v7), some (.int v8), none, none] [] h) (v1 : Int32) (v2 : Int32) (v3 : Int32) (v4 : Int32) (v5 : Int32) (v6 : Int32) (v7 : Int32) (v8 : Int32) (s0 : Int32) (h : HS) (H : fX9_mostTogether_55 k6 k21 v1 v2 v3 v4 v5 v6 v7 v8 s0 h = some (r, h0)) : Jx skC RX9 cX9_mostTogether 11 (some .int) 1 (some (.int r)) h0 55 [some (.ref 8), some (.int v1), some (.int v2), some (.int v3), some (.int v4), some (.int v5), some (.int v6), some (.int v7), some (.int v8), none, none] [.int s0] h := by
  unfold fX9_mostTogether_55 at H
  refine j_istore (pc := 55) (L' := [some (.ref 8), some (.int v1), some (.int v2), some (.int v3), some (.int v4), some (.int v5), some (.int v6), some (.int v7), some (.int v8), some (.int s0), none]) dX9_mostTogether_55 (by decide) rfl ?_
  refine j_aload_n (pc := 57) dX9_mostTogether_57 rfl ?_
  refine j_iload (pc := 58) dX9_mostTogether_58 rfl ?_
  refine j_iload (pc := 60) dX9_mostTogether_60 rfl ?_
  refine j_iload_n (pc := 62) dX9_mostTogether_62 rfl ?_
  refine j_iload (pc := 63) dX9_mostTogether_63 rfl ?_
  obtain ⟨r8, h7, eh7, H⟩ := bd_x H
  refine j_callV (pc := 65) dX9_mostTogether_65 mlX9_129 wyX9_apartAt (tX9_apartAt eh7) (by decide) rfl rfl rfl rfl (by simp [Value.category]) rfl ?_
  refine j_mabs (pc := 68) dX9_mostTogether_68 wmX9_123 (by simp [Value.category]) ?_
  obtain ⟨v10_9, ev10_9, H⟩ := nm_x H
  refine j_topi ev10_9 ?_
  refine j_istore (pc := 71) (L' := [some (.ref 8), some (.int v1), some (.int v2), some (.int v3), some (.int v4), some (.int v5), some (.int v6), some (.int v7), some (.int v8), some (.int s0), some (.int v10_9)]) dX9_mostTogether_71 (by decide) rfl ?_
  refine j_iload (pc := 73) dX9_mostTogether_73 rfl ?_
  refine j_iload (pc := 75) dX9_mostTogether_75 rfl ?_
  refine j_if_eq (pc := 77) (tgt := 90) dX9_mostTogether_77 (by decide) (fun c10 => ?_) (fun c10 => ?_)
  · rw [if_pos c10] at H
    refine Jx.sub (L' := [some (.ref 8), some (.int v1), some (.int v2), some (.int v3), some (.int v4), some (.int v5), some (.int v6), none, some (.int v8), none, none]) (⟨rfl, ⟨rfl, ⟨rfl, ⟨rfl, ⟨rfl, ⟨rfl, ⟨rfl, ⟨rfl, trivial⟩⟩⟩⟩⟩⟩⟩⟩) ?_
    exact jX9_mostTogether_90 _ _ hk6 hk21 v1 v2 v3 v4 v5 v6 v8 v7 h7 H
  · rw [if_neg c10] at H
    refine j_iload (pc := 80) dX9_mostTogether_80 rfl ?_
    refine j_iload_n (pc := 82) dX9_mostTogether_82 rfl ?_
    refine j_icmp_gt (pc := 83) (tgt := 90) dX9_mostTogether_83 (by decide) (fun c11 => ?_) (fun c11 => ?_)
    · rw [if_pos c11] at H
      refine Jx.sub (L' := [some (.ref 8), some (.int v1), some (.int v2), some (.int v3), some (.int v4), some (.int v5), some (.int v6), none, some (.int v8), none, none]) (⟨rfl, ⟨rfl, ⟨rfl, ⟨rfl, ⟨rfl, ⟨rfl, ⟨rfl, ⟨rfl, trivial⟩⟩⟩⟩⟩⟩⟩⟩) ?_
      exact jX9_mostTogether_90 _ _ hk6 hk21 v1 v2 v3 v4 v5 v6 v8 v7 h7 H
    · rw [if_neg c11] at H
      refine j_iconst (pc := 86) (v := 1) dX9_mostTogether_86 (by decide) ?_
      refine j_goto (pc := 87) (tgt := 91) dX9_mostTogether_87 (by decide) ?_
      refine Jx.sub (L' := [some (.ref 8), some (.int v1), some (.int v2), some (.int v3), some (.int v4), some (.int v5), some (.int v6), none, some (.int v8), none, none]) (⟨rfl, ⟨rfl, ⟨rfl, ⟨rfl, ⟨rfl, ⟨rfl, ⟨rfl, ⟨rfl, trivial⟩⟩⟩⟩⟩⟩⟩⟩) ?_
      exact jX9_mostTogether_91 _ _ hk6 hk21 v1 v2 v3 v4 v5 v6 v8 (1 : Int32) v7 h7 H
noncomputable def fX9_mostTogether_54 (k6 : Int32 → Int32 → Int32 → Int32 → Int32 → Int32 → HS → Option (Int32 × HS)) (k21 : Int32 → Int32 → Int32 → Int32 → Int32 → Int32 → Int32 → Int32 → HS → Option (Int32 × HS)) (v1 : Int32) (v2 : Int32) (v3 : Int32) (v4 : Int32) (v5 : Int32) (v6 : Int32) (v7 : Int32) (v8 : Int32) (h : HS) : Option (Int32 × HS) := fX9_mostTogether_55 k6 k21 v1 v2 v3 v4 v5 v6 v7 v8 (0 : Int32) h
set_option maxRecDepth 100000 in
theorem jX9_mostTogether_54 {r : Int32} {h0 : HS} (k6 : Int32 → Int32 → Int32 → Int32 → Int32 → Int32 → HS → Option (Int32 × HS)) (k21 : Int32 → Int32 → Int32 → Int32 → Int32 → Int32 → Int32 → Int32 → HS → Option (Int32 × HS)) (hk6 : ∀ (v1 : Int32) (v2 : Int32) (v3 : Int32) (v4 : Int32) (v5 : Int32) (v6 : Int32) (h : HS), k6 v1 v2 v3 v4 v5 v6 h = some (r, h0) → Jx skC RX9 cX9_mostTogether 11 (some .int) 1 (some (.int r)) h0 6 [some (.ref 8), some (.int v1), some (.int v2), some (.int v3), some (.int v4), some (.int v5), some (.int v6), none, none, none, none] [] h) (hk21 : ∀ (v1 : Int32) (v2 : Int32) (v3 : Int32) (v4 : Int32) (v5 : Int32) (v6 : Int32) (v7 : Int32) (v8 : Int32) (h : HS), k21 v1 v2 v3 v4 v5 v6 v7 v8 h = some (r, h0) → Jx skC RX9 cX9_mostTogether 11 (some .int) 1 (some (.int r)) h0 21 [some (.ref 8), some (.int v1), some (.int v2), some (.int v3), some (.int v4), some (.int v5), some (.int v6), some (.int v7), some (.int v8), none, none] [] h) (v1 : Int32) (v2 : Int32) (v3 : Int32) (v4 : Int32) (v5 : Int32) (v6 : Int32) (v7 : Int32) (v8 : Int32) (h : HS) (H : fX9_mostTogether_54 k6 k21 v1 v2 v3 v4 v5 v6 v7 v8 h = some (r, h0)) : Jx skC RX9 cX9_mostTogether 11 (some .int) 1 (some (.int r)) h0 54 [some (.ref 8), some (.int v1), some (.int v2), some (.int v3), some (.int v4), some (.int v5), some (.int v6), some (.int v7), some (.int v8), none, none] [] h := by
  unfold fX9_mostTogether_54 at H
  refine j_iconst (pc := 54) (v := 0) dX9_mostTogether_54 (by decide) ?_
  refine Jx.sub (L' := [some (.ref 8), some (.int v1), some (.int v2), some (.int v3), some (.int v4), some (.int v5), some (.int v6), some (.int v7), some (.int v8), none, none]) (⟨rfl, ⟨rfl, ⟨rfl, ⟨rfl, ⟨rfl, ⟨rfl, ⟨rfl, ⟨rfl, ⟨rfl, trivial⟩⟩⟩⟩⟩⟩⟩⟩⟩) ?_
  exact jX9_mostTogether_55 _ _ hk6 hk21 v1 v2 v3 v4 v5 v6 v7 v8 (0 : Int32) h H
noncomputable def fX9_mostTogether_21 (k6 : Int32 → Int32 → Int32 → Int32 → Int32 → Int32 → HS → Option (Int32 × HS)) : Nat → Int32 → Int32 → Int32 → Int32 → Int32 → Int32 → Int32 → Int32 → HS → Option (Int32 × HS)
  | 0, _, _, _, _, _, _, _, _, _ => none
  | n + 1, v1, v2, v3, v4, v5, v6, v7, v8, h => if (gI h 8 3) ≤ v8 then (nm ((imax v5 v7)) (fun v5_3 => nm (v6 + (1 : Int32)) (fun v6_4 => k6 v1 v2 v3 v4 v5_3 v6_4 h))) else (if ((v1 >>> (v6 &&& 31)) &&& (1 : Int32)) = (1 : Int32) then (if ((v1 >>> (v8 &&& 31)) &&& (1 : Int32)) = (1 : Int32) then (fX9_mostTogether_55 k6 (fX9_mostTogether_21 k6 n) v1 v2 v3 v4 v5 v6 v7 v8 (1 : Int32) h) else (fX9_mostTogether_54 k6 (fX9_mostTogether_21 k6 n) v1 v2 v3 v4 v5 v6 v7 v8 h)) else (fX9_mostTogether_54 k6 (fX9_mostTogether_21 k6 n) v1 v2 v3 v4 v5 v6 v7 v8 h))
set_option maxRecDepth 100000 in
theorem jX9_mostTogether_21 {r : Int32} {h0 : HS} (k6 : Int32 → Int32 → Int32 → Int32 → Int32 → Int32 → HS → Option (Int32 × HS)) (hk6 : ∀ (v1 : Int32) (v2 : Int32) (v3 : Int32) (v4 : Int32) (v5 : Int32) (v6 : Int32) (h : HS), k6 v1 v2 v3 v4 v5 v6 h = some (r, h0) → Jx skC RX9 cX9_mostTogether 11 (some .int) 1 (some (.int r)) h0 6 [some (.ref 8), some (.int v1), some (.int v2), some (.int v3), some (.int v4), some (.int v5), some (.int v6), none, none, none, none] [] h) : ∀ (n : Nat) (v1 : Int32) (v2 : Int32) (v3 : Int32) (v4 : Int32) (v5 : Int32) (v6 : Int32) (v7 : Int32) (v8 : Int32) (h : HS), fX9_mostTogether_21 k6 n v1 v2 v3 v4 v5 v6 v7 v8 h = some (r, h0) → Jx skC RX9 cX9_mostTogether 11 (some .int) 1 (some (.int r)) h0 21 [some (.ref 8), some (.int v1), some (.int v2), some (.int v3), some (.int v4), some (.int v5), some (.int v6), some (.int v7), some (.int v8), none, none] [] h := by
  intro n
  induction n with
  | zero => intro v1 v2 v3 v4 v5 v6 v7 v8  h H; cases H
  | succ n ih =>
    intro v1 v2 v3 v4 v5 v6 v7 v8  h H
    rw [fX9_mostTogether_21] at H
    refine j_iload (pc := 21) dX9_mostTogether_21 rfl ?_
    refine j_aload_n (pc := 23) dX9_mostTogether_23 rfl ?_
    refine j_getI (pc := 24) dX9_mostTogether_24 flX9_50 rfl ?_
    refine j_icmp_ge (pc := 27) (tgt := 100) dX9_mostTogether_27 (by decide) (fun c2 => ?_) (fun c2 => ?_)
    · rw [if_pos c2] at H
      refine j_iload (pc := 100) dX9_mostTogether_100 rfl ?_
      refine j_iload (pc := 102) dX9_mostTogether_102 rfl ?_
      refine j_mmax (pc := 104) dX9_mostTogether_104 wmX9_132 (by simp [Value.category]) ?_
      obtain ⟨v5_3, ev5_3, H⟩ := nm_x H
      refine j_topi ev5_3 ?_
      refine j_istore (pc := 107) (L' := [some (.ref 8), some (.int v1), some (.int v2), some (.int v3), some (.int v4), some (.int v5_3), some (.int v6), some (.int v7), some (.int v8), none, none]) dX9_mostTogether_107 (by decide) rfl ?_
      obtain ⟨v6_4, ev6_4, H⟩ := nm_x H
      refine j_iinc (pc := 109) (L' := [some (.ref 8), some (.int v1), some (.int v2), some (.int v3), some (.int v4), some (.int v5_3), some (.int v6_4), some (.int v7), some (.int v8), none, none]) (w := 1) dX9_mostTogether_109 rfl (by decide) (by decide) v6_4 ev6_4 rfl ?_
      refine j_goto (pc := 112) (tgt := 6) dX9_mostTogether_112 (by decide) ?_
      refine Jx.sub (L' := [some (.ref 8), some (.int v1), some (.int v2), some (.int v3), some (.int v4), some (.int v5_3), some (.int v6_4), none, none, none, none]) (⟨rfl, ⟨rfl, ⟨rfl, ⟨rfl, ⟨rfl, ⟨rfl, ⟨rfl, trivial⟩⟩⟩⟩⟩⟩⟩) ?_
      exact hk6 v1 v2 v3 v4 v5_3 v6_4 h H
    · rw [if_neg c2] at H
      refine j_iload_n (pc := 30) dX9_mostTogether_30 rfl ?_
      refine j_iload (pc := 31) dX9_mostTogether_31 rfl ?_
      refine j_ishr (pc := 33) dX9_mostTogether_33 ?_
      refine j_iconst (pc := 34) (v := 1) dX9_mostTogether_34 (by decide) ?_
      refine j_iand (pc := 35) dX9_mostTogether_35 ?_
      refine j_iconst (pc := 36) (v := 1) dX9_mostTogether_36 (by decide) ?_
      refine j_icmp_ne (pc := 37) (tgt := 54) dX9_mostTogether_37 (by decide) (fun c5 => ?_) (fun c5 => ?_)
      · rw [if_neg c5] at H
        refine Jx.sub (L' := [some (.ref 8), some (.int v1), some (.int v2), some (.int v3), some (.int v4), some (.int v5), some (.int v6), some (.int v7), some (.int v8), none, none]) (⟨rfl, ⟨rfl, ⟨rfl, ⟨rfl, ⟨rfl, ⟨rfl, ⟨rfl, ⟨rfl, ⟨rfl, trivial⟩⟩⟩⟩⟩⟩⟩⟩⟩) ?_
        exact jX9_mostTogether_54 _ _ hk6 ih v1 v2 v3 v4 v5 v6 v7 v8 h H
      · rw [if_pos c5] at H
        refine j_iload_n (pc := 40) dX9_mostTogether_40 rfl ?_
        refine j_iload (pc := 41) dX9_mostTogether_41 rfl ?_
        refine j_ishr (pc := 43) dX9_mostTogether_43 ?_
        refine j_iconst (pc := 44) (v := 1) dX9_mostTogether_44 (by decide) ?_
        refine j_iand (pc := 45) dX9_mostTogether_45 ?_
        refine j_iconst (pc := 46) (v := 1) dX9_mostTogether_46 (by decide) ?_
        refine j_icmp_ne (pc := 47) (tgt := 54) dX9_mostTogether_47 (by decide) (fun c6 => ?_) (fun c6 => ?_)
        · rw [if_neg c6] at H
          refine Jx.sub (L' := [some (.ref 8), some (.int v1), some (.int v2), some (.int v3), some (.int v4), some (.int v5), some (.int v6), some (.int v7), some (.int v8), none, none]) (⟨rfl, ⟨rfl, ⟨rfl, ⟨rfl, ⟨rfl, ⟨rfl, ⟨rfl, ⟨rfl, ⟨rfl, trivial⟩⟩⟩⟩⟩⟩⟩⟩⟩) ?_
          exact jX9_mostTogether_54 _ _ hk6 ih v1 v2 v3 v4 v5 v6 v7 v8 h H
        · rw [if_pos c6] at H
          refine j_iconst (pc := 50) (v := 1) dX9_mostTogether_50 (by decide) ?_
          refine j_goto (pc := 51) (tgt := 55) dX9_mostTogether_51 (by decide) ?_
          refine Jx.sub (L' := [some (.ref 8), some (.int v1), some (.int v2), some (.int v3), some (.int v4), some (.int v5), some (.int v6), some (.int v7), some (.int v8), none, none]) (⟨rfl, ⟨rfl, ⟨rfl, ⟨rfl, ⟨rfl, ⟨rfl, ⟨rfl, ⟨rfl, ⟨rfl, trivial⟩⟩⟩⟩⟩⟩⟩⟩⟩) ?_
          exact jX9_mostTogether_55 _ _ hk6 ih v1 v2 v3 v4 v5 v6 v7 v8 (1 : Int32) h H
noncomputable def fX9_mostTogether_6 : Nat → Int32 → Int32 → Int32 → Int32 → Int32 → Int32 → HS → Option (Int32 × HS)
  | 0, _, _, _, _, _, _, _ => none
  | n + 1, v1, v2, v3, v4, v5, v6, h => if (gI h 8 3) ≤ v6 then (some (v5, h)) else (fX9_mostTogether_21 (fX9_mostTogether_6 n) FU v1 v2 v3 v4 v5 v6 (0 : Int32) (0 : Int32) h)
set_option maxRecDepth 100000 in
theorem jX9_mostTogether_6 {r : Int32} {h0 : HS} : ∀ (n : Nat) (v1 : Int32) (v2 : Int32) (v3 : Int32) (v4 : Int32) (v5 : Int32) (v6 : Int32) (h : HS), fX9_mostTogether_6 n v1 v2 v3 v4 v5 v6 h = some (r, h0) → Jx skC RX9 cX9_mostTogether 11 (some .int) 1 (some (.int r)) h0 6 [some (.ref 8), some (.int v1), some (.int v2), some (.int v3), some (.int v4), some (.int v5), some (.int v6), none, none, none, none] [] h := by
  intro n
  induction n with
  | zero => intro v1 v2 v3 v4 v5 v6  h H; cases H
  | succ n ih =>
    intro v1 v2 v3 v4 v5 v6  h H
    rw [fX9_mostTogether_6] at H
    refine j_iload (pc := 6) dX9_mostTogether_6 rfl ?_
    refine j_aload_n (pc := 8) dX9_mostTogether_8 rfl ?_
    refine j_getI (pc := 9) dX9_mostTogether_9 flX9_50 rfl ?_
    refine j_icmp_ge (pc := 12) (tgt := 115) dX9_mostTogether_12 (by decide) (fun c1 => ?_) (fun c1 => ?_)
    · rw [if_pos c1] at H
      refine j_iload (pc := 115) dX9_mostTogether_115 rfl ?_
      exact j_ireturn (pc := 117) dX9_mostTogether_117 rfl (ri_1 H) (ri_2 H)
    · rw [if_neg c1] at H
      refine j_iconst (pc := 15) (v := 0) dX9_mostTogether_15 (by decide) ?_
      refine j_istore (pc := 16) (L' := [some (.ref 8), some (.int v1), some (.int v2), some (.int v3), some (.int v4), some (.int v5), some (.int v6), some (.int (0 : Int32)), none, none, none]) dX9_mostTogether_16 (by decide) rfl ?_
      refine j_iconst (pc := 18) (v := 0) dX9_mostTogether_18 (by decide) ?_
      refine j_istore (pc := 19) (L' := [some (.ref 8), some (.int v1), some (.int v2), some (.int v3), some (.int v4), some (.int v5), some (.int v6), some (.int (0 : Int32)), some (.int (0 : Int32)), none, none]) dX9_mostTogether_19 (by decide) rfl ?_
      refine Jx.sub (L' := [some (.ref 8), some (.int v1), some (.int v2), some (.int v3), some (.int v4), some (.int v5), some (.int v6), some (.int (0 : Int32)), some (.int (0 : Int32)), none, none]) (⟨rfl, ⟨rfl, ⟨rfl, ⟨rfl, ⟨rfl, ⟨rfl, ⟨rfl, ⟨rfl, ⟨rfl, trivial⟩⟩⟩⟩⟩⟩⟩⟩⟩) ?_
      exact jX9_mostTogether_21 _ ih FU v1 v2 v3 v4 v5 v6 (0 : Int32) (0 : Int32) h H
noncomputable def fX9_mostTogether (p1 : Int32) (p2 : Int32) (p3 : Int32) (p4 : Int32) (h : HS) : Option (Int32 × HS) := fX9_mostTogether_6 FU p1 p2 p3 p4 (0 : Int32) (0 : Int32) h
set_option maxRecDepth 100000 in
theorem tX9_mostTogether {p1 : Int32} {p2 : Int32} {p3 : Int32} {p4 : Int32} {r : Int32} {h h0 : HS} (H : fX9_mostTogether p1 p2 p3 p4 h = some (r, h0)) : Cn skC yX9_mostTogether cX9_mostTogether 11 (some .int) 1 [.ref 8, .int p1, .int p2, .int p3, .int p4] h (some (.int r)) h0 := by
  refine Cn_of (L := [some (.ref 8), some (.int p1), some (.int p2), some (.int p3), some (.int p4), none, none, none, none, none, none]) (by decide +kernel) (by simp [lg_sl, Value.category]) (fun ad => by simp [lg_sl, tv, Value.category]) (⟨rfl, ⟨rfl, ⟨rfl, ⟨rfl, ⟨rfl, trivial⟩⟩⟩⟩⟩) ?_
  unfold fX9_mostTogether at H
  refine j_iconst (pc := 0) (v := 0) dX9_mostTogether_0 (by decide) ?_
  refine j_istore (pc := 1) (L' := [some (.ref 8), some (.int p1), some (.int p2), some (.int p3), some (.int p4), some (.int (0 : Int32)), none, none, none, none, none]) dX9_mostTogether_1 (by decide) rfl ?_
  refine j_iconst (pc := 3) (v := 0) dX9_mostTogether_3 (by decide) ?_
  refine j_istore (pc := 4) (L' := [some (.ref 8), some (.int p1), some (.int p2), some (.int p3), some (.int p4), some (.int (0 : Int32)), some (.int (0 : Int32)), none, none, none, none]) dX9_mostTogether_4 (by decide) rfl ?_
  refine Jx.sub (L' := [some (.ref 8), some (.int p1), some (.int p2), some (.int p3), some (.int p4), some (.int (0 : Int32)), some (.int (0 : Int32)), none, none, none, none]) (⟨rfl, ⟨rfl, ⟨rfl, ⟨rfl, ⟨rfl, ⟨rfl, ⟨rfl, trivial⟩⟩⟩⟩⟩⟩⟩) ?_
  exact jX9_mostTogether_6 FU p1 p2 p3 p4 (0 : Int32) (0 : Int32) h H
