theorem dX12_product_0 : decode cX12_product 0 = .ok (.aload_n 0, 1) := by decide +kernel
theorem dX12_product_1 : decode cX12_product 1 = .ok (.iload_n 1, 1) := by decide +kernel
theorem dX12_product_2 : decode cX12_product 2 = .ok (.invokevirtual 249, 3) := by decide +kernel
theorem dX12_product_5 : decode cX12_product 5 = .ok (.istore_n 2, 1) := by decide +kernel
theorem dX12_product_6 : decode cX12_product 6 = .ok (.aload_n 0, 1) := by decide +kernel
theorem dX12_product_7 : decode cX12_product 7 = .ok (.bipush 42, 2) := by decide +kernel
theorem dX12_product_9 : decode cX12_product 9 = .ok (.invokevirtual 239, 3) := by decide +kernel
theorem dX12_product_12 : decode cX12_product 12 = .ok (.ifCond .eq 14, 3) := by decide +kernel
theorem dX12_product_15 : decode cX12_product 15 = .ok (.iload_n 2, 1) := by decide +kernel
theorem dX12_product_16 : decode cX12_product 16 = .ok (.aload_n 0, 1) := by decide +kernel
theorem dX12_product_17 : decode cX12_product 17 = .ok (.iload_n 1, 1) := by decide +kernel
theorem dX12_product_18 : decode cX12_product 18 = .ok (.invokevirtual 249, 3) := by decide +kernel
theorem dX12_product_21 : decode cX12_product 21 = .ok (.imul, 1) := by decide +kernel
theorem dX12_product_22 : decode cX12_product 22 = .ok (.istore_n 2, 1) := by decide +kernel
theorem dX12_product_23 : decode cX12_product 23 = .ok (.goto (-17), 3) := by decide +kernel
theorem dX12_product_26 : decode cX12_product 26 = .ok (.iload_n 2, 1) := by decide +kernel
theorem dX12_product_27 : decode cX12_product 27 = .ok (.ireturn, 1) := by decide +kernel
theorem dX12_sum_0 : decode cX12_sum 0 = .ok (.aload_n 0, 1) := by decide +kernel
theorem dX12_sum_1 : decode cX12_sum 1 = .ok (.iload_n 1, 1) := by decide +kernel
theorem dX12_sum_2 : decode cX12_sum 2 = .ok (.invokevirtual 246, 3) := by decide +kernel
theorem dX12_sum_5 : decode cX12_sum 5 = .ok (.istore_n 2, 1) := by decide +kernel
theorem dX12_sum_6 : decode cX12_sum 6 = .ok (.aload_n 0, 1) := by decide +kernel
theorem dX12_sum_7 : decode cX12_sum 7 = .ok (.invokevirtual 232, 3) := by decide +kernel
theorem dX12_sum_10 : decode cX12_sum 10 = .ok (.ifCond .eq 72, 3) := by decide +kernel
theorem dX12_sum_13 : decode cX12_sum 13 = .ok (.aload_n 0, 1) := by decide +kernel
theorem dX12_sum_14 : decode cX12_sum 14 = .ok (.invokevirtual 236, 3) := by decide +kernel
theorem dX12_sum_17 : decode cX12_sum 17 = .ok (.bipush 43, 2) := by decide +kernel
theorem dX12_sum_19 : decode cX12_sum 19 = .ok (.if_icmp .eq 12, 3) := by decide +kernel
theorem dX12_sum_22 : decode cX12_sum 22 = .ok (.aload_n 0, 1) := by decide +kernel
theorem dX12_sum_23 : decode cX12_sum 23 = .ok (.invokevirtual 236, 3) := by decide +kernel
theorem dX12_sum_26 : decode cX12_sum 26 = .ok (.bipush 45, 2) := by decide +kernel
theorem dX12_sum_28 : decode cX12_sum 28 = .ok (.if_icmp .ne 54, 3) := by decide +kernel
theorem dX12_sum_31 : decode cX12_sum 31 = .ok (.aload_n 0, 1) := by decide +kernel
theorem dX12_sum_32 : decode cX12_sum 32 = .ok (.invokevirtual 236, 3) := by decide +kernel
theorem dX12_sum_35 : decode cX12_sum 35 = .ok (.bipush 43, 2) := by decide +kernel
theorem dX12_sum_37 : decode cX12_sum 37 = .ok (.if_icmp .ne 7, 3) := by decide +kernel
theorem dX12_sum_40 : decode cX12_sum 40 = .ok (.iconst 1, 1) := by decide +kernel
theorem dX12_sum_41 : decode cX12_sum 41 = .ok (.goto 4, 3) := by decide +kernel
theorem dX12_sum_44 : decode cX12_sum 44 = .ok (.iconst 0, 1) := by decide +kernel
theorem dX12_sum_45 : decode cX12_sum 45 = .ok (.istore_n 3, 1) := by decide +kernel
theorem dX12_sum_46 : decode cX12_sum 46 = .ok (.aload_n 0, 1) := by decide +kernel
theorem dX12_sum_47 : decode cX12_sum 47 = .ok (.dup, 1) := by decide +kernel
theorem dX12_sum_48 : decode cX12_sum 48 = .ok (.getfield 217, 3) := by decide +kernel
theorem dX12_sum_51 : decode cX12_sum 51 = .ok (.iconst 1, 1) := by decide +kernel
theorem dX12_sum_52 : decode cX12_sum 52 = .ok (.iadd, 1) := by decide +kernel
theorem dX12_sum_53 : decode cX12_sum 53 = .ok (.putfield 217, 3) := by decide +kernel
theorem dX12_sum_56 : decode cX12_sum 56 = .ok (.aload_n 0, 1) := by decide +kernel
theorem dX12_sum_57 : decode cX12_sum 57 = .ok (.iload_n 1, 1) := by decide +kernel
theorem dX12_sum_58 : decode cX12_sum 58 = .ok (.invokevirtual 246, 3) := by decide +kernel
theorem dX12_sum_61 : decode cX12_sum 61 = .ok (.istore 4, 2) := by decide +kernel
theorem dX12_sum_63 : decode cX12_sum 63 = .ok (.iload_n 3, 1) := by decide +kernel
theorem dX12_sum_64 : decode cX12_sum 64 = .ok (.ifCond .eq 10, 3) := by decide +kernel
theorem dX12_sum_67 : decode cX12_sum 67 = .ok (.iload_n 2, 1) := by decide +kernel
theorem dX12_sum_68 : decode cX12_sum 68 = .ok (.iload 4, 2) := by decide +kernel
theorem dX12_sum_70 : decode cX12_sum 70 = .ok (.iadd, 1) := by decide +kernel
theorem dX12_sum_71 : decode cX12_sum 71 = .ok (.goto 7, 3) := by decide +kernel
theorem dX12_sum_74 : decode cX12_sum 74 = .ok (.iload_n 2, 1) := by decide +kernel
theorem dX12_sum_75 : decode cX12_sum 75 = .ok (.iload 4, 2) := by decide +kernel
theorem dX12_sum_77 : decode cX12_sum 77 = .ok (.isub, 1) := by decide +kernel
theorem dX12_sum_78 : decode cX12_sum 78 = .ok (.istore_n 2, 1) := by decide +kernel
theorem dX12_sum_79 : decode cX12_sum 79 = .ok (.goto (-73), 3) := by decide +kernel
theorem dX12_sum_82 : decode cX12_sum 82 = .ok (.iload_n 2, 1) := by decide +kernel
theorem dX12_sum_83 : decode cX12_sum 83 = .ok (.ireturn, 1) := by decide +kernel
theorem dX12_begin_0 : decode cX12_begin 0 = .ok (.aload_n 0, 1) := by decide +kernel
theorem dX12_begin_1 : decode cX12_begin 1 = .ok (.aload_n 1, 1) := by decide +kernel
theorem dX12_begin_2 : decode cX12_begin 2 = .ok (.putfield 226, 3) := by decide +kernel
theorem dX12_begin_5 : decode cX12_begin 5 = .ok (.aload_n 0, 1) := by decide +kernel
theorem dX12_begin_6 : decode cX12_begin 6 = .ok (.iload_n 2, 1) := by decide +kernel
theorem dX12_begin_7 : decode cX12_begin 7 = .ok (.putfield 220, 3) := by decide +kernel
theorem dX12_begin_10 : decode cX12_begin 10 = .ok (.aload_n 0, 1) := by decide +kernel
theorem dX12_begin_11 : decode cX12_begin 11 = .ok (.iload_n 3, 1) := by decide +kernel
theorem dX12_begin_12 : decode cX12_begin 12 = .ok (.putfield 223, 3) := by decide +kernel
theorem dX12_begin_15 : decode cX12_begin 15 = .ok (.aload_n 0, 1) := by decide +kernel
theorem dX12_begin_16 : decode cX12_begin 16 = .ok (.iconst 0, 1) := by decide +kernel
theorem dX12_begin_17 : decode cX12_begin 17 = .ok (.putfield 217, 3) := by decide +kernel
theorem dX12_begin_20 : decode cX12_begin 20 = .ok (.aload_n 0, 1) := by decide +kernel
theorem dX12_begin_21 : decode cX12_begin 21 = .ok (.iconst (-1), 1) := by decide +kernel
theorem dX12_begin_22 : decode cX12_begin 22 = .ok (.putfield 229, 3) := by decide +kernel
theorem dX12_begin_25 : decode cX12_begin 25 = .ok (.return_, 1) := by decide +kernel
theorem dX12_book_0 : decode cX12_book 0 = .ok (.aload_n 0, 1) := by decide +kernel
theorem dX12_book_1 : decode cX12_book 1 = .ok (.iconst 0, 1) := by decide +kernel
theorem dX12_book_2 : decode cX12_book 2 = .ok (.putfield 133, 3) := by decide +kernel
theorem dX12_book_5 : decode cX12_book 5 = .ok (.aload_n 0, 1) := by decide +kernel
theorem dX12_book_6 : decode cX12_book 6 = .ok (.aload_n 0, 1) := by decide +kernel
theorem dX12_book_7 : decode cX12_book 7 = .ok (.getfield 41, 3) := by decide +kernel
theorem dX12_book_10 : decode cX12_book 10 = .ok (.aload_n 0, 1) := by decide +kernel
theorem dX12_book_11 : decode cX12_book 11 = .ok (.getfield 214, 3) := by decide +kernel
theorem dX12_book_14 : decode cX12_book 14 = .ok (.bipush 60, 2) := by decide +kernel
theorem dX12_book_16 : decode cX12_book 16 = .ok (.invokevirtual 265, 3) := by decide +kernel
theorem dX12_book_19 : decode cX12_book 19 = .ok (.aload_n 0, 1) := by decide +kernel
theorem dX12_book_20 : decode cX12_book 20 = .ok (.iconst 0, 1) := by decide +kernel
theorem dX12_book_21 : decode cX12_book 21 = .ok (.putfield 214, 3) := by decide +kernel
theorem dX12_book_24 : decode cX12_book 24 = .ok (.iconst 0, 1) := by decide +kernel
theorem dX12_book_25 : decode cX12_book 25 = .ok (.istore_n 1, 1) := by decide +kernel
theorem dX12_book_26 : decode cX12_book 26 = .ok (.aload_n 0, 1) := by decide +kernel
theorem dX12_book_27 : decode cX12_book 27 = .ok (.getfield 220, 3) := by decide +kernel
theorem dX12_book_30 : decode cX12_book 30 = .ok (.ifCond .le 7, 3) := by decide +kernel
theorem dX12_book_33 : decode cX12_book 33 = .ok (.iconst 1, 1) := by decide +kernel
theorem dX12_book_34 : decode cX12_book 34 = .ok (.goto 4, 3) := by decide +kernel
theorem dX12_book_37 : decode cX12_book 37 = .ok (.iconst 0, 1) := by decide +kernel
theorem dX12_book_38 : decode cX12_book 38 = .ok (.istore_n 2, 1) := by decide +kernel
theorem dX12_book_39 : decode cX12_book 39 = .ok (.iload_n 2, 1) := by decide +kernel
theorem dX12_book_40 : decode cX12_book 40 = .ok (.ifCond .eq 53, 3) := by decide +kernel
theorem dX12_book_43 : decode cX12_book 43 = .ok (.aload_n 0, 1) := by decide +kernel
theorem dX12_book_44 : decode cX12_book 44 = .ok (.iconst 2, 1) := by decide +kernel
theorem dX12_book_45 : decode cX12_book 45 = .ok (.bipush 15, 2) := by decide +kernel
theorem dX12_book_47 : decode cX12_book 47 = .ok (.invokevirtual 259, 3) := by decide +kernel
theorem dX12_book_50 : decode cX12_book 50 = .ok (.istore_n 3, 1) := by decide +kernel
theorem dX12_book_51 : decode cX12_book 51 = .ok (.aload_n 0, 1) := by decide +kernel
theorem dX12_book_52 : decode cX12_book 52 = .ok (.bipush 61, 2) := by decide +kernel
theorem dX12_book_54 : decode cX12_book 54 = .ok (.invokevirtual 255, 3) := by decide +kernel
theorem dX12_book_57 : decode cX12_book 57 = .ok (.aload_n 0, 1) := by decide +kernel
theorem dX12_book_58 : decode cX12_book 58 = .ok (.getfield 60, 3) := by decide +kernel
theorem dX12_book_61 : decode cX12_book 61 = .ok (.iload_n 1, 1) := by decide +kernel
theorem dX12_book_62 : decode cX12_book 62 = .ok (.aload_n 0, 1) := by decide +kernel
theorem dX12_book_63 : decode cX12_book 63 = .ok (.getfield 217, 3) := by decide +kernel
theorem dX12_book_66 : decode cX12_book 66 = .ok (.iastore, 1) := by decide +kernel
theorem dX12_book_67 : decode cX12_book 67 = .ok (.aload_n 0, 1) := by decide +kernel
theorem dX12_book_68 : decode cX12_book 68 = .ok (.getfield 63, 3) := by decide +kernel
theorem dX12_book_71 : decode cX12_book 71 = .ok (.iload_n 1, 1) := by decide +kernel
theorem dX12_book_72 : decode cX12_book 72 = .ok (.iload_n 3, 1) := by decide +kernel
theorem dX12_book_73 : decode cX12_book 73 = .ok (.iastore, 1) := by decide +kernel
theorem dX12_book_74 : decode cX12_book 74 = .ok (.aload_n 0, 1) := by decide +kernel
theorem dX12_book_75 : decode cX12_book 75 = .ok (.iconst 0, 1) := by decide +kernel
theorem dX12_book_76 : decode cX12_book 76 = .ok (.invokevirtual 252, 3) := by decide +kernel
theorem dX12_book_79 : decode cX12_book 79 = .ok (.pop, 1) := by decide +kernel
theorem dX12_book_80 : decode cX12_book 80 = .ok (.iinc 1 1, 3) := by decide +kernel
theorem dX12_book_83 : decode cX12_book 83 = .ok (.aload_n 0, 1) := by decide +kernel
theorem dX12_book_84 : decode cX12_book 84 = .ok (.bipush 59, 2) := by decide +kernel
theorem dX12_book_86 : decode cX12_book 86 = .ok (.invokevirtual 239, 3) := by decide +kernel
theorem dX12_book_89 : decode cX12_book 89 = .ok (.istore_n 2, 1) := by decide +kernel
theorem dX12_book_90 : decode cX12_book 90 = .ok (.goto (-51), 3) := by decide +kernel
theorem dX12_book_93 : decode cX12_book 93 = .ok (.aload_n 0, 1) := by decide +kernel
theorem dX12_book_94 : decode cX12_book 94 = .ok (.getfield 217, 3) := by decide +kernel
theorem dX12_book_97 : decode cX12_book 97 = .ok (.aload_n 0, 1) := by decide +kernel
theorem dX12_book_98 : decode cX12_book 98 = .ok (.getfield 220, 3) := by decide +kernel
theorem dX12_book_101 : decode cX12_book 101 = .ok (.if_icmp .ge 11, 3) := by decide +kernel
theorem dX12_book_104 : decode cX12_book 104 = .ok (.aload_n 0, 1) := by decide +kernel
theorem dX12_book_105 : decode cX12_book 105 = .ok (.aload_n 0, 1) := by decide +kernel
theorem dX12_book_106 : decode cX12_book 106 = .ok (.getfield 217, 3) := by decide +kernel
theorem dX12_book_109 : decode cX12_book 109 = .ok (.invokevirtual 243, 3) := by decide +kernel
theorem dX12_book_112 : decode cX12_book 112 = .ok (.aload_n 0, 1) := by decide +kernel
theorem dX12_book_113 : decode cX12_book 113 = .ok (.invokevirtual 232, 3) := by decide +kernel
theorem dX12_book_116 : decode cX12_book 116 = .ok (.ifCond .ne 10, 3) := by decide +kernel
theorem dX12_book_119 : decode cX12_book 119 = .ok (.iconst (-1), 1) := by decide +kernel
theorem dX12_book_120 : decode cX12_book 120 = .ok (.aload_n 0, 1) := by decide +kernel
theorem dX12_book_121 : decode cX12_book 121 = .ok (.getfield 229, 3) := by decide +kernel
theorem dX12_book_124 : decode cX12_book 124 = .ok (.isub, 1) := by decide +kernel
theorem dX12_book_125 : decode cX12_book 125 = .ok (.ireturn, 1) := by decide +kernel
theorem dX12_book_126 : decode cX12_book 126 = .ok (.iconst 0, 1) := by decide +kernel
theorem dX12_book_127 : decode cX12_book 127 = .ok (.istore_n 3, 1) := by decide +kernel
theorem dX12_book_128 : decode cX12_book 128 = .ok (.iload_n 3, 1) := by decide +kernel
theorem dX12_book_129 : decode cX12_book 129 = .ok (.aload_n 0, 1) := by decide +kernel
theorem dX12_book_130 : decode cX12_book 130 = .ok (.getfield 220, 3) := by decide +kernel
theorem dX12_book_133 : decode cX12_book 133 = .ok (.if_icmp .ge 21, 3) := by decide +kernel
theorem dX12_book_136 : decode cX12_book 136 = .ok (.aload_n 0, 1) := by decide +kernel
theorem dX12_book_137 : decode cX12_book 137 = .ok (.getfield 51, 3) := by decide +kernel
theorem dX12_book_140 : decode cX12_book 140 = .ok (.iload_n 3, 1) := by decide +kernel
theorem dX12_book_141 : decode cX12_book 141 = .ok (.aload_n 0, 1) := by decide +kernel
theorem dX12_book_142 : decode cX12_book 142 = .ok (.getfield 41, 3) := by decide +kernel
theorem dX12_book_145 : decode cX12_book 145 = .ok (.iload_n 3, 1) := by decide +kernel
theorem dX12_book_146 : decode cX12_book 146 = .ok (.baload, 1) := by decide +kernel
theorem dX12_book_147 : decode cX12_book 147 = .ok (.bastore, 1) := by decide +kernel
theorem dX12_book_148 : decode cX12_book 148 = .ok (.iinc 3 1, 3) := by decide +kernel
theorem dX12_book_151 : decode cX12_book 151 = .ok (.goto (-23), 3) := by decide +kernel
theorem dX12_book_154 : decode cX12_book 154 = .ok (.aload_n 0, 1) := by decide +kernel
theorem dX12_book_155 : decode cX12_book 155 = .ok (.aload_n 0, 1) := by decide +kernel
theorem dX12_book_156 : decode cX12_book 156 = .ok (.getfield 220, 3) := by decide +kernel
theorem dX12_book_159 : decode cX12_book 159 = .ok (.putfield 269, 3) := by decide +kernel
theorem dX12_book_162 : decode cX12_book 162 = .ok (.iconst 0, 1) := by decide +kernel
theorem dX12_book_163 : decode cX12_book 163 = .ok (.istore_n 3, 1) := by decide +kernel
theorem dX12_book_164 : decode cX12_book 164 = .ok (.iload_n 3, 1) := by decide +kernel
theorem dX12_book_165 : decode cX12_book 165 = .ok (.iload_n 1, 1) := by decide +kernel
theorem dX12_book_166 : decode cX12_book 166 = .ok (.if_icmp .ge 33, 3) := by decide +kernel
theorem dX12_book_169 : decode cX12_book 169 = .ok (.aload_n 0, 1) := by decide +kernel
theorem dX12_book_170 : decode cX12_book 170 = .ok (.getfield 54, 3) := by decide +kernel
theorem dX12_book_173 : decode cX12_book 173 = .ok (.iload_n 3, 1) := by decide +kernel
theorem dX12_book_174 : decode cX12_book 174 = .ok (.aload_n 0, 1) := by decide +kernel
theorem dX12_book_175 : decode cX12_book 175 = .ok (.getfield 60, 3) := by decide +kernel
theorem dX12_book_178 : decode cX12_book 178 = .ok (.iload_n 3, 1) := by decide +kernel
theorem dX12_book_179 : decode cX12_book 179 = .ok (.iaload, 1) := by decide +kernel
theorem dX12_book_180 : decode cX12_book 180 = .ok (.iastore, 1) := by decide +kernel
theorem dX12_book_181 : decode cX12_book 181 = .ok (.aload_n 0, 1) := by decide +kernel
theorem dX12_book_182 : decode cX12_book 182 = .ok (.getfield 57, 3) := by decide +kernel
theorem dX12_book_185 : decode cX12_book 185 = .ok (.iload_n 3, 1) := by decide +kernel
theorem dX12_book_186 : decode cX12_book 186 = .ok (.aload_n 0, 1) := by decide +kernel
theorem dX12_book_187 : decode cX12_book 187 = .ok (.getfield 63, 3) := by decide +kernel
theorem dX12_book_190 : decode cX12_book 190 = .ok (.iload_n 3, 1) := by decide +kernel
theorem dX12_book_191 : decode cX12_book 191 = .ok (.iaload, 1) := by decide +kernel
theorem dX12_book_192 : decode cX12_book 192 = .ok (.iastore, 1) := by decide +kernel
theorem dX12_book_193 : decode cX12_book 193 = .ok (.iinc 3 1, 3) := by decide +kernel
theorem dX12_book_196 : decode cX12_book 196 = .ok (.goto (-32), 3) := by decide +kernel
theorem dX12_book_199 : decode cX12_book 199 = .ok (.aload_n 0, 1) := by decide +kernel
theorem dX12_book_200 : decode cX12_book 200 = .ok (.iload_n 1, 1) := by decide +kernel
theorem dX12_book_201 : decode cX12_book 201 = .ok (.putfield 272, 3) := by decide +kernel
theorem dX12_book_204 : decode cX12_book 204 = .ok (.iload_n 1, 1) := by decide +kernel
theorem dX12_book_205 : decode cX12_book 205 = .ok (.ireturn, 1) := by decide +kernel
theorem dX12_lineOf_0 : decode cX12_lineOf 0 = .ok (.aload_n 0, 1) := by decide +kernel
theorem dX12_lineOf_1 : decode cX12_lineOf 1 = .ok (.aload_n 0, 1) := by decide +kernel
theorem dX12_lineOf_2 : decode cX12_lineOf 2 = .ok (.getfield 51, 3) := by decide +kernel
theorem dX12_lineOf_5 : decode cX12_lineOf 5 = .ok (.aload_n 0, 1) := by decide +kernel
theorem dX12_lineOf_6 : decode cX12_lineOf 6 = .ok (.getfield 269, 3) := by decide +kernel
theorem dX12_lineOf_9 : decode cX12_lineOf 9 = .ok (.bipush 60, 2) := by decide +kernel
theorem dX12_lineOf_11 : decode cX12_lineOf 11 = .ok (.invokevirtual 265, 3) := by decide +kernel
theorem dX12_lineOf_14 : decode cX12_lineOf 14 = .ok (.aload_n 0, 1) := by decide +kernel
theorem dX12_lineOf_15 : decode cX12_lineOf 15 = .ok (.aload_n 0, 1) := by decide +kernel
theorem dX12_lineOf_16 : decode cX12_lineOf 16 = .ok (.getfield 54, 3) := by decide +kernel
theorem dX12_lineOf_19 : decode cX12_lineOf 19 = .ok (.iload_n 1, 1) := by decide +kernel
theorem dX12_lineOf_20 : decode cX12_lineOf 20 = .ok (.iaload, 1) := by decide +kernel
theorem dX12_lineOf_21 : decode cX12_lineOf 21 = .ok (.putfield 217, 3) := by decide +kernel
theorem dX12_lineOf_24 : decode cX12_lineOf 24 = .ok (.aload_n 0, 1) := by decide +kernel
theorem dX12_lineOf_25 : decode cX12_lineOf 25 = .ok (.iconst 0, 1) := by decide +kernel
theorem dX12_lineOf_26 : decode cX12_lineOf 26 = .ok (.invokevirtual 252, 3) := by decide +kernel
theorem dX12_lineOf_29 : decode cX12_lineOf 29 = .ok (.ireturn, 1) := by decide +kernel
theorem dX12_line_0 : decode cX12_line 0 = .ok (.aload_n 0, 1) := by decide +kernel
theorem dX12_line_1 : decode cX12_line 1 = .ok (.iconst 0, 1) := by decide +kernel
theorem dX12_line_2 : decode cX12_line 2 = .ok (.putfield 133, 3) := by decide +kernel
theorem dX12_line_5 : decode cX12_line 5 = .ok (.iload_n 1, 1) := by decide +kernel
theorem dX12_line_6 : decode cX12_line 6 = .ok (.iconst 0, 1) := by decide +kernel
theorem dX12_line_7 : decode cX12_line 7 = .ok (.aload_n 0, 1) := by decide +kernel
theorem dX12_line_8 : decode cX12_line 8 = .ok (.getfield 272, 3) := by decide +kernel
theorem dX12_line_11 : decode cX12_line 11 = .ok (.iconst 1, 1) := by decide +kernel
theorem dX12_line_12 : decode cX12_line 12 = .ok (.isub, 1) := by decide +kernel
theorem dX12_line_13 : decode cX12_line 13 = .ok (.invokestatic 142, 3) := by decide +kernel
theorem dX12_line_16 : decode cX12_line 16 = .ok (.ifCond .eq 11, 3) := by decide +kernel
theorem dX12_line_19 : decode cX12_line 19 = .ok (.aload_n 0, 1) := by decide +kernel
theorem dX12_line_20 : decode cX12_line 20 = .ok (.iload_n 1, 1) := by decide +kernel
theorem dX12_line_21 : decode cX12_line 21 = .ok (.invokevirtual 275, 3) := by decide +kernel
theorem dX12_line_24 : decode cX12_line 24 = .ok (.goto 7, 3) := by decide +kernel
theorem dX12_line_27 : decode cX12_line 27 = .ok (.aload_n 0, 1) := by decide +kernel
theorem dX12_line_28 : decode cX12_line 28 = .ok (.invokevirtual 184, 3) := by decide +kernel
theorem dX12_line_31 : decode cX12_line 31 = .ok (.ireturn, 1) := by decide +kernel
theorem dX12_doMorning_0 : decode cX12_doMorning 0 = .ok (.aload_n 0, 1) := by decide +kernel
theorem dX12_doMorning_1 : decode cX12_doMorning 1 = .ok (.iconst 0, 1) := by decide +kernel
theorem dX12_doMorning_2 : decode cX12_doMorning 2 = .ok (.putfield 278, 3) := by decide +kernel
theorem dX12_doMorning_5 : decode cX12_doMorning 5 = .ok (.aload_n 0, 1) := by decide +kernel
theorem dX12_doMorning_6 : decode cX12_doMorning 6 = .ok (.iconst 0, 1) := by decide +kernel
theorem dX12_doMorning_7 : decode cX12_doMorning 7 = .ok (.putfield 281, 3) := by decide +kernel
theorem dX12_doMorning_10 : decode cX12_doMorning 10 = .ok (.iconst 0, 1) := by decide +kernel
theorem dX12_doMorning_11 : decode cX12_doMorning 11 = .ok (.istore_n 2, 1) := by decide +kernel
theorem dX12_doMorning_12 : decode cX12_doMorning 12 = .ok (.iconst 0, 1) := by decide +kernel
theorem dX12_doMorning_13 : decode cX12_doMorning 13 = .ok (.istore_n 3, 1) := by decide +kernel
theorem dX12_doMorning_14 : decode cX12_doMorning 14 = .ok (.iload_n 3, 1) := by decide +kernel
theorem dX12_doMorning_15 : decode cX12_doMorning 15 = .ok (.aload_n 0, 1) := by decide +kernel
theorem dX12_doMorning_16 : decode cX12_doMorning 16 = .ok (.getfield 272, 3) := by decide +kernel
theorem dX12_doMorning_19 : decode cX12_doMorning 19 = .ok (.if_icmp .ge 137, 3) := by decide +kernel
theorem dX12_doMorning_22 : decode cX12_doMorning 22 = .ok (.aload_n 0, 1) := by decide +kernel
theorem dX12_doMorning_23 : decode cX12_doMorning 23 = .ok (.getfield 57, 3) := by decide +kernel
theorem dX12_doMorning_26 : decode cX12_doMorning 26 = .ok (.iload_n 3, 1) := by decide +kernel
theorem dX12_doMorning_27 : decode cX12_doMorning 27 = .ok (.iaload, 1) := by decide +kernel
theorem dX12_doMorning_28 : decode cX12_doMorning 28 = .ok (.istore 4, 2) := by decide +kernel
theorem dX12_doMorning_30 : decode cX12_doMorning 30 = .ok (.aload_n 0, 1) := by decide +kernel
theorem dX12_doMorning_31 : decode cX12_doMorning 31 = .ok (.iload 4, 2) := by decide +kernel
theorem dX12_doMorning_33 : decode cX12_doMorning 33 = .ok (.iconst 0, 1) := by decide +kernel
theorem dX12_doMorning_34 : decode cX12_doMorning 34 = .ok (.invokevirtual 284, 3) := by decide +kernel
theorem dX12_doMorning_37 : decode cX12_doMorning 37 = .ok (.istore 5, 2) := by decide +kernel
theorem dX12_doMorning_39 : decode cX12_doMorning 39 = .ok (.iload_n 1, 1) := by decide +kernel
theorem dX12_doMorning_40 : decode cX12_doMorning 40 = .ok (.ifCond .eq 23, 3) := by decide +kernel
theorem dX12_doMorning_43 : decode cX12_doMorning 43 = .ok (.aload_n 0, 1) := by decide +kernel
theorem dX12_doMorning_44 : decode cX12_doMorning 44 = .ok (.iload 5, 2) := by decide +kernel
theorem dX12_doMorning_46 : decode cX12_doMorning 46 = .ok (.ifCond .eq 13, 3) := by decide +kernel
theorem dX12_doMorning_49 : decode cX12_doMorning 49 = .ok (.aload_n 0, 1) := by decide +kernel
theorem dX12_doMorning_50 : decode cX12_doMorning 50 = .ok (.getfield 22, 3) := by decide +kernel
theorem dX12_doMorning_53 : decode cX12_doMorning 53 = .ok (.iload 4, 2) := by decide +kernel
theorem dX12_doMorning_55 : decode cX12_doMorning 55 = .ok (.iaload, 1) := by decide +kernel
theorem dX12_doMorning_56 : decode cX12_doMorning 56 = .ok (.goto 4, 3) := by decide +kernel
theorem dX12_doMorning_59 : decode cX12_doMorning 59 = .ok (.iconst (-1), 1) := by decide +kernel
theorem dX12_doMorning_60 : decode cX12_doMorning 60 = .ok (.invokevirtual 210, 3) := by decide +kernel
theorem dX12_doMorning_63 : decode cX12_doMorning 63 = .ok (.iload 5, 2) := by decide +kernel
theorem dX12_doMorning_65 : decode cX12_doMorning 65 = .ok (.ifCond .ne 6, 3) := by decide +kernel
theorem dX12_doMorning_68 : decode cX12_doMorning 68 = .ok (.goto 82, 3) := by decide +kernel
theorem dX12_doMorning_71 : decode cX12_doMorning 71 = .ok (.iconst 0, 1) := by decide +kernel
theorem dX12_doMorning_72 : decode cX12_doMorning 72 = .ok (.aload_n 0, 1) := by decide +kernel
theorem dX12_doMorning_73 : decode cX12_doMorning 73 = .ok (.getfield 19, 3) := by decide +kernel
theorem dX12_doMorning_76 : decode cX12_doMorning 76 = .ok (.iload 4, 2) := by decide +kernel
theorem dX12_doMorning_78 : decode cX12_doMorning 78 = .ok (.iaload, 1) := by decide +kernel
theorem dX12_doMorning_79 : decode cX12_doMorning 79 = .ok (.aload_n 0, 1) := by decide +kernel
theorem dX12_doMorning_80 : decode cX12_doMorning 80 = .ok (.iload_n 3, 1) := by decide +kernel
theorem dX12_doMorning_81 : decode cX12_doMorning 81 = .ok (.invokevirtual 275, 3) := by decide +kernel
theorem dX12_doMorning_84 : decode cX12_doMorning 84 = .ok (.invokestatic 153, 3) := by decide +kernel
theorem dX12_doMorning_87 : decode cX12_doMorning 87 = .ok (.invokestatic 159, 3) := by decide +kernel
theorem dX12_doMorning_90 : decode cX12_doMorning 90 = .ok (.istore 6, 2) := by decide +kernel
theorem dX12_doMorning_92 : decode cX12_doMorning 92 = .ok (.aload_n 0, 1) := by decide +kernel
theorem dX12_doMorning_93 : decode cX12_doMorning 93 = .ok (.dup, 1) := by decide +kernel
theorem dX12_doMorning_94 : decode cX12_doMorning 94 = .ok (.getfield 278, 3) := by decide +kernel
theorem dX12_doMorning_97 : decode cX12_doMorning 97 = .ok (.iconst 0, 1) := by decide +kernel
theorem dX12_doMorning_98 : decode cX12_doMorning 98 = .ok (.iload 6, 2) := by decide +kernel
theorem dX12_doMorning_100 : decode cX12_doMorning 100 = .ok (.aload_n 0, 1) := by decide +kernel
theorem dX12_doMorning_101 : decode cX12_doMorning 101 = .ok (.getfield 22, 3) := by decide +kernel
theorem dX12_doMorning_104 : decode cX12_doMorning 104 = .ok (.iload 4, 2) := by decide +kernel
theorem dX12_doMorning_106 : decode cX12_doMorning 106 = .ok (.iaload, 1) := by decide +kernel
theorem dX12_doMorning_107 : decode cX12_doMorning 107 = .ok (.isub, 1) := by decide +kernel
theorem dX12_doMorning_108 : decode cX12_doMorning 108 = .ok (.invokestatic 159, 3) := by decide +kernel
theorem dX12_doMorning_111 : decode cX12_doMorning 111 = .ok (.iadd, 1) := by decide +kernel
theorem dX12_doMorning_112 : decode cX12_doMorning 112 = .ok (.putfield 278, 3) := by decide +kernel
theorem dX12_doMorning_115 : decode cX12_doMorning 115 = .ok (.aload_n 0, 1) := by decide +kernel
theorem dX12_doMorning_116 : decode cX12_doMorning 116 = .ok (.dup, 1) := by decide +kernel
theorem dX12_doMorning_117 : decode cX12_doMorning 117 = .ok (.getfield 281, 3) := by decide +kernel
theorem dX12_doMorning_120 : decode cX12_doMorning 120 = .ok (.iconst 0, 1) := by decide +kernel
theorem dX12_doMorning_121 : decode cX12_doMorning 121 = .ok (.aload_n 0, 1) := by decide +kernel
theorem dX12_doMorning_122 : decode cX12_doMorning 122 = .ok (.getfield 22, 3) := by decide +kernel
theorem dX12_doMorning_125 : decode cX12_doMorning 125 = .ok (.iload 4, 2) := by decide +kernel
theorem dX12_doMorning_127 : decode cX12_doMorning 127 = .ok (.iaload, 1) := by decide +kernel
theorem dX12_doMorning_128 : decode cX12_doMorning 128 = .ok (.iload 6, 2) := by decide +kernel
theorem dX12_doMorning_130 : decode cX12_doMorning 130 = .ok (.isub, 1) := by decide +kernel
theorem dX12_doMorning_131 : decode cX12_doMorning 131 = .ok (.invokestatic 159, 3) := by decide +kernel
theorem dX12_doMorning_134 : decode cX12_doMorning 134 = .ok (.iadd, 1) := by decide +kernel
theorem dX12_doMorning_135 : decode cX12_doMorning 135 = .ok (.putfield 281, 3) := by decide +kernel
theorem dX12_doMorning_138 : decode cX12_doMorning 138 = .ok (.aload_n 0, 1) := by decide +kernel
theorem dX12_doMorning_139 : decode cX12_doMorning 139 = .ok (.getfield 22, 3) := by decide +kernel
theorem dX12_doMorning_142 : decode cX12_doMorning 142 = .ok (.iload 4, 2) := by decide +kernel
theorem dX12_doMorning_144 : decode cX12_doMorning 144 = .ok (.iload 6, 2) := by decide +kernel
theorem dX12_doMorning_146 : decode cX12_doMorning 146 = .ok (.iastore, 1) := by decide +kernel
theorem dX12_doMorning_147 : decode cX12_doMorning 147 = .ok (.iinc 2 1, 3) := by decide +kernel
theorem dX12_doMorning_150 : decode cX12_doMorning 150 = .ok (.iinc 3 1, 3) := by decide +kernel
theorem dX12_doMorning_153 : decode cX12_doMorning 153 = .ok (.goto (-139), 3) := by decide +kernel
theorem dX12_doMorning_156 : decode cX12_doMorning 156 = .ok (.iload_n 2, 1) := by decide +kernel
theorem dX12_doMorning_157 : decode cX12_doMorning 157 = .ok (.ireturn, 1) := by decide +kernel
theorem dX12_morning_0 : decode cX12_morning 0 = .ok (.aload_n 0, 1) := by decide +kernel
theorem dX12_morning_1 : decode cX12_morning 1 = .ok (.iconst 0, 1) := by decide +kernel
theorem dX12_morning_2 : decode cX12_morning 2 = .ok (.putfield 133, 3) := by decide +kernel
theorem dX12_morning_5 : decode cX12_morning 5 = .ok (.aload_n 0, 1) := by decide +kernel
theorem dX12_morning_6 : decode cX12_morning 6 = .ok (.iconst 0, 1) := by decide +kernel
theorem dX12_morning_7 : decode cX12_morning 7 = .ok (.putfield 136, 3) := by decide +kernel
theorem dX12_morning_10 : decode cX12_morning 10 = .ok (.aload_n 0, 1) := by decide +kernel
theorem dX12_morning_11 : decode cX12_morning 11 = .ok (.iconst 1, 1) := by decide +kernel
theorem dX12_morning_12 : decode cX12_morning 12 = .ok (.invokevirtual 288, 3) := by decide +kernel
theorem dX12_morning_15 : decode cX12_morning 15 = .ok (.istore_n 1, 1) := by decide +kernel
theorem dX12_morning_16 : decode cX12_morning 16 = .ok (.aload_n 0, 1) := by decide +kernel
theorem dX12_morning_17 : decode cX12_morning 17 = .ok (.aload_n 0, 1) := by decide +kernel
theorem dX12_morning_18 : decode cX12_morning 18 = .ok (.getfield 278, 3) := by decide +kernel
theorem dX12_morning_21 : decode cX12_morning 21 = .ok (.invokevirtual 210, 3) := by decide +kernel
theorem dX12_morning_24 : decode cX12_morning 24 = .ok (.aload_n 0, 1) := by decide +kernel
theorem dX12_morning_25 : decode cX12_morning 25 = .ok (.aload_n 0, 1) := by decide +kernel
theorem dX12_morning_26 : decode cX12_morning 26 = .ok (.getfield 281, 3) := by decide +kernel
theorem dX12_morning_29 : decode cX12_morning 29 = .ok (.invokevirtual 210, 3) := by decide +kernel
theorem dX12_morning_32 : decode cX12_morning 32 = .ok (.iload_n 1, 1) := by decide +kernel
theorem dX12_morning_33 : decode cX12_morning 33 = .ok (.ireturn, 1) := by decide +kernel
theorem dX12_goBy_0 : decode cX12_goBy 0 = .ok (.iconst 0, 1) := by decide +kernel
theorem dX12_goBy_1 : decode cX12_goBy 1 = .ok (.istore_n 1, 1) := by decide +kernel
theorem dX12_goBy_2 : decode cX12_goBy 2 = .ok (.iload_n 1, 1) := by decide +kernel
theorem dX12_goBy_3 : decode cX12_goBy 3 = .ok (.aload_n 0, 1) := by decide +kernel
theorem dX12_goBy_4 : decode cX12_goBy 4 = .ok (.getfield 139, 3) := by decide +kernel
theorem dX12_goBy_7 : decode cX12_goBy 7 = .ok (.if_icmp .ge 88, 3) := by decide +kernel
theorem dX12_goBy_10 : decode cX12_goBy 10 = .ok (.aload_n 0, 1) := by decide +kernel
theorem dX12_goBy_11 : decode cX12_goBy 11 = .ok (.getfield 9, 3) := by decide +kernel
theorem dX12_goBy_14 : decode cX12_goBy 14 = .ok (.iload_n 1, 1) := by decide +kernel
theorem dX12_goBy_15 : decode cX12_goBy 15 = .ok (.iaload, 1) := by decide +kernel
theorem dX12_goBy_16 : decode cX12_goBy 16 = .ok (.iconst 1, 1) := by decide +kernel
theorem dX12_goBy_17 : decode cX12_goBy 17 = .ok (.if_icmp .eq 6, 3) := by decide +kernel
theorem dX12_goBy_20 : decode cX12_goBy 20 = .ok (.goto 69, 3) := by decide +kernel
theorem dX12_goBy_23 : decode cX12_goBy 23 = .ok (.aload_n 0, 1) := by decide +kernel
theorem dX12_goBy_24 : decode cX12_goBy 24 = .ok (.getfield 106, 3) := by decide +kernel
theorem dX12_goBy_27 : decode cX12_goBy 27 = .ok (.iload_n 1, 1) := by decide +kernel
theorem dX12_goBy_28 : decode cX12_goBy 28 = .ok (.iaload, 1) := by decide +kernel
theorem dX12_goBy_29 : decode cX12_goBy 29 = .ok (.aload_n 0, 1) := by decide +kernel
theorem dX12_goBy_30 : decode cX12_goBy 30 = .ok (.getfield 22, 3) := by decide +kernel
theorem dX12_goBy_33 : decode cX12_goBy 33 = .ok (.iload_n 1, 1) := by decide +kernel
theorem dX12_goBy_34 : decode cX12_goBy 34 = .ok (.iaload, 1) := by decide +kernel
theorem dX12_goBy_35 : decode cX12_goBy 35 = .ok (.invokestatic 153, 3) := by decide +kernel
theorem dX12_goBy_38 : decode cX12_goBy 38 = .ok (.istore_n 2, 1) := by decide +kernel
theorem dX12_goBy_39 : decode cX12_goBy 39 = .ok (.aload_n 0, 1) := by decide +kernel
theorem dX12_goBy_40 : decode cX12_goBy 40 = .ok (.getfield 22, 3) := by decide +kernel
theorem dX12_goBy_43 : decode cX12_goBy 43 = .ok (.iload_n 1, 1) := by decide +kernel
theorem dX12_goBy_44 : decode cX12_goBy 44 = .ok (.dup2, 1) := by decide +kernel
theorem dX12_goBy_45 : decode cX12_goBy 45 = .ok (.iaload, 1) := by decide +kernel
theorem dX12_goBy_46 : decode cX12_goBy 46 = .ok (.iload_n 2, 1) := by decide +kernel
theorem dX12_goBy_47 : decode cX12_goBy 47 = .ok (.isub, 1) := by decide +kernel
theorem dX12_goBy_48 : decode cX12_goBy 48 = .ok (.iastore, 1) := by decide +kernel
theorem dX12_goBy_49 : decode cX12_goBy 49 = .ok (.aload_n 0, 1) := by decide +kernel
theorem dX12_goBy_50 : decode cX12_goBy 50 = .ok (.getfield 112, 3) := by decide +kernel
theorem dX12_goBy_53 : decode cX12_goBy 53 = .ok (.iload_n 1, 1) := by decide +kernel
theorem dX12_goBy_54 : decode cX12_goBy 54 = .ok (.iaload, 1) := by decide +kernel
theorem dX12_goBy_55 : decode cX12_goBy 55 = .ok (.istore_n 3, 1) := by decide +kernel
theorem dX12_goBy_56 : decode cX12_goBy 56 = .ok (.iload_n 3, 1) := by decide +kernel
theorem dX12_goBy_57 : decode cX12_goBy 57 = .ok (.iconst (-1), 1) := by decide +kernel
theorem dX12_goBy_58 : decode cX12_goBy 58 = .ok (.if_icmp .eq 31, 3) := by decide +kernel
theorem dX12_goBy_61 : decode cX12_goBy 61 = .ok (.aload_n 0, 1) := by decide +kernel
theorem dX12_goBy_62 : decode cX12_goBy 62 = .ok (.getfield 22, 3) := by decide +kernel
theorem dX12_goBy_65 : decode cX12_goBy 65 = .ok (.iload_n 3, 1) := by decide +kernel
theorem dX12_goBy_66 : decode cX12_goBy 66 = .ok (.dup2, 1) := by decide +kernel
theorem dX12_goBy_67 : decode cX12_goBy 67 = .ok (.iaload, 1) := by decide +kernel
theorem dX12_goBy_68 : decode cX12_goBy 68 = .ok (.aload_n 0, 1) := by decide +kernel
theorem dX12_goBy_69 : decode cX12_goBy 69 = .ok (.iload_n 3, 1) := by decide +kernel
theorem dX12_goBy_70 : decode cX12_goBy 70 = .ok (.invokevirtual 307, 3) := by decide +kernel
theorem dX12_goBy_73 : decode cX12_goBy 73 = .ok (.iload_n 2, 1) := by decide +kernel
theorem dX12_goBy_74 : decode cX12_goBy 74 = .ok (.aload_n 0, 1) := by decide +kernel
theorem dX12_goBy_75 : decode cX12_goBy 75 = .ok (.getfield 109, 3) := by decide +kernel
theorem dX12_goBy_78 : decode cX12_goBy 78 = .ok (.iload_n 1, 1) := by decide +kernel
theorem dX12_goBy_79 : decode cX12_goBy 79 = .ok (.iaload, 1) := by decide +kernel
theorem dX12_goBy_80 : decode cX12_goBy 80 = .ok (.imul, 1) := by decide +kernel
theorem dX12_goBy_81 : decode cX12_goBy 81 = .ok (.bipush 100, 2) := by decide +kernel
theorem dX12_goBy_83 : decode cX12_goBy 83 = .ok (.idiv, 1) := by decide +kernel
theorem dX12_goBy_84 : decode cX12_goBy 84 = .ok (.invokestatic 153, 3) := by decide +kernel
theorem dX12_goBy_87 : decode cX12_goBy 87 = .ok (.iadd, 1) := by decide +kernel
theorem dX12_goBy_88 : decode cX12_goBy 88 = .ok (.iastore, 1) := by decide +kernel
theorem dX12_goBy_89 : decode cX12_goBy 89 = .ok (.iinc 1 1, 3) := by decide +kernel
theorem dX12_goBy_92 : decode cX12_goBy 92 = .ok (.goto (-90), 3) := by decide +kernel
theorem dX12_goBy_95 : decode cX12_goBy 95 = .ok (.aload_n 0, 1) := by decide +kernel
theorem dX12_goBy_96 : decode cX12_goBy 96 = .ok (.dup, 1) := by decide +kernel
theorem dX12_goBy_97 : decode cX12_goBy 97 = .ok (.getfield 262, 3) := by decide +kernel
theorem dX12_goBy_100 : decode cX12_goBy 100 = .ok (.iconst 1, 1) := by decide +kernel
theorem dX12_goBy_101 : decode cX12_goBy 101 = .ok (.iadd, 1) := by decide +kernel
theorem dX12_goBy_102 : decode cX12_goBy 102 = .ok (.putfield 262, 3) := by decide +kernel
theorem dX12_goBy_105 : decode cX12_goBy 105 = .ok (.return_, 1) := by decide +kernel
theorem dX12_holds_0 : decode cX12_holds 0 = .ok (.aload_n 0, 1) := by decide +kernel
theorem dX12_holds_1 : decode cX12_holds 1 = .ok (.iconst 0, 1) := by decide +kernel
theorem dX12_holds_2 : decode cX12_holds 2 = .ok (.putfield 133, 3) := by decide +kernel
theorem dX12_holds_5 : decode cX12_holds 5 = .ok (.iload_n 1, 1) := by decide +kernel
theorem dX12_holds_6 : decode cX12_holds 6 = .ok (.invokestatic 178, 3) := by decide +kernel
theorem dX12_holds_9 : decode cX12_holds 9 = .ok (.ifCond .ne 5, 3) := by decide +kernel
theorem dX12_holds_12 : decode cX12_holds 12 = .ok (.iconst (-1), 1) := by decide +kernel
theorem dX12_holds_13 : decode cX12_holds 13 = .ok (.ireturn, 1) := by decide +kernel
theorem dX12_holds_14 : decode cX12_holds 14 = .ok (.aload_n 0, 1) := by decide +kernel
theorem dX12_holds_15 : decode cX12_holds 15 = .ok (.getfield 262, 3) := by decide +kernel
theorem dX12_holds_18 : decode cX12_holds 18 = .ok (.istore_n 2, 1) := by decide +kernel
theorem dX12_holds_19 : decode cX12_holds 19 = .ok (.bipush (-2), 2) := by decide +kernel
theorem dX12_holds_21 : decode cX12_holds 21 = .ok (.istore_n 3, 1) := by decide +kernel
theorem dX12_holds_22 : decode cX12_holds 22 = .ok (.aload_n 0, 1) := by decide +kernel
theorem dX12_holds_23 : decode cX12_holds 23 = .ok (.invokevirtual 292, 3) := by decide +kernel
theorem dX12_holds_26 : decode cX12_holds 26 = .ok (.iconst 0, 1) := by decide +kernel
theorem dX12_holds_27 : decode cX12_holds 27 = .ok (.istore 4, 2) := by decide +kernel
theorem dX12_holds_29 : decode cX12_holds 29 = .ok (.iload 4, 2) := by decide +kernel
theorem dX12_holds_31 : decode cX12_holds 31 = .ok (.sipush 400, 3) := by decide +kernel
theorem dX12_holds_34 : decode cX12_holds 34 = .ok (.if_icmp .gt 66, 3) := by decide +kernel
theorem dX12_holds_37 : decode cX12_holds 37 = .ok (.iload_n 3, 1) := by decide +kernel
theorem dX12_holds_38 : decode cX12_holds 38 = .ok (.ifCond .ge 62, 3) := by decide +kernel
theorem dX12_holds_41 : decode cX12_holds 41 = .ok (.aload_n 0, 1) := by decide +kernel
theorem dX12_holds_42 : decode cX12_holds 42 = .ok (.iconst 0, 1) := by decide +kernel
theorem dX12_holds_43 : decode cX12_holds 43 = .ok (.invokevirtual 288, 3) := by decide +kernel
theorem dX12_holds_46 : decode cX12_holds 46 = .ok (.pop, 1) := by decide +kernel
theorem dX12_holds_47 : decode cX12_holds 47 = .ok (.aload_n 0, 1) := by decide +kernel
theorem dX12_holds_48 : decode cX12_holds 48 = .ok (.iload_n 1, 1) := by decide +kernel
theorem dX12_holds_49 : decode cX12_holds 49 = .ok (.invokevirtual 207, 3) := by decide +kernel
theorem dX12_holds_52 : decode cX12_holds 52 = .ok (.ifCond .ne 38, 3) := by decide +kernel
theorem dX12_holds_55 : decode cX12_holds 55 = .ok (.iload 4, 2) := by decide +kernel
theorem dX12_holds_57 : decode cX12_holds 57 = .ok (.istore_n 3, 1) := by decide +kernel
theorem dX12_holds_58 : decode cX12_holds 58 = .ok (.aload_n 0, 1) := by decide +kernel
theorem dX12_holds_59 : decode cX12_holds 59 = .ok (.iconst 0, 1) := by decide +kernel
theorem dX12_holds_60 : decode cX12_holds 60 = .ok (.putfield 136, 3) := by decide +kernel
theorem dX12_holds_63 : decode cX12_holds 63 = .ok (.aload_n 0, 1) := by decide +kernel
theorem dX12_holds_64 : decode cX12_holds 64 = .ok (.aload_n 0, 1) := by decide +kernel
theorem dX12_holds_65 : decode cX12_holds 65 = .ok (.iload_n 1, 1) := by decide +kernel
theorem dX12_holds_66 : decode cX12_holds 66 = .ok (.invokevirtual 198, 3) := by decide +kernel
theorem dX12_holds_69 : decode cX12_holds 69 = .ok (.invokevirtual 210, 3) := by decide +kernel
theorem dX12_holds_72 : decode cX12_holds 72 = .ok (.aload_n 0, 1) := by decide +kernel
theorem dX12_holds_73 : decode cX12_holds 73 = .ok (.aload_n 0, 1) := by decide +kernel
theorem dX12_holds_74 : decode cX12_holds 74 = .ok (.iconst 0, 1) := by decide +kernel
theorem dX12_holds_75 : decode cX12_holds 75 = .ok (.invokevirtual 204, 3) := by decide +kernel
theorem dX12_holds_78 : decode cX12_holds 78 = .ok (.invokevirtual 210, 3) := by decide +kernel
theorem dX12_holds_81 : decode cX12_holds 81 = .ok (.aload_n 0, 1) := by decide +kernel
theorem dX12_holds_82 : decode cX12_holds 82 = .ok (.aload_n 0, 1) := by decide +kernel
theorem dX12_holds_83 : decode cX12_holds 83 = .ok (.iconst 1, 1) := by decide +kernel
theorem dX12_holds_84 : decode cX12_holds 84 = .ok (.invokevirtual 204, 3) := by decide +kernel
theorem dX12_holds_87 : decode cX12_holds 87 = .ok (.invokevirtual 210, 3) := by decide +kernel
theorem dX12_holds_90 : decode cX12_holds 90 = .ok (.aload_n 0, 1) := by decide +kernel
theorem dX12_holds_91 : decode cX12_holds 91 = .ok (.invokevirtual 295, 3) := by decide +kernel
theorem dX12_holds_94 : decode cX12_holds 94 = .ok (.iinc 4 1, 3) := by decide +kernel
theorem dX12_holds_97 : decode cX12_holds 97 = .ok (.goto (-68), 3) := by decide +kernel
theorem dX12_holds_100 : decode cX12_holds 100 = .ok (.aload_n 0, 1) := by decide +kernel
theorem dX12_holds_101 : decode cX12_holds 101 = .ok (.invokevirtual 298, 3) := by decide +kernel
theorem dX12_holds_104 : decode cX12_holds 104 = .ok (.aload_n 0, 1) := by decide +kernel
theorem dX12_holds_105 : decode cX12_holds 105 = .ok (.iload_n 2, 1) := by decide +kernel
theorem dX12_holds_106 : decode cX12_holds 106 = .ok (.putfield 262, 3) := by decide +kernel
theorem dX12_holds_109 : decode cX12_holds 109 = .ok (.iload_n 3, 1) := by decide +kernel
theorem dX12_holds_110 : decode cX12_holds 110 = .ok (.ireturn, 1) := by decide +kernel
theorem dX12_liar_0 : decode cX12_liar 0 = .ok (.aload_n 0, 1) := by decide +kernel
theorem dX12_liar_1 : decode cX12_liar 1 = .ok (.iconst 0, 1) := by decide +kernel
theorem dX12_liar_2 : decode cX12_liar 2 = .ok (.putfield 133, 3) := by decide +kernel
theorem dX12_liar_5 : decode cX12_liar 5 = .ok (.iload_n 1, 1) := by decide +kernel
theorem dX12_liar_6 : decode cX12_liar 6 = .ok (.invokestatic 178, 3) := by decide +kernel
theorem dX12_liar_9 : decode cX12_liar 9 = .ok (.ifCond .ne 5, 3) := by decide +kernel
theorem dX12_liar_12 : decode cX12_liar 12 = .ok (.iconst (-1), 1) := by decide +kernel
theorem dX12_liar_13 : decode cX12_liar 13 = .ok (.ireturn, 1) := by decide +kernel
theorem dX12_liar_14 : decode cX12_liar 14 = .ok (.iconst 0, 1) := by decide +kernel
theorem dX12_liar_15 : decode cX12_liar 15 = .ok (.istore 5, 2) := by decide +kernel
theorem dX12_liar_17 : decode cX12_liar 17 = .ok (.aload_n 0, 1) := by decide +kernel
theorem dX12_liar_18 : decode cX12_liar 18 = .ok (.iconst 0, 1) := by decide +kernel
theorem dX12_liar_19 : decode cX12_liar 19 = .ok (.putfield 136, 3) := by decide +kernel
theorem dX12_liar_22 : decode cX12_liar 22 = .ok (.iconst 0, 1) := by decide +kernel
theorem dX12_liar_23 : decode cX12_liar 23 = .ok (.istore 6, 2) := by decide +kernel
theorem dX12_liar_25 : decode cX12_liar 25 = .ok (.iload 6, 2) := by decide +kernel
theorem dX12_liar_27 : decode cX12_liar 27 = .ok (.aload_n 0, 1) := by decide +kernel
theorem dX12_liar_28 : decode cX12_liar 28 = .ok (.getfield 139, 3) := by decide +kernel
theorem dX12_liar_31 : decode cX12_liar 31 = .ok (.if_icmp .ge 153, 3) := by decide +kernel
theorem dX12_liar_34 : decode cX12_liar 34 = .ok (.aload_n 0, 1) := by decide +kernel
theorem dX12_liar_35 : decode cX12_liar 35 = .ok (.getfield 22, 3) := by decide +kernel
theorem dX12_liar_38 : decode cX12_liar 38 = .ok (.iload 6, 2) := by decide +kernel
theorem dX12_liar_40 : decode cX12_liar 40 = .ok (.iaload, 1) := by decide +kernel
theorem dX12_liar_41 : decode cX12_liar 41 = .ok (.i2l, 1) := by decide +kernel
theorem dX12_liar_42 : decode cX12_liar 42 = .ok (.iload_n 2, 1) := by decide +kernel
theorem dX12_liar_43 : decode cX12_liar 43 = .ok (.i2l, 1) := by decide +kernel
theorem dX12_liar_44 : decode cX12_liar 44 = .ok (.ladd, 1) := by decide +kernel
theorem dX12_liar_45 : decode cX12_liar 45 = .ok (.aload_n 0, 1) := by decide +kernel
theorem dX12_liar_46 : decode cX12_liar 46 = .ok (.iload_n 1, 1) := by decide +kernel
theorem dX12_liar_47 : decode cX12_liar 47 = .ok (.invokevirtual 198, 3) := by decide +kernel
theorem dX12_liar_50 : decode cX12_liar 50 = .ok (.i2l, 1) := by decide +kernel
theorem dX12_liar_51 : decode cX12_liar 51 = .ok (.lsub, 1) := by decide +kernel
theorem dX12_liar_52 : decode cX12_liar 52 = .ok (.lstore 7, 2) := by decide +kernel
theorem dX12_liar_54 : decode cX12_liar 54 = .ok (.lload 7, 2) := by decide +kernel
theorem dX12_liar_56 : decode cX12_liar 56 = .ok (.aload_n 0, 1) := by decide +kernel
theorem dX12_liar_57 : decode cX12_liar 57 = .ok (.getfield 22, 3) := by decide +kernel
theorem dX12_liar_60 : decode cX12_liar 60 = .ok (.iload 6, 2) := by decide +kernel
theorem dX12_liar_62 : decode cX12_liar 62 = .ok (.iaload, 1) := by decide +kernel
theorem dX12_liar_63 : decode cX12_liar 63 = .ok (.i2l, 1) := by decide +kernel
theorem dX12_liar_64 : decode cX12_liar 64 = .ok (.lsub, 1) := by decide +kernel
theorem dX12_liar_65 : decode cX12_liar 65 = .ok (.lstore 9, 2) := by decide +kernel
theorem dX12_liar_67 : decode cX12_liar 67 = .ok (.lload 7, 2) := by decide +kernel
theorem dX12_liar_69 : decode cX12_liar 69 = .ok (.lconst 0, 1) := by decide +kernel
theorem dX12_liar_70 : decode cX12_liar 70 = .ok (.lcmp, 1) := by decide +kernel
theorem dX12_liar_71 : decode cX12_liar 71 = .ok (.ifCond .lt 70, 3) := by decide +kernel
theorem dX12_liar_74 : decode cX12_liar 74 = .ok (.lload 7, 2) := by decide +kernel
theorem dX12_liar_76 : decode cX12_liar 76 = .ok (.aload_n 0, 1) := by decide +kernel
theorem dX12_liar_77 : decode cX12_liar 77 = .ok (.getfield 19, 3) := by decide +kernel
theorem dX12_liar_80 : decode cX12_liar 80 = .ok (.iload 6, 2) := by decide +kernel
theorem dX12_liar_82 : decode cX12_liar 82 = .ok (.iaload, 1) := by decide +kernel
theorem dX12_liar_83 : decode cX12_liar 83 = .ok (.i2l, 1) := by decide +kernel
theorem dX12_liar_84 : decode cX12_liar 84 = .ok (.lcmp, 1) := by decide +kernel
theorem dX12_liar_85 : decode cX12_liar 85 = .ok (.ifCond .gt 56, 3) := by decide +kernel
theorem dX12_liar_88 : decode cX12_liar 88 = .ok (.aload_n 0, 1) := by decide +kernel
theorem dX12_liar_89 : decode cX12_liar 89 = .ok (.iconst 0, 1) := by decide +kernel
theorem dX12_liar_90 : decode cX12_liar 90 = .ok (.invokevirtual 204, 3) := by decide +kernel
theorem dX12_liar_93 : decode cX12_liar 93 = .ok (.i2l, 1) := by decide +kernel
theorem dX12_liar_94 : decode cX12_liar 94 = .ok (.aload_n 0, 1) := by decide +kernel
theorem dX12_liar_95 : decode cX12_liar 95 = .ok (.getfield 13, 3) := by decide +kernel
theorem dX12_liar_98 : decode cX12_liar 98 = .ok (.iload 6, 2) := by decide +kernel
theorem dX12_liar_100 : decode cX12_liar 100 = .ok (.iaload, 1) := by decide +kernel
theorem dX12_liar_101 : decode cX12_liar 101 = .ok (.i2l, 1) := by decide +kernel
theorem dX12_liar_102 : decode cX12_liar 102 = .ok (.lload 9, 2) := by decide +kernel
theorem dX12_liar_104 : decode cX12_liar 104 = .ok (.lmul, 1) := by decide +kernel
theorem dX12_liar_105 : decode cX12_liar 105 = .ok (.ladd, 1) := by decide +kernel
theorem dX12_liar_106 : decode cX12_liar 106 = .ok (.iload_n 3, 1) := by decide +kernel
theorem dX12_liar_107 : decode cX12_liar 107 = .ok (.i2l, 1) := by decide +kernel
theorem dX12_liar_108 : decode cX12_liar 108 = .ok (.lcmp, 1) := by decide +kernel
theorem dX12_liar_109 : decode cX12_liar 109 = .ok (.ifCond .ne 32, 3) := by decide +kernel
theorem dX12_liar_112 : decode cX12_liar 112 = .ok (.aload_n 0, 1) := by decide +kernel
theorem dX12_liar_113 : decode cX12_liar 113 = .ok (.iconst 1, 1) := by decide +kernel
theorem dX12_liar_114 : decode cX12_liar 114 = .ok (.invokevirtual 204, 3) := by decide +kernel
theorem dX12_liar_117 : decode cX12_liar 117 = .ok (.i2l, 1) := by decide +kernel
theorem dX12_liar_118 : decode cX12_liar 118 = .ok (.aload_n 0, 1) := by decide +kernel
theorem dX12_liar_119 : decode cX12_liar 119 = .ok (.getfield 16, 3) := by decide +kernel
theorem dX12_liar_122 : decode cX12_liar 122 = .ok (.iload 6, 2) := by decide +kernel
theorem dX12_liar_124 : decode cX12_liar 124 = .ok (.iaload, 1) := by decide +kernel
theorem dX12_liar_125 : decode cX12_liar 125 = .ok (.i2l, 1) := by decide +kernel
theorem dX12_liar_126 : decode cX12_liar 126 = .ok (.lload 9, 2) := by decide +kernel
theorem dX12_liar_128 : decode cX12_liar 128 = .ok (.lmul, 1) := by decide +kernel
theorem dX12_liar_129 : decode cX12_liar 129 = .ok (.ladd, 1) := by decide +kernel
theorem dX12_liar_130 : decode cX12_liar 130 = .ok (.iload 4, 2) := by decide +kernel
theorem dX12_liar_132 : decode cX12_liar 132 = .ok (.i2l, 1) := by decide +kernel
theorem dX12_liar_133 : decode cX12_liar 133 = .ok (.lcmp, 1) := by decide +kernel
theorem dX12_liar_134 : decode cX12_liar 134 = .ok (.ifCond .ne 7, 3) := by decide +kernel
theorem dX12_liar_137 : decode cX12_liar 137 = .ok (.iconst 1, 1) := by decide +kernel
theorem dX12_liar_138 : decode cX12_liar 138 = .ok (.goto 4, 3) := by decide +kernel
theorem dX12_liar_141 : decode cX12_liar 141 = .ok (.iconst 0, 1) := by decide +kernel
theorem dX12_liar_142 : decode cX12_liar 142 = .ok (.istore 11, 2) := by decide +kernel
theorem dX12_liar_144 : decode cX12_liar 144 = .ok (.aload_n 0, 1) := by decide +kernel
theorem dX12_liar_145 : decode cX12_liar 145 = .ok (.iload 11, 2) := by decide +kernel
theorem dX12_liar_147 : decode cX12_liar 147 = .ok (.ifCond .eq 9, 3) := by decide +kernel
theorem dX12_liar_150 : decode cX12_liar 150 = .ok (.lload 7, 2) := by decide +kernel
theorem dX12_liar_152 : decode cX12_liar 152 = .ok (.l2i, 1) := by decide +kernel
theorem dX12_liar_153 : decode cX12_liar 153 = .ok (.goto 4, 3) := by decide +kernel
theorem dX12_liar_156 : decode cX12_liar 156 = .ok (.iconst (-1), 1) := by decide +kernel
theorem dX12_liar_157 : decode cX12_liar 157 = .ok (.invokevirtual 210, 3) := by decide +kernel
theorem dX12_liar_160 : decode cX12_liar 160 = .ok (.iload 5, 2) := by decide +kernel
theorem dX12_liar_162 : decode cX12_liar 162 = .ok (.iload 11, 2) := by decide +kernel
theorem dX12_liar_164 : decode cX12_liar 164 = .ok (.ifCond .eq 10, 3) := by decide +kernel
theorem dX12_liar_167 : decode cX12_liar 167 = .ok (.iconst 1, 1) := by decide +kernel
theorem dX12_liar_168 : decode cX12_liar 168 = .ok (.iload 6, 2) := by decide +kernel
theorem dX12_liar_170 : decode cX12_liar 170 = .ok (.ishl, 1) := by decide +kernel
theorem dX12_liar_171 : decode cX12_liar 171 = .ok (.goto 4, 3) := by decide +kernel
theorem dX12_liar_174 : decode cX12_liar 174 = .ok (.iconst 0, 1) := by decide +kernel
theorem dX12_liar_175 : decode cX12_liar 175 = .ok (.ior, 1) := by decide +kernel
theorem dX12_liar_176 : decode cX12_liar 176 = .ok (.istore 5, 2) := by decide +kernel
theorem dX12_liar_178 : decode cX12_liar 178 = .ok (.iinc 6 1, 3) := by decide +kernel
theorem dX12_liar_181 : decode cX12_liar 181 = .ok (.goto (-156), 3) := by decide +kernel
theorem dX12_liar_184 : decode cX12_liar 184 = .ok (.iload 5, 2) := by decide +kernel
theorem dX12_liar_186 : decode cX12_liar 186 = .ok (.ireturn, 1) := by decide +kernel
theorem dX12_two_0 : decode cX12_two 0 = .ok (.aload_n 0, 1) := by decide +kernel
theorem dX12_two_1 : decode cX12_two 1 = .ok (.iconst 0, 1) := by decide +kernel
theorem dX12_two_2 : decode cX12_two 2 = .ok (.putfield 133, 3) := by decide +kernel
theorem dX12_two_5 : decode cX12_two 5 = .ok (.iload_n 1, 1) := by decide +kernel
theorem dX12_two_6 : decode cX12_two 6 = .ok (.invokestatic 178, 3) := by decide +kernel
theorem dX12_two_9 : decode cX12_two 9 = .ok (.ifCond .ne 5, 3) := by decide +kernel
theorem dX12_two_12 : decode cX12_two 12 = .ok (.iconst (-1), 1) := by decide +kernel
theorem dX12_two_13 : decode cX12_two 13 = .ok (.ireturn, 1) := by decide +kernel
theorem dX12_two_14 : decode cX12_two 14 = .ok (.iload_n 2, 1) := by decide +kernel
theorem dX12_two_15 : decode cX12_two 15 = .ok (.i2l, 1) := by decide +kernel
theorem dX12_two_16 : decode cX12_two 16 = .ok (.aload_n 0, 1) := by decide +kernel
theorem dX12_two_17 : decode cX12_two 17 = .ok (.iload_n 1, 1) := by decide +kernel
theorem dX12_two_18 : decode cX12_two 18 = .ok (.invokevirtual 198, 3) := by decide +kernel
theorem dX12_two_21 : decode cX12_two 21 = .ok (.i2l, 1) := by decide +kernel
theorem dX12_two_22 : decode cX12_two 22 = .ok (.lsub, 1) := by decide +kernel
theorem dX12_two_23 : decode cX12_two 23 = .ok (.lstore 5, 2) := by decide +kernel
theorem dX12_two_25 : decode cX12_two 25 = .ok (.iload_n 3, 1) := by decide +kernel
theorem dX12_two_26 : decode cX12_two 26 = .ok (.i2l, 1) := by decide +kernel
theorem dX12_two_27 : decode cX12_two 27 = .ok (.aload_n 0, 1) := by decide +kernel
theorem dX12_two_28 : decode cX12_two 28 = .ok (.iconst 0, 1) := by decide +kernel
theorem dX12_two_29 : decode cX12_two 29 = .ok (.invokevirtual 204, 3) := by decide +kernel
theorem dX12_two_32 : decode cX12_two 32 = .ok (.i2l, 1) := by decide +kernel
theorem dX12_two_33 : decode cX12_two 33 = .ok (.lsub, 1) := by decide +kernel
theorem dX12_two_34 : decode cX12_two 34 = .ok (.lstore 7, 2) := by decide +kernel
theorem dX12_two_36 : decode cX12_two 36 = .ok (.iload 4, 2) := by decide +kernel
theorem dX12_two_38 : decode cX12_two 38 = .ok (.i2l, 1) := by decide +kernel
theorem dX12_two_39 : decode cX12_two 39 = .ok (.aload_n 0, 1) := by decide +kernel
theorem dX12_two_40 : decode cX12_two 40 = .ok (.iconst 1, 1) := by decide +kernel
theorem dX12_two_41 : decode cX12_two 41 = .ok (.invokevirtual 204, 3) := by decide +kernel
theorem dX12_two_44 : decode cX12_two 44 = .ok (.i2l, 1) := by decide +kernel
theorem dX12_two_45 : decode cX12_two 45 = .ok (.lsub, 1) := by decide +kernel
theorem dX12_two_46 : decode cX12_two 46 = .ok (.lstore 9, 2) := by decide +kernel
theorem dX12_two_48 : decode cX12_two 48 = .ok (.iconst 0, 1) := by decide +kernel
theorem dX12_two_49 : decode cX12_two 49 = .ok (.istore 11, 2) := by decide +kernel
theorem dX12_two_51 : decode cX12_two 51 = .ok (.aload_n 0, 1) := by decide +kernel
theorem dX12_two_52 : decode cX12_two 52 = .ok (.iconst 0, 1) := by decide +kernel
theorem dX12_two_53 : decode cX12_two 53 = .ok (.putfield 136, 3) := by decide +kernel
theorem dX12_two_56 : decode cX12_two 56 = .ok (.iconst 0, 1) := by decide +kernel
theorem dX12_two_57 : decode cX12_two 57 = .ok (.istore 12, 2) := by decide +kernel
theorem dX12_two_59 : decode cX12_two 59 = .ok (.iload 12, 2) := by decide +kernel
theorem dX12_two_61 : decode cX12_two 61 = .ok (.aload_n 0, 1) := by decide +kernel
theorem dX12_two_62 : decode cX12_two 62 = .ok (.getfield 139, 3) := by decide +kernel
theorem dX12_two_65 : decode cX12_two 65 = .ok (.if_icmp .ge 256, 3) := by decide +kernel
theorem dX12_two_68 : decode cX12_two 68 = .ok (.iload 12, 2) := by decide +kernel
theorem dX12_two_70 : decode cX12_two 70 = .ok (.iconst 1, 1) := by decide +kernel
theorem dX12_two_71 : decode cX12_two 71 = .ok (.iadd, 1) := by decide +kernel
theorem dX12_two_72 : decode cX12_two 72 = .ok (.istore 13, 2) := by decide +kernel
theorem dX12_two_74 : decode cX12_two 74 = .ok (.iload 13, 2) := by decide +kernel
theorem dX12_two_76 : decode cX12_two 76 = .ok (.aload_n 0, 1) := by decide +kernel
theorem dX12_two_77 : decode cX12_two 77 = .ok (.getfield 139, 3) := by decide +kernel
theorem dX12_two_80 : decode cX12_two 80 = .ok (.if_icmp .ge 235, 3) := by decide +kernel
theorem dX12_two_83 : decode cX12_two 83 = .ok (.iconst 0, 1) := by decide +kernel
theorem dX12_two_84 : decode cX12_two 84 = .ok (.istore 14, 2) := by decide +kernel
theorem dX12_two_86 : decode cX12_two 86 = .ok (.iconst 0, 1) := by decide +kernel
theorem dX12_two_87 : decode cX12_two 87 = .ok (.istore 15, 2) := by decide +kernel
theorem dX12_two_89 : decode cX12_two 89 = .ok (.iload 15, 2) := by decide +kernel
theorem dX12_two_91 : decode cX12_two 91 = .ok (.aload_n 0, 1) := by decide +kernel
theorem dX12_two_92 : decode cX12_two 92 = .ok (.getfield 19, 3) := by decide +kernel
theorem dX12_two_95 : decode cX12_two 95 = .ok (.iload 12, 2) := by decide +kernel
theorem dX12_two_97 : decode cX12_two 97 = .ok (.iaload, 1) := by decide +kernel
theorem dX12_two_98 : decode cX12_two 98 = .ok (.if_icmp .gt 196, 3) := by decide +kernel
theorem dX12_two_101 : decode cX12_two 101 = .ok (.iload 14, 2) := by decide +kernel
theorem dX12_two_103 : decode cX12_two 103 = .ok (.ifCond .ne 191, 3) := by decide +kernel
theorem dX12_two_106 : decode cX12_two 106 = .ok (.iload 15, 2) := by decide +kernel
theorem dX12_two_108 : decode cX12_two 108 = .ok (.aload_n 0, 1) := by decide +kernel
theorem dX12_two_109 : decode cX12_two 109 = .ok (.getfield 22, 3) := by decide +kernel
theorem dX12_two_112 : decode cX12_two 112 = .ok (.iload 12, 2) := by decide +kernel
theorem dX12_two_114 : decode cX12_two 114 = .ok (.iaload, 1) := by decide +kernel
theorem dX12_two_115 : decode cX12_two 115 = .ok (.isub, 1) := by decide +kernel
theorem dX12_two_116 : decode cX12_two 116 = .ok (.i2l, 1) := by decide +kernel
theorem dX12_two_117 : decode cX12_two 117 = .ok (.lstore 16, 2) := by decide +kernel
theorem dX12_two_119 : decode cX12_two 119 = .ok (.lload 5, 2) := by decide +kernel
theorem dX12_two_121 : decode cX12_two 121 = .ok (.lload 16, 2) := by decide +kernel
theorem dX12_two_123 : decode cX12_two 123 = .ok (.lsub, 1) := by decide +kernel
theorem dX12_two_124 : decode cX12_two 124 = .ok (.lstore 18, 2) := by decide +kernel
theorem dX12_two_126 : decode cX12_two 126 = .ok (.lload 16, 2) := by decide +kernel
theorem dX12_two_128 : decode cX12_two 128 = .ok (.lconst 0, 1) := by decide +kernel
theorem dX12_two_129 : decode cX12_two 129 = .ok (.lcmp, 1) := by decide +kernel
theorem dX12_two_130 : decode cX12_two 130 = .ok (.ifCond .eq 158, 3) := by decide +kernel
theorem dX12_two_133 : decode cX12_two 133 = .ok (.lload 18, 2) := by decide +kernel
theorem dX12_two_135 : decode cX12_two 135 = .ok (.lconst 0, 1) := by decide +kernel
theorem dX12_two_136 : decode cX12_two 136 = .ok (.lcmp, 1) := by decide +kernel
theorem dX12_two_137 : decode cX12_two 137 = .ok (.ifCond .eq 151, 3) := by decide +kernel
theorem dX12_two_140 : decode cX12_two 140 = .ok (.aload_n 0, 1) := by decide +kernel
theorem dX12_two_141 : decode cX12_two 141 = .ok (.getfield 22, 3) := by decide +kernel
theorem dX12_two_144 : decode cX12_two 144 = .ok (.iload 13, 2) := by decide +kernel
theorem dX12_two_146 : decode cX12_two 146 = .ok (.iaload, 1) := by decide +kernel
theorem dX12_two_147 : decode cX12_two 147 = .ok (.i2l, 1) := by decide +kernel
theorem dX12_two_148 : decode cX12_two 148 = .ok (.lload 18, 2) := by decide +kernel
theorem dX12_two_150 : decode cX12_two 150 = .ok (.ladd, 1) := by decide +kernel
theorem dX12_two_151 : decode cX12_two 151 = .ok (.lconst 0, 1) := by decide +kernel
theorem dX12_two_152 : decode cX12_two 152 = .ok (.lcmp, 1) := by decide +kernel
theorem dX12_two_153 : decode cX12_two 153 = .ok (.ifCond .lt 135, 3) := by decide +kernel
theorem dX12_two_156 : decode cX12_two 156 = .ok (.aload_n 0, 1) := by decide +kernel
theorem dX12_two_157 : decode cX12_two 157 = .ok (.getfield 22, 3) := by decide +kernel
theorem dX12_two_160 : decode cX12_two 160 = .ok (.iload 13, 2) := by decide +kernel
theorem dX12_two_162 : decode cX12_two 162 = .ok (.iaload, 1) := by decide +kernel
theorem dX12_two_163 : decode cX12_two 163 = .ok (.i2l, 1) := by decide +kernel
theorem dX12_two_164 : decode cX12_two 164 = .ok (.lload 18, 2) := by decide +kernel
theorem dX12_two_166 : decode cX12_two 166 = .ok (.ladd, 1) := by decide +kernel
theorem dX12_two_167 : decode cX12_two 167 = .ok (.aload_n 0, 1) := by decide +kernel
theorem dX12_two_168 : decode cX12_two 168 = .ok (.getfield 19, 3) := by decide +kernel
theorem dX12_two_171 : decode cX12_two 171 = .ok (.iload 13, 2) := by decide +kernel
theorem dX12_two_173 : decode cX12_two 173 = .ok (.iaload, 1) := by decide +kernel
theorem dX12_two_174 : decode cX12_two 174 = .ok (.i2l, 1) := by decide +kernel
theorem dX12_two_175 : decode cX12_two 175 = .ok (.lcmp, 1) := by decide +kernel
theorem dX12_two_176 : decode cX12_two 176 = .ok (.ifCond .le 6, 3) := by decide +kernel
theorem dX12_two_179 : decode cX12_two 179 = .ok (.goto 109, 3) := by decide +kernel
theorem dX12_two_182 : decode cX12_two 182 = .ok (.aload_n 0, 1) := by decide +kernel
theorem dX12_two_183 : decode cX12_two 183 = .ok (.getfield 13, 3) := by decide +kernel
theorem dX12_two_186 : decode cX12_two 186 = .ok (.iload 12, 2) := by decide +kernel
theorem dX12_two_188 : decode cX12_two 188 = .ok (.iaload, 1) := by decide +kernel
theorem dX12_two_189 : decode cX12_two 189 = .ok (.i2l, 1) := by decide +kernel
theorem dX12_two_190 : decode cX12_two 190 = .ok (.lload 16, 2) := by decide +kernel
theorem dX12_two_192 : decode cX12_two 192 = .ok (.lmul, 1) := by decide +kernel
theorem dX12_two_193 : decode cX12_two 193 = .ok (.aload_n 0, 1) := by decide +kernel
theorem dX12_two_194 : decode cX12_two 194 = .ok (.getfield 13, 3) := by decide +kernel
theorem dX12_two_197 : decode cX12_two 197 = .ok (.iload 13, 2) := by decide +kernel
theorem dX12_two_199 : decode cX12_two 199 = .ok (.iaload, 1) := by decide +kernel
theorem dX12_two_200 : decode cX12_two 200 = .ok (.i2l, 1) := by decide +kernel
theorem dX12_two_201 : decode cX12_two 201 = .ok (.lload 18, 2) := by decide +kernel
theorem dX12_two_203 : decode cX12_two 203 = .ok (.lmul, 1) := by decide +kernel
theorem dX12_two_204 : decode cX12_two 204 = .ok (.ladd, 1) := by decide +kernel
theorem dX12_two_205 : decode cX12_two 205 = .ok (.lload 7, 2) := by decide +kernel
theorem dX12_two_207 : decode cX12_two 207 = .ok (.lcmp, 1) := by decide +kernel
theorem dX12_two_208 : decode cX12_two 208 = .ok (.ifCond .ne 80, 3) := by decide +kernel
theorem dX12_two_211 : decode cX12_two 211 = .ok (.aload_n 0, 1) := by decide +kernel
theorem dX12_two_212 : decode cX12_two 212 = .ok (.getfield 16, 3) := by decide +kernel
theorem dX12_two_215 : decode cX12_two 215 = .ok (.iload 12, 2) := by decide +kernel
theorem dX12_two_217 : decode cX12_two 217 = .ok (.iaload, 1) := by decide +kernel
theorem dX12_two_218 : decode cX12_two 218 = .ok (.i2l, 1) := by decide +kernel
theorem dX12_two_219 : decode cX12_two 219 = .ok (.lload 16, 2) := by decide +kernel
theorem dX12_two_221 : decode cX12_two 221 = .ok (.lmul, 1) := by decide +kernel
theorem dX12_two_222 : decode cX12_two 222 = .ok (.aload_n 0, 1) := by decide +kernel
theorem dX12_two_223 : decode cX12_two 223 = .ok (.getfield 16, 3) := by decide +kernel
theorem dX12_two_226 : decode cX12_two 226 = .ok (.iload 13, 2) := by decide +kernel
theorem dX12_two_228 : decode cX12_two 228 = .ok (.iaload, 1) := by decide +kernel
theorem dX12_two_229 : decode cX12_two 229 = .ok (.i2l, 1) := by decide +kernel
theorem dX12_two_230 : decode cX12_two 230 = .ok (.lload 18, 2) := by decide +kernel
theorem dX12_two_232 : decode cX12_two 232 = .ok (.lmul, 1) := by decide +kernel
theorem dX12_two_233 : decode cX12_two 233 = .ok (.ladd, 1) := by decide +kernel
theorem dX12_two_234 : decode cX12_two 234 = .ok (.lload 9, 2) := by decide +kernel
theorem dX12_two_236 : decode cX12_two 236 = .ok (.lcmp, 1) := by decide +kernel
theorem dX12_two_237 : decode cX12_two 237 = .ok (.ifCond .eq 6, 3) := by decide +kernel
theorem dX12_two_240 : decode cX12_two 240 = .ok (.goto 48, 3) := by decide +kernel
theorem dX12_two_243 : decode cX12_two 243 = .ok (.iconst 1, 1) := by decide +kernel
theorem dX12_two_244 : decode cX12_two 244 = .ok (.istore 14, 2) := by decide +kernel
theorem dX12_two_246 : decode cX12_two 246 = .ok (.iload 11, 2) := by decide +kernel
theorem dX12_two_248 : decode cX12_two 248 = .ok (.ifCond .le 6, 3) := by decide +kernel
theorem dX12_two_251 : decode cX12_two 251 = .ok (.goto 37, 3) := by decide +kernel
theorem dX12_two_254 : decode cX12_two 254 = .ok (.aload_n 0, 1) := by decide +kernel
theorem dX12_two_255 : decode cX12_two 255 = .ok (.iload 12, 2) := by decide +kernel
theorem dX12_two_257 : decode cX12_two 257 = .ok (.invokevirtual 210, 3) := by decide +kernel
theorem dX12_two_260 : decode cX12_two 260 = .ok (.aload_n 0, 1) := by decide +kernel
theorem dX12_two_261 : decode cX12_two 261 = .ok (.iload 13, 2) := by decide +kernel
theorem dX12_two_263 : decode cX12_two 263 = .ok (.invokevirtual 210, 3) := by decide +kernel
theorem dX12_two_266 : decode cX12_two 266 = .ok (.aload_n 0, 1) := by decide +kernel
theorem dX12_two_267 : decode cX12_two 267 = .ok (.iload 15, 2) := by decide +kernel
theorem dX12_two_269 : decode cX12_two 269 = .ok (.invokevirtual 210, 3) := by decide +kernel
theorem dX12_two_272 : decode cX12_two 272 = .ok (.aload_n 0, 1) := by decide +kernel
theorem dX12_two_273 : decode cX12_two 273 = .ok (.aload_n 0, 1) := by decide +kernel
theorem dX12_two_274 : decode cX12_two 274 = .ok (.getfield 22, 3) := by decide +kernel
theorem dX12_two_277 : decode cX12_two 277 = .ok (.iload 13, 2) := by decide +kernel
theorem dX12_two_279 : decode cX12_two 279 = .ok (.iaload, 1) := by decide +kernel
theorem dX12_two_280 : decode cX12_two 280 = .ok (.i2l, 1) := by decide +kernel
theorem dX12_two_281 : decode cX12_two 281 = .ok (.lload 18, 2) := by decide +kernel
theorem dX12_two_283 : decode cX12_two 283 = .ok (.ladd, 1) := by decide +kernel
theorem dX12_two_284 : decode cX12_two 284 = .ok (.l2i, 1) := by decide +kernel
theorem dX12_two_285 : decode cX12_two 285 = .ok (.invokevirtual 210, 3) := by decide +kernel
theorem dX12_two_288 : decode cX12_two 288 = .ok (.iinc 15 1, 3) := by decide +kernel
theorem dX12_two_291 : decode cX12_two 291 = .ok (.goto (-202), 3) := by decide +kernel
theorem dX12_two_294 : decode cX12_two 294 = .ok (.iload 11, 2) := by decide +kernel
theorem dX12_two_296 : decode cX12_two 296 = .ok (.iload 14, 2) := by decide +kernel
theorem dX12_two_298 : decode cX12_two 298 = .ok (.ifCond .eq 7, 3) := by decide +kernel
theorem dX12_two_301 : decode cX12_two 301 = .ok (.iconst 1, 1) := by decide +kernel
theorem dX12_two_302 : decode cX12_two 302 = .ok (.goto 4, 3) := by decide +kernel
theorem dX12_two_305 : decode cX12_two 305 = .ok (.iconst 0, 1) := by decide +kernel
theorem dX12_two_306 : decode cX12_two 306 = .ok (.iadd, 1) := by decide +kernel
theorem dX12_two_307 : decode cX12_two 307 = .ok (.istore 11, 2) := by decide +kernel
theorem dX12_two_309 : decode cX12_two 309 = .ok (.iinc 13 1, 3) := by decide +kernel
theorem dX12_two_312 : decode cX12_two 312 = .ok (.goto (-238), 3) := by decide +kernel
theorem dX12_two_315 : decode cX12_two 315 = .ok (.iinc 12 1, 3) := by decide +kernel
theorem dX12_two_318 : decode cX12_two 318 = .ok (.goto (-259), 3) := by decide +kernel
theorem dX12_two_321 : decode cX12_two 321 = .ok (.iload 11, 2) := by decide +kernel
theorem dX12_two_323 : decode cX12_two 323 = .ok (.ireturn, 1) := by decide +kernel
theorem dX12_isEnd_0 : decode cX12_isEnd 0 = .ok (.iload_n 1, 1) := by decide +kernel
theorem dX12_isEnd_1 : decode cX12_isEnd 1 = .ok (.iconst (-1), 1) := by decide +kernel
theorem dX12_isEnd_2 : decode cX12_isEnd 2 = .ok (.if_icmp .eq 12, 3) := by decide +kernel
theorem dX12_isEnd_5 : decode cX12_isEnd 5 = .ok (.aload_n 0, 1) := by decide +kernel
theorem dX12_isEnd_6 : decode cX12_isEnd 6 = .ok (.iload_n 1, 1) := by decide +kernel
theorem dX12_isEnd_7 : decode cX12_isEnd 7 = .ok (.iconst 0, 1) := by decide +kernel
theorem dX12_isEnd_8 : decode cX12_isEnd 8 = .ok (.invokevirtual 284, 3) := by decide +kernel
theorem dX12_isEnd_11 : decode cX12_isEnd 11 = .ok (.ifCond .eq 7, 3) := by decide +kernel
theorem dX12_isEnd_14 : decode cX12_isEnd 14 = .ok (.iconst 1, 1) := by decide +kernel
theorem dX12_isEnd_15 : decode cX12_isEnd 15 = .ok (.goto 4, 3) := by decide +kernel
theorem dX12_isEnd_18 : decode cX12_isEnd 18 = .ok (.iconst 0, 1) := by decide +kernel
theorem dX12_isEnd_19 : decode cX12_isEnd 19 = .ok (.ireturn, 1) := by decide +kernel
theorem dX12_pump_0 : decode cX12_pump 0 = .ok (.aload_n 0, 1) := by decide +kernel
theorem dX12_pump_1 : decode cX12_pump 1 = .ok (.iconst 0, 1) := by decide +kernel
theorem dX12_pump_2 : decode cX12_pump 2 = .ok (.putfield 133, 3) := by decide +kernel
theorem dX12_pump_5 : decode cX12_pump 5 = .ok (.aload_n 0, 1) := by decide +kernel
theorem dX12_pump_6 : decode cX12_pump 6 = .ok (.iload_n 1, 1) := by decide +kernel
theorem dX12_pump_7 : decode cX12_pump 7 = .ok (.invokevirtual 301, 3) := by decide +kernel
theorem dX12_pump_10 : decode cX12_pump 10 = .ok (.ifCond .eq 35, 3) := by decide +kernel
theorem dX12_pump_13 : decode cX12_pump 13 = .ok (.aload_n 0, 1) := by decide +kernel
theorem dX12_pump_14 : decode cX12_pump 14 = .ok (.iload_n 2, 1) := by decide +kernel
theorem dX12_pump_15 : decode cX12_pump 15 = .ok (.invokevirtual 301, 3) := by decide +kernel
theorem dX12_pump_18 : decode cX12_pump 18 = .ok (.ifCond .eq 27, 3) := by decide +kernel
theorem dX12_pump_21 : decode cX12_pump 21 = .ok (.iload_n 1, 1) := by decide +kernel
theorem dX12_pump_22 : decode cX12_pump 22 = .ok (.iload_n 2, 1) := by decide +kernel
theorem dX12_pump_23 : decode cX12_pump 23 = .ok (.if_icmp .eq 22, 3) := by decide +kernel
theorem dX12_pump_26 : decode cX12_pump 26 = .ok (.iload_n 3, 1) := by decide +kernel
theorem dX12_pump_27 : decode cX12_pump 27 = .ok (.iconst 1, 1) := by decide +kernel
theorem dX12_pump_28 : decode cX12_pump 28 = .ok (.bipush 50, 2) := by decide +kernel
theorem dX12_pump_30 : decode cX12_pump 30 = .ok (.invokestatic 142, 3) := by decide +kernel
theorem dX12_pump_33 : decode cX12_pump 33 = .ok (.ifCond .eq 12, 3) := by decide +kernel
theorem dX12_pump_36 : decode cX12_pump 36 = .ok (.aload_n 0, 1) := by decide +kernel
theorem dX12_pump_37 : decode cX12_pump 37 = .ok (.getfield 304, 3) := by decide +kernel
theorem dX12_pump_40 : decode cX12_pump 40 = .ok (.bipush 6, 2) := by decide +kernel
theorem dX12_pump_42 : decode cX12_pump 42 = .ok (.if_icmp .ne 5, 3) := by decide +kernel
theorem dX12_pump_45 : decode cX12_pump 45 = .ok (.iconst (-1), 1) := by decide +kernel
theorem dX12_pump_46 : decode cX12_pump 46 = .ok (.ireturn, 1) := by decide +kernel
theorem dX12_pump_47 : decode cX12_pump 47 = .ok (.aload_n 0, 1) := by decide +kernel
theorem dX12_pump_48 : decode cX12_pump 48 = .ok (.getfield 66, 3) := by decide +kernel
theorem dX12_pump_51 : decode cX12_pump 51 = .ok (.aload_n 0, 1) := by decide +kernel
theorem dX12_pump_52 : decode cX12_pump 52 = .ok (.getfield 304, 3) := by decide +kernel
theorem dX12_pump_55 : decode cX12_pump 55 = .ok (.iload_n 1, 1) := by decide +kernel
theorem dX12_pump_56 : decode cX12_pump 56 = .ok (.iastore, 1) := by decide +kernel
theorem dX12_pump_57 : decode cX12_pump 57 = .ok (.aload_n 0, 1) := by decide +kernel
theorem dX12_pump_58 : decode cX12_pump 58 = .ok (.getfield 69, 3) := by decide +kernel
theorem dX12_pump_61 : decode cX12_pump 61 = .ok (.aload_n 0, 1) := by decide +kernel
theorem dX12_pump_62 : decode cX12_pump 62 = .ok (.getfield 304, 3) := by decide +kernel
theorem dX12_pump_65 : decode cX12_pump 65 = .ok (.iload_n 2, 1) := by decide +kernel
theorem dX12_pump_66 : decode cX12_pump 66 = .ok (.iastore, 1) := by decide +kernel
theorem dX12_pump_67 : decode cX12_pump 67 = .ok (.aload_n 0, 1) := by decide +kernel
theorem dX12_pump_68 : decode cX12_pump 68 = .ok (.getfield 72, 3) := by decide +kernel
theorem dX12_pump_71 : decode cX12_pump 71 = .ok (.aload_n 0, 1) := by decide +kernel
theorem dX12_pump_72 : decode cX12_pump 72 = .ok (.getfield 304, 3) := by decide +kernel
theorem dX12_pump_75 : decode cX12_pump 75 = .ok (.iload_n 3, 1) := by decide +kernel
theorem dX12_pump_76 : decode cX12_pump 76 = .ok (.iastore, 1) := by decide +kernel
theorem dX12_pump_77 : decode cX12_pump 77 = .ok (.aload_n 0, 1) := by decide +kernel
theorem dX12_pump_78 : decode cX12_pump 78 = .ok (.getfield 75, 3) := by decide +kernel
theorem dX12_pump_81 : decode cX12_pump 81 = .ok (.aload_n 0, 1) := by decide +kernel
theorem dX12_pump_82 : decode cX12_pump 82 = .ok (.getfield 304, 3) := by decide +kernel
theorem dX12_pump_85 : decode cX12_pump 85 = .ok (.iload 4, 2) := by decide +kernel
theorem dX12_pump_87 : decode cX12_pump 87 = .ok (.bastore, 1) := by decide +kernel
theorem dX12_pump_88 : decode cX12_pump 88 = .ok (.aload_n 0, 1) := by decide +kernel
theorem dX12_pump_89 : decode cX12_pump 89 = .ok (.dup, 1) := by decide +kernel
theorem dX12_pump_90 : decode cX12_pump 90 = .ok (.getfield 304, 3) := by decide +kernel
theorem dX12_pump_93 : decode cX12_pump 93 = .ok (.iconst 1, 1) := by decide +kernel
theorem dX12_pump_94 : decode cX12_pump 94 = .ok (.iadd, 1) := by decide +kernel
theorem dX12_pump_95 : decode cX12_pump 95 = .ok (.putfield 304, 3) := by decide +kernel
theorem dX12_pump_98 : decode cX12_pump 98 = .ok (.aload_n 0, 1) := by decide +kernel
theorem dX12_pump_99 : decode cX12_pump 99 = .ok (.getfield 304, 3) := by decide +kernel
theorem dX12_pump_102 : decode cX12_pump 102 = .ok (.iconst 1, 1) := by decide +kernel
theorem dX12_pump_103 : decode cX12_pump 103 = .ok (.isub, 1) := by decide +kernel
theorem dX12_pump_104 : decode cX12_pump 104 = .ok (.ireturn, 1) := by decide +kernel
theorem dX12_runs_0 : decode cX12_runs 0 = .ok (.iload_n 2, 1) := by decide +kernel
theorem dX12_runs_1 : decode cX12_runs 1 = .ok (.ifCond .le 12, 3) := by decide +kernel
theorem dX12_runs_4 : decode cX12_runs 4 = .ok (.aload_n 0, 1) := by decide +kernel
theorem dX12_runs_5 : decode cX12_runs 5 = .ok (.getfield 66, 3) := by decide +kernel
theorem dX12_runs_8 : decode cX12_runs 8 = .ok (.iload_n 1, 1) := by decide +kernel
theorem dX12_runs_9 : decode cX12_runs 9 = .ok (.iaload, 1) := by decide +kernel
theorem dX12_runs_10 : decode cX12_runs 10 = .ok (.goto 9, 3) := by decide +kernel
theorem dX12_runs_13 : decode cX12_runs 13 = .ok (.aload_n 0, 1) := by decide +kernel
theorem dX12_runs_14 : decode cX12_runs 14 = .ok (.getfield 69, 3) := by decide +kernel
theorem dX12_runs_17 : decode cX12_runs 17 = .ok (.iload_n 1, 1) := by decide +kernel
theorem dX12_runs_18 : decode cX12_runs 18 = .ok (.iaload, 1) := by decide +kernel
theorem dX12_runs_19 : decode cX12_runs 19 = .ok (.istore_n 3, 1) := by decide +kernel
theorem dX12_runs_20 : decode cX12_runs 20 = .ok (.iload_n 2, 1) := by decide +kernel
theorem dX12_runs_21 : decode cX12_runs 21 = .ok (.ifCond .le 12, 3) := by decide +kernel
theorem dX12_runs_24 : decode cX12_runs 24 = .ok (.aload_n 0, 1) := by decide +kernel
theorem dX12_runs_25 : decode cX12_runs 25 = .ok (.getfield 69, 3) := by decide +kernel
theorem dX12_runs_28 : decode cX12_runs 28 = .ok (.iload_n 1, 1) := by decide +kernel
theorem dX12_runs_29 : decode cX12_runs 29 = .ok (.iaload, 1) := by decide +kernel
theorem dX12_runs_30 : decode cX12_runs 30 = .ok (.goto 9, 3) := by decide +kernel
theorem dX12_runs_33 : decode cX12_runs 33 = .ok (.aload_n 0, 1) := by decide +kernel
theorem dX12_runs_34 : decode cX12_runs 34 = .ok (.getfield 66, 3) := by decide +kernel
theorem dX12_runs_37 : decode cX12_runs 37 = .ok (.iload_n 1, 1) := by decide +kernel
theorem dX12_runs_38 : decode cX12_runs 38 = .ok (.iaload, 1) := by decide +kernel
theorem dX12_runs_39 : decode cX12_runs 39 = .ok (.istore 4, 2) := by decide +kernel
theorem dX12_runs_41 : decode cX12_runs 41 = .ok (.iload_n 2, 1) := by decide +kernel
theorem dX12_runs_42 : decode cX12_runs 42 = .ok (.invokestatic 201, 3) := by decide +kernel
theorem dX12_runs_45 : decode cX12_runs 45 = .ok (.aload_n 0, 1) := by decide +kernel
theorem dX12_runs_46 : decode cX12_runs 46 = .ok (.getfield 72, 3) := by decide +kernel
theorem dX12_runs_49 : decode cX12_runs 49 = .ok (.iload_n 1, 1) := by decide +kernel
theorem dX12_runs_50 : decode cX12_runs 50 = .ok (.iaload, 1) := by decide +kernel
theorem dX12_runs_51 : decode cX12_runs 51 = .ok (.imul, 1) := by decide +kernel
theorem dX12_runs_52 : decode cX12_runs 52 = .ok (.istore 5, 2) := by decide +kernel
theorem dX12_runs_54 : decode cX12_runs 54 = .ok (.iload_n 3, 1) := by decide +kernel
theorem dX12_runs_55 : decode cX12_runs 55 = .ok (.iconst (-1), 1) := by decide +kernel
theorem dX12_runs_56 : decode cX12_runs 56 = .ok (.if_icmp .eq 14, 3) := by decide +kernel
theorem dX12_runs_59 : decode cX12_runs 59 = .ok (.aload_n 0, 1) := by decide +kernel
theorem dX12_runs_60 : decode cX12_runs 60 = .ok (.getfield 22, 3) := by decide +kernel
theorem dX12_runs_63 : decode cX12_runs 63 = .ok (.iload_n 3, 1) := by decide +kernel
theorem dX12_runs_64 : decode cX12_runs 64 = .ok (.iaload, 1) := by decide +kernel
theorem dX12_runs_65 : decode cX12_runs 65 = .ok (.iload 5, 2) := by decide +kernel
theorem dX12_runs_67 : decode cX12_runs 67 = .ok (.if_icmp .lt 20, 3) := by decide +kernel
theorem dX12_runs_70 : decode cX12_runs 70 = .ok (.iload 4, 2) := by decide +kernel
theorem dX12_runs_72 : decode cX12_runs 72 = .ok (.iconst (-1), 1) := by decide +kernel
theorem dX12_runs_73 : decode cX12_runs 73 = .ok (.if_icmp .eq 17, 3) := by decide +kernel
theorem dX12_runs_76 : decode cX12_runs 76 = .ok (.aload_n 0, 1) := by decide +kernel
theorem dX12_runs_77 : decode cX12_runs 77 = .ok (.iload 4, 2) := by decide +kernel
theorem dX12_runs_79 : decode cX12_runs 79 = .ok (.invokevirtual 307, 3) := by decide +kernel
theorem dX12_runs_82 : decode cX12_runs 82 = .ok (.iload 5, 2) := by decide +kernel
theorem dX12_runs_84 : decode cX12_runs 84 = .ok (.if_icmp .ge 6, 3) := by decide +kernel
theorem dX12_runs_87 : decode cX12_runs 87 = .ok (.bipush (-2), 2) := by decide +kernel
theorem dX12_runs_89 : decode cX12_runs 89 = .ok (.ireturn, 1) := by decide +kernel
theorem dX12_runs_90 : decode cX12_runs 90 = .ok (.iload_n 3, 1) := by decide +kernel
theorem dX12_runs_91 : decode cX12_runs 91 = .ok (.iconst (-1), 1) := by decide +kernel
theorem dX12_runs_92 : decode cX12_runs 92 = .ok (.if_icmp .eq 14, 3) := by decide +kernel
theorem dX12_runs_95 : decode cX12_runs 95 = .ok (.aload_n 0, 1) := by decide +kernel
theorem dX12_runs_96 : decode cX12_runs 96 = .ok (.getfield 22, 3) := by decide +kernel
theorem dX12_runs_99 : decode cX12_runs 99 = .ok (.iload_n 3, 1) := by decide +kernel
theorem dX12_runs_100 : decode cX12_runs 100 = .ok (.dup2, 1) := by decide +kernel
theorem dX12_runs_101 : decode cX12_runs 101 = .ok (.iaload, 1) := by decide +kernel
theorem dX12_runs_102 : decode cX12_runs 102 = .ok (.iload 5, 2) := by decide +kernel
theorem dX12_runs_104 : decode cX12_runs 104 = .ok (.isub, 1) := by decide +kernel
theorem dX12_runs_105 : decode cX12_runs 105 = .ok (.iastore, 1) := by decide +kernel
theorem dX12_runs_106 : decode cX12_runs 106 = .ok (.iload 4, 2) := by decide +kernel
theorem dX12_runs_108 : decode cX12_runs 108 = .ok (.iconst (-1), 1) := by decide +kernel
theorem dX12_runs_109 : decode cX12_runs 109 = .ok (.if_icmp .eq 15, 3) := by decide +kernel
theorem dX12_runs_112 : decode cX12_runs 112 = .ok (.aload_n 0, 1) := by decide +kernel
theorem dX12_runs_113 : decode cX12_runs 113 = .ok (.getfield 22, 3) := by decide +kernel
theorem dX12_runs_116 : decode cX12_runs 116 = .ok (.iload 4, 2) := by decide +kernel
theorem dX12_runs_118 : decode cX12_runs 118 = .ok (.dup2, 1) := by decide +kernel
theorem dX12_runs_119 : decode cX12_runs 119 = .ok (.iaload, 1) := by decide +kernel
theorem dX12_runs_120 : decode cX12_runs 120 = .ok (.iload 5, 2) := by decide +kernel
theorem dX12_runs_122 : decode cX12_runs 122 = .ok (.iadd, 1) := by decide +kernel
theorem dX12_runs_123 : decode cX12_runs 123 = .ok (.iastore, 1) := by decide +kernel
theorem dX12_runs_124 : decode cX12_runs 124 = .ok (.iload 5, 2) := by decide +kernel
theorem dX12_runs_126 : decode cX12_runs 126 = .ok (.ireturn, 1) := by decide +kernel
theorem dX12_run_0 : decode cX12_run 0 = .ok (.aload_n 0, 1) := by decide +kernel
theorem dX12_run_1 : decode cX12_run 1 = .ok (.iconst 0, 1) := by decide +kernel
theorem dX12_run_2 : decode cX12_run 2 = .ok (.putfield 133, 3) := by decide +kernel
theorem dX12_run_5 : decode cX12_run 5 = .ok (.iload_n 1, 1) := by decide +kernel
theorem dX12_run_6 : decode cX12_run 6 = .ok (.iconst 0, 1) := by decide +kernel
theorem dX12_run_7 : decode cX12_run 7 = .ok (.aload_n 0, 1) := by decide +kernel
theorem dX12_run_8 : decode cX12_run 8 = .ok (.getfield 304, 3) := by decide +kernel
theorem dX12_run_11 : decode cX12_run 11 = .ok (.iconst 1, 1) := by decide +kernel
theorem dX12_run_12 : decode cX12_run 12 = .ok (.isub, 1) := by decide +kernel
theorem dX12_run_13 : decode cX12_run 13 = .ok (.invokestatic 142, 3) := by decide +kernel
theorem dX12_run_16 : decode cX12_run 16 = .ok (.ifCond .eq 18, 3) := by decide +kernel
theorem dX12_run_19 : decode cX12_run 19 = .ok (.iload_n 2, 1) := by decide +kernel
theorem dX12_run_20 : decode cX12_run 20 = .ok (.bipush (-99), 2) := by decide +kernel
theorem dX12_run_22 : decode cX12_run 22 = .ok (.bipush 99, 2) := by decide +kernel
theorem dX12_run_24 : decode cX12_run 24 = .ok (.invokestatic 142, 3) := by decide +kernel
theorem dX12_run_27 : decode cX12_run 27 = .ok (.ifCond .eq 7, 3) := by decide +kernel
theorem dX12_run_30 : decode cX12_run 30 = .ok (.iload_n 2, 1) := by decide +kernel
theorem dX12_run_31 : decode cX12_run 31 = .ok (.ifCond .ne 7, 3) := by decide +kernel
theorem dX12_run_34 : decode cX12_run 34 = .ok (.iconst (-1), 1) := by decide +kernel
theorem dX12_run_35 : decode cX12_run 35 = .ok (.goto 9, 3) := by decide +kernel
theorem dX12_run_38 : decode cX12_run 38 = .ok (.aload_n 0, 1) := by decide +kernel
theorem dX12_run_39 : decode cX12_run 39 = .ok (.iload_n 1, 1) := by decide +kernel
theorem dX12_run_40 : decode cX12_run 40 = .ok (.iload_n 2, 1) := by decide +kernel
theorem dX12_run_41 : decode cX12_run 41 = .ok (.invokevirtual 310, 3) := by decide +kernel
theorem dX12_run_44 : decode cX12_run 44 = .ok (.ireturn, 1) := by decide +kernel
theorem dX12_best_0 : decode cX12_best 0 = .ok (.aload_n 0, 1) := by decide +kernel
theorem dX12_best_1 : decode cX12_best 1 = .ok (.iconst 0, 1) := by decide +kernel
theorem dX12_best_2 : decode cX12_best 2 = .ok (.putfield 133, 3) := by decide +kernel
theorem dX12_best_5 : decode cX12_best 5 = .ok (.iload_n 1, 1) := by decide +kernel
theorem dX12_best_6 : decode cX12_best 6 = .ok (.iconst 0, 1) := by decide +kernel
theorem dX12_best_7 : decode cX12_best 7 = .ok (.aload_n 0, 1) := by decide +kernel
theorem dX12_best_8 : decode cX12_best 8 = .ok (.getfield 304, 3) := by decide +kernel
theorem dX12_best_11 : decode cX12_best 11 = .ok (.iconst 1, 1) := by decide +kernel
theorem dX12_best_12 : decode cX12_best 12 = .ok (.isub, 1) := by decide +kernel
theorem dX12_best_13 : decode cX12_best 13 = .ok (.invokestatic 142, 3) := by decide +kernel
theorem dX12_best_16 : decode cX12_best 16 = .ok (.ifCond .eq 10, 3) := by decide +kernel
theorem dX12_best_19 : decode cX12_best 19 = .ok (.iload_n 2, 1) := by decide +kernel
theorem dX12_best_20 : decode cX12_best 20 = .ok (.invokestatic 178, 3) := by decide +kernel
theorem dX12_best_23 : decode cX12_best 23 = .ok (.ifCond .ne 5, 3) := by decide +kernel
theorem dX12_best_26 : decode cX12_best 26 = .ok (.iconst (-1), 1) := by decide +kernel
theorem dX12_best_27 : decode cX12_best 27 = .ok (.ireturn, 1) := by decide +kernel
theorem dX12_best_28 : decode cX12_best 28 = .ok (.iconst 0, 1) := by decide +kernel
theorem dX12_best_29 : decode cX12_best 29 = .ok (.istore_n 3, 1) := by decide +kernel
theorem dX12_best_30 : decode cX12_best 30 = .ok (.aload_n 0, 1) := by decide +kernel
theorem dX12_best_31 : decode cX12_best 31 = .ok (.iload_n 2, 1) := by decide +kernel
theorem dX12_best_32 : decode cX12_best 32 = .ok (.invokevirtual 198, 3) := by decide +kernel
theorem dX12_best_35 : decode cX12_best 35 = .ok (.istore 4, 2) := by decide +kernel
theorem dX12_best_37 : decode cX12_best 37 = .ok (.aload_n 0, 1) := by decide +kernel
theorem dX12_best_38 : decode cX12_best 38 = .ok (.iconst 0, 1) := by decide +kernel
theorem dX12_best_39 : decode cX12_best 39 = .ok (.invokevirtual 204, 3) := by decide +kernel
theorem dX12_best_42 : decode cX12_best 42 = .ok (.istore 5, 2) := by decide +kernel
theorem dX12_best_44 : decode cX12_best 44 = .ok (.iconst 1, 1) := by decide +kernel
theorem dX12_best_45 : decode cX12_best 45 = .ok (.istore 6, 2) := by decide +kernel
theorem dX12_best_47 : decode cX12_best 47 = .ok (.iload 6, 2) := by decide +kernel
theorem dX12_best_49 : decode cX12_best 49 = .ok (.bipush 99, 2) := by decide +kernel
theorem dX12_best_51 : decode cX12_best 51 = .ok (.if_icmp .gt 112, 3) := by decide +kernel
theorem dX12_best_54 : decode cX12_best 54 = .ok (.iconst (-1), 1) := by decide +kernel
theorem dX12_best_55 : decode cX12_best 55 = .ok (.istore 7, 2) := by decide +kernel
theorem dX12_best_57 : decode cX12_best 57 = .ok (.iload 7, 2) := by decide +kernel
theorem dX12_best_59 : decode cX12_best 59 = .ok (.iconst 2, 1) := by decide +kernel
theorem dX12_best_60 : decode cX12_best 60 = .ok (.if_icmp .ge 97, 3) := by decide +kernel
theorem dX12_best_63 : decode cX12_best 63 = .ok (.aload_n 0, 1) := by decide +kernel
theorem dX12_best_64 : decode cX12_best 64 = .ok (.invokevirtual 292, 3) := by decide +kernel
theorem dX12_best_67 : decode cX12_best 67 = .ok (.aload_n 0, 1) := by decide +kernel
theorem dX12_best_68 : decode cX12_best 68 = .ok (.iload_n 1, 1) := by decide +kernel
theorem dX12_best_69 : decode cX12_best 69 = .ok (.iload 7, 2) := by decide +kernel
theorem dX12_best_71 : decode cX12_best 71 = .ok (.iload 6, 2) := by decide +kernel
theorem dX12_best_73 : decode cX12_best 73 = .ok (.imul, 1) := by decide +kernel
theorem dX12_best_74 : decode cX12_best 74 = .ok (.invokevirtual 310, 3) := by decide +kernel
theorem dX12_best_77 : decode cX12_best 77 = .ok (.ifCond .lt 70, 3) := by decide +kernel
theorem dX12_best_80 : decode cX12_best 80 = .ok (.aload_n 0, 1) := by decide +kernel
theorem dX12_best_81 : decode cX12_best 81 = .ok (.iload_n 2, 1) := by decide +kernel
theorem dX12_best_82 : decode cX12_best 82 = .ok (.invokevirtual 198, 3) := by decide +kernel
theorem dX12_best_85 : decode cX12_best 85 = .ok (.istore 8, 2) := by decide +kernel
theorem dX12_best_87 : decode cX12_best 87 = .ok (.aload_n 0, 1) := by decide +kernel
theorem dX12_best_88 : decode cX12_best 88 = .ok (.iconst 0, 1) := by decide +kernel
theorem dX12_best_89 : decode cX12_best 89 = .ok (.invokevirtual 204, 3) := by decide +kernel
theorem dX12_best_92 : decode cX12_best 92 = .ok (.istore 9, 2) := by decide +kernel
theorem dX12_best_94 : decode cX12_best 94 = .ok (.iload 8, 2) := by decide +kernel
theorem dX12_best_96 : decode cX12_best 96 = .ok (.invokestatic 201, 3) := by decide +kernel
theorem dX12_best_99 : decode cX12_best 99 = .ok (.iload 4, 2) := by decide +kernel
theorem dX12_best_101 : decode cX12_best 101 = .ok (.invokestatic 201, 3) := by decide +kernel
theorem dX12_best_104 : decode cX12_best 104 = .ok (.if_icmp .lt 29, 3) := by decide +kernel
theorem dX12_best_107 : decode cX12_best 107 = .ok (.iload 8, 2) := by decide +kernel
theorem dX12_best_109 : decode cX12_best 109 = .ok (.invokestatic 201, 3) := by decide +kernel
theorem dX12_best_112 : decode cX12_best 112 = .ok (.iload 4, 2) := by decide +kernel
theorem dX12_best_114 : decode cX12_best 114 = .ok (.invokestatic 201, 3) := by decide +kernel
theorem dX12_best_117 : decode cX12_best 117 = .ok (.if_icmp .ne 30, 3) := by decide +kernel
theorem dX12_best_120 : decode cX12_best 120 = .ok (.iload 9, 2) := by decide +kernel
theorem dX12_best_122 : decode cX12_best 122 = .ok (.invokestatic 201, 3) := by decide +kernel
theorem dX12_best_125 : decode cX12_best 125 = .ok (.iload 5, 2) := by decide +kernel
theorem dX12_best_127 : decode cX12_best 127 = .ok (.invokestatic 201, 3) := by decide +kernel
theorem dX12_best_130 : decode cX12_best 130 = .ok (.if_icmp .ge 17, 3) := by decide +kernel
theorem dX12_best_133 : decode cX12_best 133 = .ok (.iload 7, 2) := by decide +kernel
theorem dX12_best_135 : decode cX12_best 135 = .ok (.iload 6, 2) := by decide +kernel
theorem dX12_best_137 : decode cX12_best 137 = .ok (.imul, 1) := by decide +kernel
theorem dX12_best_138 : decode cX12_best 138 = .ok (.istore_n 3, 1) := by decide +kernel
theorem dX12_best_139 : decode cX12_best 139 = .ok (.iload 8, 2) := by decide +kernel
theorem dX12_best_141 : decode cX12_best 141 = .ok (.istore 4, 2) := by decide +kernel
theorem dX12_best_143 : decode cX12_best 143 = .ok (.iload 9, 2) := by decide +kernel
theorem dX12_best_145 : decode cX12_best 145 = .ok (.istore 5, 2) := by decide +kernel
theorem dX12_best_147 : decode cX12_best 147 = .ok (.aload_n 0, 1) := by decide +kernel
theorem dX12_best_148 : decode cX12_best 148 = .ok (.invokevirtual 298, 3) := by decide +kernel
theorem dX12_best_151 : decode cX12_best 151 = .ok (.iinc 7 2, 3) := by decide +kernel
theorem dX12_best_154 : decode cX12_best 154 = .ok (.goto (-97), 3) := by decide +kernel
theorem dX12_best_157 : decode cX12_best 157 = .ok (.iinc 6 1, 3) := by decide +kernel
theorem dX12_best_160 : decode cX12_best 160 = .ok (.goto (-113), 3) := by decide +kernel
theorem dX12_best_163 : decode cX12_best 163 = .ok (.aload_n 0, 1) := by decide +kernel
theorem dX12_best_164 : decode cX12_best 164 = .ok (.iconst 0, 1) := by decide +kernel
theorem dX12_best_165 : decode cX12_best 165 = .ok (.putfield 136, 3) := by decide +kernel
theorem dX12_best_168 : decode cX12_best 168 = .ok (.aload_n 0, 1) := by decide +kernel
theorem dX12_best_169 : decode cX12_best 169 = .ok (.iload_n 3, 1) := by decide +kernel
theorem dX12_best_170 : decode cX12_best 170 = .ok (.invokevirtual 210, 3) := by decide +kernel
theorem dX12_best_173 : decode cX12_best 173 = .ok (.aload_n 0, 1) := by decide +kernel
theorem dX12_best_174 : decode cX12_best 174 = .ok (.iload 4, 2) := by decide +kernel
theorem dX12_best_176 : decode cX12_best 176 = .ok (.invokevirtual 210, 3) := by decide +kernel
theorem dX12_best_179 : decode cX12_best 179 = .ok (.aload_n 0, 1) := by decide +kernel
theorem dX12_best_180 : decode cX12_best 180 = .ok (.iload 5, 2) := by decide +kernel
theorem dX12_best_182 : decode cX12_best 182 = .ok (.invokevirtual 210, 3) := by decide +kernel
theorem dX12_best_185 : decode cX12_best 185 = .ok (.iconst 0, 1) := by decide +kernel
theorem dX12_best_186 : decode cX12_best 186 = .ok (.ireturn, 1) := by decide +kernel
theorem dX12_trim_0 : decode cX12_trim 0 = .ok (.aload_n 0, 1) := by decide +kernel
theorem dX12_trim_1 : decode cX12_trim 1 = .ok (.iconst 0, 1) := by decide +kernel
theorem dX12_trim_2 : decode cX12_trim 2 = .ok (.putfield 133, 3) := by decide +kernel
theorem dX12_trim_5 : decode cX12_trim 5 = .ok (.iload_n 1, 1) := by decide +kernel
theorem dX12_trim_6 : decode cX12_trim 6 = .ok (.invokestatic 178, 3) := by decide +kernel
theorem dX12_trim_9 : decode cX12_trim 9 = .ok (.ifCond .ne 5, 3) := by decide +kernel
theorem dX12_trim_12 : decode cX12_trim 12 = .ok (.iconst (-1), 1) := by decide +kernel
theorem dX12_trim_13 : decode cX12_trim 13 = .ok (.ireturn, 1) := by decide +kernel
theorem dX12_trim_14 : decode cX12_trim 14 = .ok (.aload_n 0, 1) := by decide +kernel
theorem dX12_trim_15 : decode cX12_trim 15 = .ok (.iload_n 1, 1) := by decide +kernel
theorem dX12_trim_16 : decode cX12_trim 16 = .ok (.invokevirtual 207, 3) := by decide +kernel
theorem dX12_trim_19 : decode cX12_trim 19 = .ok (.ifCond .eq 10, 3) := by decide +kernel
theorem dX12_trim_22 : decode cX12_trim 22 = .ok (.aload_n 0, 1) := by decide +kernel
theorem dX12_trim_23 : decode cX12_trim 23 = .ok (.iconst 0, 1) := by decide +kernel
theorem dX12_trim_24 : decode cX12_trim 24 = .ok (.putfield 136, 3) := by decide +kernel
theorem dX12_trim_27 : decode cX12_trim 27 = .ok (.iconst 0, 1) := by decide +kernel
theorem dX12_trim_28 : decode cX12_trim 28 = .ok (.ireturn, 1) := by decide +kernel
theorem dX12_trim_29 : decode cX12_trim 29 = .ok (.bipush (-2), 2) := by decide +kernel
theorem dX12_trim_31 : decode cX12_trim 31 = .ok (.istore_n 3, 1) := by decide +kernel
theorem dX12_trim_32 : decode cX12_trim 32 = .ok (.iconst 0, 1) := by decide +kernel
theorem dX12_trim_33 : decode cX12_trim 33 = .ok (.istore 4, 2) := by decide +kernel
theorem dX12_trim_35 : decode cX12_trim 35 = .ok (.iconst 0, 1) := by decide +kernel
theorem dX12_trim_36 : decode cX12_trim 36 = .ok (.istore 5, 2) := by decide +kernel
theorem dX12_trim_38 : decode cX12_trim 38 = .ok (.iconst (-1), 1) := by decide +kernel
theorem dX12_trim_39 : decode cX12_trim 39 = .ok (.istore 6, 2) := by decide +kernel
theorem dX12_trim_41 : decode cX12_trim 41 = .ok (.iconst 0, 1) := by decide +kernel
theorem dX12_trim_42 : decode cX12_trim 42 = .ok (.istore 7, 2) := by decide +kernel
theorem dX12_trim_44 : decode cX12_trim 44 = .ok (.iconst 0, 1) := by decide +kernel
theorem dX12_trim_45 : decode cX12_trim 45 = .ok (.istore 8, 2) := by decide +kernel
theorem dX12_trim_47 : decode cX12_trim 47 = .ok (.iload 8, 2) := by decide +kernel
theorem dX12_trim_49 : decode cX12_trim 49 = .ok (.aload_n 0, 1) := by decide +kernel
theorem dX12_trim_50 : decode cX12_trim 50 = .ok (.getfield 304, 3) := by decide +kernel
theorem dX12_trim_53 : decode cX12_trim 53 = .ok (.if_icmp .ge 243, 3) := by decide +kernel
theorem dX12_trim_56 : decode cX12_trim 56 = .ok (.bipush (-99), 2) := by decide +kernel
theorem dX12_trim_58 : decode cX12_trim 58 = .ok (.istore 9, 2) := by decide +kernel
theorem dX12_trim_60 : decode cX12_trim 60 = .ok (.iload 9, 2) := by decide +kernel
theorem dX12_trim_62 : decode cX12_trim 62 = .ok (.bipush 99, 2) := by decide +kernel
theorem dX12_trim_64 : decode cX12_trim 64 = .ok (.if_icmp .gt 226, 3) := by decide +kernel
theorem dX12_trim_67 : decode cX12_trim 67 = .ok (.iload 9, 2) := by decide +kernel
theorem dX12_trim_69 : decode cX12_trim 69 = .ok (.ifCond .eq 215, 3) := by decide +kernel
theorem dX12_trim_72 : decode cX12_trim 72 = .ok (.iload_n 2, 1) := by decide +kernel
theorem dX12_trim_73 : decode cX12_trim 73 = .ok (.ifCond .eq 13, 3) := by decide +kernel
theorem dX12_trim_76 : decode cX12_trim 76 = .ok (.aload_n 0, 1) := by decide +kernel
theorem dX12_trim_77 : decode cX12_trim 77 = .ok (.getfield 75, 3) := by decide +kernel
theorem dX12_trim_80 : decode cX12_trim 80 = .ok (.iload 8, 2) := by decide +kernel
theorem dX12_trim_82 : decode cX12_trim 82 = .ok (.baload, 1) := by decide +kernel
theorem dX12_trim_83 : decode cX12_trim 83 = .ok (.ifCond .eq 201, 3) := by decide +kernel
theorem dX12_trim_86 : decode cX12_trim 86 = .ok (.iload_n 3, 1) := by decide +kernel
theorem dX12_trim_87 : decode cX12_trim 87 = .ok (.ifCond .lt 15, 3) := by decide +kernel
theorem dX12_trim_90 : decode cX12_trim 90 = .ok (.iload 9, 2) := by decide +kernel
theorem dX12_trim_92 : decode cX12_trim 92 = .ok (.invokestatic 201, 3) := by decide +kernel
theorem dX12_trim_95 : decode cX12_trim 95 = .ok (.iload_n 3, 1) := by decide +kernel
theorem dX12_trim_96 : decode cX12_trim 96 = .ok (.if_icmp .lt 6, 3) := by decide +kernel
theorem dX12_trim_99 : decode cX12_trim 99 = .ok (.goto 185, 3) := by decide +kernel
theorem dX12_trim_102 : decode cX12_trim 102 = .ok (.aload_n 0, 1) := by decide +kernel
theorem dX12_trim_103 : decode cX12_trim 103 = .ok (.invokevirtual 292, 3) := by decide +kernel
theorem dX12_trim_106 : decode cX12_trim 106 = .ok (.aload_n 0, 1) := by decide +kernel
theorem dX12_trim_107 : decode cX12_trim 107 = .ok (.iload 8, 2) := by decide +kernel
theorem dX12_trim_109 : decode cX12_trim 109 = .ok (.iload 9, 2) := by decide +kernel
theorem dX12_trim_111 : decode cX12_trim 111 = .ok (.invokevirtual 310, 3) := by decide +kernel
theorem dX12_trim_114 : decode cX12_trim 114 = .ok (.ifCond .lt 166, 3) := by decide +kernel
theorem dX12_trim_117 : decode cX12_trim 117 = .ok (.aload_n 0, 1) := by decide +kernel
theorem dX12_trim_118 : decode cX12_trim 118 = .ok (.iload_n 1, 1) := by decide +kernel
theorem dX12_trim_119 : decode cX12_trim 119 = .ok (.invokevirtual 207, 3) := by decide +kernel
theorem dX12_trim_122 : decode cX12_trim 122 = .ok (.ifCond .eq 20, 3) := by decide +kernel
theorem dX12_trim_125 : decode cX12_trim 125 = .ok (.iload 9, 2) := by decide +kernel
theorem dX12_trim_127 : decode cX12_trim 127 = .ok (.invokestatic 201, 3) := by decide +kernel
theorem dX12_trim_130 : decode cX12_trim 130 = .ok (.istore_n 3, 1) := by decide +kernel
theorem dX12_trim_131 : decode cX12_trim 131 = .ok (.iload 8, 2) := by decide +kernel
theorem dX12_trim_133 : decode cX12_trim 133 = .ok (.istore 4, 2) := by decide +kernel
theorem dX12_trim_135 : decode cX12_trim 135 = .ok (.iload 9, 2) := by decide +kernel
theorem dX12_trim_137 : decode cX12_trim 137 = .ok (.istore 5, 2) := by decide +kernel
theorem dX12_trim_139 : decode cX12_trim 139 = .ok (.iconst (-1), 1) := by decide +kernel
theorem dX12_trim_140 : decode cX12_trim 140 = .ok (.istore 6, 2) := by decide +kernel
theorem dX12_trim_142 : decode cX12_trim 142 = .ok (.iconst 0, 1) := by decide +kernel
theorem dX12_trim_143 : decode cX12_trim 143 = .ok (.istore 10, 2) := by decide +kernel
theorem dX12_trim_145 : decode cX12_trim 145 = .ok (.iload 10, 2) := by decide +kernel
theorem dX12_trim_147 : decode cX12_trim 147 = .ok (.aload_n 0, 1) := by decide +kernel
theorem dX12_trim_148 : decode cX12_trim 148 = .ok (.getfield 304, 3) := by decide +kernel
theorem dX12_trim_151 : decode cX12_trim 151 = .ok (.if_icmp .ge 129, 3) := by decide +kernel
theorem dX12_trim_154 : decode cX12_trim 154 = .ok (.bipush (-99), 2) := by decide +kernel
theorem dX12_trim_156 : decode cX12_trim 156 = .ok (.istore 11, 2) := by decide +kernel
theorem dX12_trim_158 : decode cX12_trim 158 = .ok (.iload 11, 2) := by decide +kernel
theorem dX12_trim_160 : decode cX12_trim 160 = .ok (.bipush 99, 2) := by decide +kernel
theorem dX12_trim_162 : decode cX12_trim 162 = .ok (.if_icmp .gt 112, 3) := by decide +kernel
theorem dX12_trim_165 : decode cX12_trim 165 = .ok (.iload 10, 2) := by decide +kernel
theorem dX12_trim_167 : decode cX12_trim 167 = .ok (.iload 8, 2) := by decide +kernel
theorem dX12_trim_169 : decode cX12_trim 169 = .ok (.if_icmp .eq 99, 3) := by decide +kernel
theorem dX12_trim_172 : decode cX12_trim 172 = .ok (.iload 11, 2) := by decide +kernel
theorem dX12_trim_174 : decode cX12_trim 174 = .ok (.ifCond .eq 94, 3) := by decide +kernel
theorem dX12_trim_177 : decode cX12_trim 177 = .ok (.iload_n 2, 1) := by decide +kernel
theorem dX12_trim_178 : decode cX12_trim 178 = .ok (.ifCond .eq 13, 3) := by decide +kernel
theorem dX12_trim_181 : decode cX12_trim 181 = .ok (.aload_n 0, 1) := by decide +kernel
theorem dX12_trim_182 : decode cX12_trim 182 = .ok (.getfield 75, 3) := by decide +kernel
theorem dX12_trim_185 : decode cX12_trim 185 = .ok (.iload 10, 2) := by decide +kernel
theorem dX12_trim_187 : decode cX12_trim 187 = .ok (.baload, 1) := by decide +kernel
theorem dX12_trim_188 : decode cX12_trim 188 = .ok (.ifCond .eq 80, 3) := by decide +kernel
theorem dX12_trim_191 : decode cX12_trim 191 = .ok (.iload_n 3, 1) := by decide +kernel
theorem dX12_trim_192 : decode cX12_trim 192 = .ok (.ifCond .lt 21, 3) := by decide +kernel
theorem dX12_trim_195 : decode cX12_trim 195 = .ok (.iload 9, 2) := by decide +kernel
theorem dX12_trim_197 : decode cX12_trim 197 = .ok (.invokestatic 201, 3) := by decide +kernel
theorem dX12_trim_200 : decode cX12_trim 200 = .ok (.iload 11, 2) := by decide +kernel
theorem dX12_trim_202 : decode cX12_trim 202 = .ok (.invokestatic 201, 3) := by decide +kernel
theorem dX12_trim_205 : decode cX12_trim 205 = .ok (.iadd, 1) := by decide +kernel
theorem dX12_trim_206 : decode cX12_trim 206 = .ok (.iload_n 3, 1) := by decide +kernel
theorem dX12_trim_207 : decode cX12_trim 207 = .ok (.if_icmp .lt 6, 3) := by decide +kernel
theorem dX12_trim_210 : decode cX12_trim 210 = .ok (.goto 58, 3) := by decide +kernel
theorem dX12_trim_213 : decode cX12_trim 213 = .ok (.aload_n 0, 1) := by decide +kernel
theorem dX12_trim_214 : decode cX12_trim 214 = .ok (.invokevirtual 292, 3) := by decide +kernel
theorem dX12_trim_217 : decode cX12_trim 217 = .ok (.aload_n 0, 1) := by decide +kernel
theorem dX12_trim_218 : decode cX12_trim 218 = .ok (.iload 10, 2) := by decide +kernel
theorem dX12_trim_220 : decode cX12_trim 220 = .ok (.iload 11, 2) := by decide +kernel
theorem dX12_trim_222 : decode cX12_trim 222 = .ok (.invokevirtual 310, 3) := by decide +kernel
theorem dX12_trim_225 : decode cX12_trim 225 = .ok (.ifCond .lt 39, 3) := by decide +kernel
theorem dX12_trim_228 : decode cX12_trim 228 = .ok (.aload_n 0, 1) := by decide +kernel
theorem dX12_trim_229 : decode cX12_trim 229 = .ok (.iload_n 1, 1) := by decide +kernel
theorem dX12_trim_230 : decode cX12_trim 230 = .ok (.invokevirtual 207, 3) := by decide +kernel
theorem dX12_trim_233 : decode cX12_trim 233 = .ok (.ifCond .eq 31, 3) := by decide +kernel
theorem dX12_trim_236 : decode cX12_trim 236 = .ok (.iload 9, 2) := by decide +kernel
theorem dX12_trim_238 : decode cX12_trim 238 = .ok (.invokestatic 201, 3) := by decide +kernel
theorem dX12_trim_241 : decode cX12_trim 241 = .ok (.iload 11, 2) := by decide +kernel
theorem dX12_trim_243 : decode cX12_trim 243 = .ok (.invokestatic 201, 3) := by decide +kernel
theorem dX12_trim_246 : decode cX12_trim 246 = .ok (.iadd, 1) := by decide +kernel
theorem dX12_trim_247 : decode cX12_trim 247 = .ok (.istore_n 3, 1) := by decide +kernel
theorem dX12_trim_248 : decode cX12_trim 248 = .ok (.iload 8, 2) := by decide +kernel
theorem dX12_trim_250 : decode cX12_trim 250 = .ok (.istore 4, 2) := by decide +kernel
theorem dX12_trim_252 : decode cX12_trim 252 = .ok (.iload 9, 2) := by decide +kernel
theorem dX12_trim_254 : decode cX12_trim 254 = .ok (.istore 5, 2) := by decide +kernel
theorem dX12_trim_256 : decode cX12_trim 256 = .ok (.iload 10, 2) := by decide +kernel
theorem dX12_trim_258 : decode cX12_trim 258 = .ok (.istore 6, 2) := by decide +kernel
theorem dX12_trim_260 : decode cX12_trim 260 = .ok (.iload 11, 2) := by decide +kernel
theorem dX12_trim_262 : decode cX12_trim 262 = .ok (.istore 7, 2) := by decide +kernel
theorem dX12_trim_264 : decode cX12_trim 264 = .ok (.aload_n 0, 1) := by decide +kernel
theorem dX12_trim_265 : decode cX12_trim 265 = .ok (.invokevirtual 298, 3) := by decide +kernel
theorem dX12_trim_268 : decode cX12_trim 268 = .ok (.iinc 11 1, 3) := by decide +kernel
theorem dX12_trim_271 : decode cX12_trim 271 = .ok (.goto (-113), 3) := by decide +kernel
theorem dX12_trim_274 : decode cX12_trim 274 = .ok (.iinc 10 1, 3) := by decide +kernel
theorem dX12_trim_277 : decode cX12_trim 277 = .ok (.goto (-132), 3) := by decide +kernel
theorem dX12_trim_280 : decode cX12_trim 280 = .ok (.aload_n 0, 1) := by decide +kernel
theorem dX12_trim_281 : decode cX12_trim 281 = .ok (.invokevirtual 298, 3) := by decide +kernel
theorem dX12_trim_284 : decode cX12_trim 284 = .ok (.iinc 9 1, 3) := by decide +kernel
theorem dX12_trim_287 : decode cX12_trim 287 = .ok (.goto (-227), 3) := by decide +kernel
theorem dX12_trim_290 : decode cX12_trim 290 = .ok (.iinc 8 1, 3) := by decide +kernel
theorem dX12_trim_293 : decode cX12_trim 293 = .ok (.goto (-246), 3) := by decide +kernel
theorem dX12_trim_296 : decode cX12_trim 296 = .ok (.iload_n 3, 1) := by decide +kernel
theorem dX12_trim_297 : decode cX12_trim 297 = .ok (.ifCond .ge 6, 3) := by decide +kernel
theorem dX12_trim_300 : decode cX12_trim 300 = .ok (.bipush (-2), 2) := by decide +kernel
theorem dX12_trim_302 : decode cX12_trim 302 = .ok (.ireturn, 1) := by decide +kernel
theorem dX12_trim_303 : decode cX12_trim 303 = .ok (.aload_n 0, 1) := by decide +kernel
theorem dX12_trim_304 : decode cX12_trim 304 = .ok (.iconst 0, 1) := by decide +kernel
theorem dX12_trim_305 : decode cX12_trim 305 = .ok (.putfield 136, 3) := by decide +kernel
theorem dX12_trim_308 : decode cX12_trim 308 = .ok (.aload_n 0, 1) := by decide +kernel
theorem dX12_trim_309 : decode cX12_trim 309 = .ok (.iload 4, 2) := by decide +kernel
theorem dX12_trim_311 : decode cX12_trim 311 = .ok (.invokevirtual 210, 3) := by decide +kernel
theorem dX12_trim_314 : decode cX12_trim 314 = .ok (.aload_n 0, 1) := by decide +kernel
theorem dX12_trim_315 : decode cX12_trim 315 = .ok (.iload 5, 2) := by decide +kernel
theorem dX12_trim_317 : decode cX12_trim 317 = .ok (.invokevirtual 210, 3) := by decide +kernel
theorem dX12_trim_320 : decode cX12_trim 320 = .ok (.iload 6, 2) := by decide +kernel
theorem dX12_trim_322 : decode cX12_trim 322 = .ok (.iconst (-1), 1) := by decide +kernel
theorem dX12_trim_323 : decode cX12_trim 323 = .ok (.if_icmp .eq 15, 3) := by decide +kernel
theorem dX12_trim_326 : decode cX12_trim 326 = .ok (.aload_n 0, 1) := by decide +kernel
theorem dX12_trim_327 : decode cX12_trim 327 = .ok (.iload 6, 2) := by decide +kernel
theorem dX12_trim_329 : decode cX12_trim 329 = .ok (.invokevirtual 210, 3) := by decide +kernel
theorem dX12_trim_332 : decode cX12_trim 332 = .ok (.aload_n 0, 1) := by decide +kernel
theorem dX12_trim_333 : decode cX12_trim 333 = .ok (.iload 7, 2) := by decide +kernel
theorem dX12_trim_335 : decode cX12_trim 335 = .ok (.invokevirtual 210, 3) := by decide +kernel
theorem dX12_trim_338 : decode cX12_trim 338 = .ok (.iload_n 3, 1) := by decide +kernel
theorem dX12_trim_339 : decode cX12_trim 339 = .ok (.ireturn, 1) := by decide +kernel
theorem dX12_orderTanks_0 : decode cX12_orderTanks 0 = .ok (.aload_n 0, 1) := by decide +kernel
theorem dX12_orderTanks_1 : decode cX12_orderTanks 1 = .ok (.iconst 0, 1) := by decide +kernel
theorem dX12_orderTanks_2 : decode cX12_orderTanks 2 = .ok (.putfield 313, 3) := by decide +kernel
theorem dX12_orderTanks_5 : decode cX12_orderTanks 5 = .ok (.iconst 0, 1) := by decide +kernel
theorem dX12_orderTanks_6 : decode cX12_orderTanks 6 = .ok (.istore_n 1, 1) := by decide +kernel
theorem dX12_orderTanks_7 : decode cX12_orderTanks 7 = .ok (.iload_n 1, 1) := by decide +kernel
theorem dX12_orderTanks_8 : decode cX12_orderTanks 8 = .ok (.aload_n 0, 1) := by decide +kernel
theorem dX12_orderTanks_9 : decode cX12_orderTanks 9 = .ok (.getfield 139, 3) := by decide +kernel
theorem dX12_orderTanks_12 : decode cX12_orderTanks 12 = .ok (.if_icmp .ge 89, 3) := by decide +kernel
theorem dX12_orderTanks_15 : decode cX12_orderTanks 15 = .ok (.aload_n 0, 1) := by decide +kernel
theorem dX12_orderTanks_16 : decode cX12_orderTanks 16 = .ok (.getfield 9, 3) := by decide +kernel
theorem dX12_orderTanks_19 : decode cX12_orderTanks 19 = .ok (.iload_n 1, 1) := by decide +kernel
theorem dX12_orderTanks_20 : decode cX12_orderTanks 20 = .ok (.iaload, 1) := by decide +kernel
theorem dX12_orderTanks_21 : decode cX12_orderTanks 21 = .ok (.ifCond .eq 6, 3) := by decide +kernel
theorem dX12_orderTanks_24 : decode cX12_orderTanks 24 = .ok (.goto 71, 3) := by decide +kernel
theorem dX12_orderTanks_27 : decode cX12_orderTanks 27 = .ok (.aload_n 0, 1) := by decide +kernel
theorem dX12_orderTanks_28 : decode cX12_orderTanks 28 = .ok (.getfield 313, 3) := by decide +kernel
theorem dX12_orderTanks_31 : decode cX12_orderTanks 31 = .ok (.istore_n 2, 1) := by decide +kernel
theorem dX12_orderTanks_32 : decode cX12_orderTanks 32 = .ok (.iload_n 2, 1) := by decide +kernel
theorem dX12_orderTanks_33 : decode cX12_orderTanks 33 = .ok (.ifCond .le 45, 3) := by decide +kernel
theorem dX12_orderTanks_36 : decode cX12_orderTanks 36 = .ok (.aload_n 0, 1) := by decide +kernel
theorem dX12_orderTanks_37 : decode cX12_orderTanks 37 = .ok (.getfield 13, 3) := by decide +kernel
theorem dX12_orderTanks_40 : decode cX12_orderTanks 40 = .ok (.aload_n 0, 1) := by decide +kernel
theorem dX12_orderTanks_41 : decode cX12_orderTanks 41 = .ok (.getfield 79, 3) := by decide +kernel
theorem dX12_orderTanks_44 : decode cX12_orderTanks 44 = .ok (.iload_n 2, 1) := by decide +kernel
theorem dX12_orderTanks_45 : decode cX12_orderTanks 45 = .ok (.iconst 1, 1) := by decide +kernel
theorem dX12_orderTanks_46 : decode cX12_orderTanks 46 = .ok (.isub, 1) := by decide +kernel
theorem dX12_orderTanks_47 : decode cX12_orderTanks 47 = .ok (.iaload, 1) := by decide +kernel
theorem dX12_orderTanks_48 : decode cX12_orderTanks 48 = .ok (.iaload, 1) := by decide +kernel
theorem dX12_orderTanks_49 : decode cX12_orderTanks 49 = .ok (.aload_n 0, 1) := by decide +kernel
theorem dX12_orderTanks_50 : decode cX12_orderTanks 50 = .ok (.getfield 13, 3) := by decide +kernel
theorem dX12_orderTanks_53 : decode cX12_orderTanks 53 = .ok (.iload_n 1, 1) := by decide +kernel
theorem dX12_orderTanks_54 : decode cX12_orderTanks 54 = .ok (.iaload, 1) := by decide +kernel
theorem dX12_orderTanks_55 : decode cX12_orderTanks 55 = .ok (.if_icmp .le 23, 3) := by decide +kernel
theorem dX12_orderTanks_58 : decode cX12_orderTanks 58 = .ok (.aload_n 0, 1) := by decide +kernel
theorem dX12_orderTanks_59 : decode cX12_orderTanks 59 = .ok (.getfield 79, 3) := by decide +kernel
theorem dX12_orderTanks_62 : decode cX12_orderTanks 62 = .ok (.iload_n 2, 1) := by decide +kernel
theorem dX12_orderTanks_63 : decode cX12_orderTanks 63 = .ok (.aload_n 0, 1) := by decide +kernel
theorem dX12_orderTanks_64 : decode cX12_orderTanks 64 = .ok (.getfield 79, 3) := by decide +kernel
theorem dX12_orderTanks_67 : decode cX12_orderTanks 67 = .ok (.iload_n 2, 1) := by decide +kernel
theorem dX12_orderTanks_68 : decode cX12_orderTanks 68 = .ok (.iconst 1, 1) := by decide +kernel
theorem dX12_orderTanks_69 : decode cX12_orderTanks 69 = .ok (.isub, 1) := by decide +kernel
theorem dX12_orderTanks_70 : decode cX12_orderTanks 70 = .ok (.iaload, 1) := by decide +kernel
theorem dX12_orderTanks_71 : decode cX12_orderTanks 71 = .ok (.iastore, 1) := by decide +kernel
theorem dX12_orderTanks_72 : decode cX12_orderTanks 72 = .ok (.iinc 2 (-1), 3) := by decide +kernel
theorem dX12_orderTanks_75 : decode cX12_orderTanks 75 = .ok (.goto (-43), 3) := by decide +kernel
theorem dX12_orderTanks_78 : decode cX12_orderTanks 78 = .ok (.aload_n 0, 1) := by decide +kernel
theorem dX12_orderTanks_79 : decode cX12_orderTanks 79 = .ok (.getfield 79, 3) := by decide +kernel
theorem dX12_orderTanks_82 : decode cX12_orderTanks 82 = .ok (.iload_n 2, 1) := by decide +kernel
theorem dX12_orderTanks_83 : decode cX12_orderTanks 83 = .ok (.iload_n 1, 1) := by decide +kernel
theorem dX12_orderTanks_84 : decode cX12_orderTanks 84 = .ok (.iastore, 1) := by decide +kernel
theorem dX12_orderTanks_85 : decode cX12_orderTanks 85 = .ok (.aload_n 0, 1) := by decide +kernel
theorem dX12_orderTanks_86 : decode cX12_orderTanks 86 = .ok (.dup, 1) := by decide +kernel
theorem dX12_orderTanks_87 : decode cX12_orderTanks 87 = .ok (.getfield 313, 3) := by decide +kernel
theorem dX12_orderTanks_90 : decode cX12_orderTanks 90 = .ok (.iconst 1, 1) := by decide +kernel
theorem dX12_orderTanks_91 : decode cX12_orderTanks 91 = .ok (.iadd, 1) := by decide +kernel
theorem dX12_orderTanks_92 : decode cX12_orderTanks 92 = .ok (.putfield 313, 3) := by decide +kernel
theorem dX12_orderTanks_95 : decode cX12_orderTanks 95 = .ok (.iinc 1 1, 3) := by decide +kernel
theorem dX12_orderTanks_98 : decode cX12_orderTanks 98 = .ok (.goto (-91), 3) := by decide +kernel
theorem dX12_orderTanks_101 : decode cX12_orderTanks 101 = .ok (.return_, 1) := by decide +kernel
theorem dX12_momentWith_0 : decode cX12_momentWith 0 = .ok (.iload_n 1, 1) := by decide +kernel
theorem dX12_momentWith_1 : decode cX12_momentWith 1 = .ok (.istore_n 3, 1) := by decide +kernel
theorem dX12_momentWith_2 : decode cX12_momentWith 2 = .ok (.iconst 0, 1) := by decide +kernel
theorem dX12_momentWith_3 : decode cX12_momentWith 3 = .ok (.istore 4, 2) := by decide +kernel
theorem dX12_momentWith_5 : decode cX12_momentWith 5 = .ok (.iconst 0, 1) := by decide +kernel
theorem dX12_momentWith_6 : decode cX12_momentWith 6 = .ok (.istore 5, 2) := by decide +kernel
theorem dX12_momentWith_8 : decode cX12_momentWith 8 = .ok (.iload 5, 2) := by decide +kernel
theorem dX12_momentWith_10 : decode cX12_momentWith 10 = .ok (.aload_n 0, 1) := by decide +kernel
theorem dX12_momentWith_11 : decode cX12_momentWith 11 = .ok (.getfield 313, 3) := by decide +kernel
theorem dX12_momentWith_14 : decode cX12_momentWith 14 = .ok (.if_icmp .ge 67, 3) := by decide +kernel
theorem dX12_momentWith_17 : decode cX12_momentWith 17 = .ok (.aload_n 0, 1) := by decide +kernel
theorem dX12_momentWith_18 : decode cX12_momentWith 18 = .ok (.getfield 79, 3) := by decide +kernel
theorem dX12_momentWith_21 : decode cX12_momentWith 21 = .ok (.iload_n 2, 1) := by decide +kernel
theorem dX12_momentWith_22 : decode cX12_momentWith 22 = .ok (.ifCond .eq 8, 3) := by decide +kernel
theorem dX12_momentWith_25 : decode cX12_momentWith 25 = .ok (.iload 5, 2) := by decide +kernel
theorem dX12_momentWith_27 : decode cX12_momentWith 27 = .ok (.goto 12, 3) := by decide +kernel
theorem dX12_momentWith_30 : decode cX12_momentWith 30 = .ok (.aload_n 0, 1) := by decide +kernel
theorem dX12_momentWith_31 : decode cX12_momentWith 31 = .ok (.getfield 313, 3) := by decide +kernel
theorem dX12_momentWith_34 : decode cX12_momentWith 34 = .ok (.iconst 1, 1) := by decide +kernel
theorem dX12_momentWith_35 : decode cX12_momentWith 35 = .ok (.isub, 1) := by decide +kernel
theorem dX12_momentWith_36 : decode cX12_momentWith 36 = .ok (.iload 5, 2) := by decide +kernel
theorem dX12_momentWith_38 : decode cX12_momentWith 38 = .ok (.isub, 1) := by decide +kernel
theorem dX12_momentWith_39 : decode cX12_momentWith 39 = .ok (.iaload, 1) := by decide +kernel
theorem dX12_momentWith_40 : decode cX12_momentWith 40 = .ok (.istore 6, 2) := by decide +kernel
theorem dX12_momentWith_42 : decode cX12_momentWith 42 = .ok (.iload_n 3, 1) := by decide +kernel
theorem dX12_momentWith_43 : decode cX12_momentWith 43 = .ok (.aload_n 0, 1) := by decide +kernel
theorem dX12_momentWith_44 : decode cX12_momentWith 44 = .ok (.getfield 19, 3) := by decide +kernel
theorem dX12_momentWith_47 : decode cX12_momentWith 47 = .ok (.iload 6, 2) := by decide +kernel
theorem dX12_momentWith_49 : decode cX12_momentWith 49 = .ok (.iaload, 1) := by decide +kernel
theorem dX12_momentWith_50 : decode cX12_momentWith 50 = .ok (.invokestatic 153, 3) := by decide +kernel
theorem dX12_momentWith_53 : decode cX12_momentWith 53 = .ok (.istore 7, 2) := by decide +kernel
theorem dX12_momentWith_55 : decode cX12_momentWith 55 = .ok (.iload 4, 2) := by decide +kernel
theorem dX12_momentWith_57 : decode cX12_momentWith 57 = .ok (.aload_n 0, 1) := by decide +kernel
theorem dX12_momentWith_58 : decode cX12_momentWith 58 = .ok (.getfield 13, 3) := by decide +kernel
theorem dX12_momentWith_61 : decode cX12_momentWith 61 = .ok (.iload 6, 2) := by decide +kernel
theorem dX12_momentWith_63 : decode cX12_momentWith 63 = .ok (.iaload, 1) := by decide +kernel
theorem dX12_momentWith_64 : decode cX12_momentWith 64 = .ok (.iload 7, 2) := by decide +kernel
theorem dX12_momentWith_66 : decode cX12_momentWith 66 = .ok (.imul, 1) := by decide +kernel
theorem dX12_momentWith_67 : decode cX12_momentWith 67 = .ok (.iadd, 1) := by decide +kernel
theorem dX12_momentWith_68 : decode cX12_momentWith 68 = .ok (.istore 4, 2) := by decide +kernel
theorem dX12_momentWith_70 : decode cX12_momentWith 70 = .ok (.iload_n 3, 1) := by decide +kernel
theorem dX12_momentWith_71 : decode cX12_momentWith 71 = .ok (.iload 7, 2) := by decide +kernel
theorem dX12_momentWith_73 : decode cX12_momentWith 73 = .ok (.isub, 1) := by decide +kernel
theorem dX12_momentWith_74 : decode cX12_momentWith 74 = .ok (.istore_n 3, 1) := by decide +kernel
theorem dX12_momentWith_75 : decode cX12_momentWith 75 = .ok (.iinc 5 1, 3) := by decide +kernel
theorem dX12_momentWith_78 : decode cX12_momentWith 78 = .ok (.goto (-70), 3) := by decide +kernel
theorem dX12_momentWith_81 : decode cX12_momentWith 81 = .ok (.iload 4, 2) := by decide +kernel
theorem dX12_momentWith_83 : decode cX12_momentWith 83 = .ok (.ireturn, 1) := by decide +kernel
noncomputable def fX12_product_6 (g_thing : Int32 → HS → Option (Int32 × HS)) : Nat → Int32 → Int32 → HS → Option (Int32 × HS)
  | 0, _, _, _ => none
  | n + 1, v1, v2, h => bd (fX12_passes (42 : Int32) h) (fun r4 h3 => if r4 = 0 then (some (v2, h3)) else (bd (g_thing v1 h3) (fun r7 h6 => nm ((v2 * r7)) (fun v2_8 => fX12_product_6 g_thing n v1 v2_8 h6))))
set_option maxRecDepth 100000 in
theorem jX12_product_6 {r : Int32} {h0 : HS} {g_thing : Int32 → HS → Option (Int32 × HS)} {dd : Nat} (hdb : 2 ≤ dd) {d_thing : Nat} (hd_thing : d_thing + 1 ≤ dd) (hg_thing : ∀ (p1 : Int32) (h : HS) (r : Int32) (h1 : HS), g_thing p1 h = some (r, h1) → Cn skM yX12_thing cX12_thing 4 (some .int) d_thing [.ref 0, .int p1] h (some (.int r)) h1) : ∀ (n : Nat) (v1 : Int32) (v2 : Int32) (h : HS), fX12_product_6 g_thing n v1 v2 h = some (r, h0) → Jx skM RX12 cX12_product 3 (some .int) dd (some (.int r)) h0 6 [some (.ref 0), some (.int v1), some (.int v2)] [] h := by
  intro n
  induction n with
  | zero => intro v1 v2  h H; cases H
  | succ n ih =>
    intro v1 v2  h H
    rw [fX12_product_6] at H
    refine j_aload_n (pc := 6) dX12_product_6 rfl ?_
    refine j_bipush (pc := 7) (v := 42) dX12_product_7 (by decide) ?_
    obtain ⟨r4, h3, eh3, H⟩ := bd_x H
    refine j_callV (pc := 9) dX12_product_9 mlX12_239 wyX12_passes (tX12_passes eh3) (Nat.le_trans (by decide) hdb) rfl rfl rfl rfl (by simp [Value.category]) rfl ?_
    refine j_if_eq (pc := 12) (tgt := 26) dX12_product_12 (by decide) (fun c5 => ?_) (fun c5 => ?_)
    · rw [if_pos c5] at H
      refine j_iload_n (pc := 26) dX12_product_26 rfl ?_
      exact j_ireturn (pc := 27) dX12_product_27 rfl (ri_1 H) (ri_2 H)
    · rw [if_neg c5] at H
      refine j_iload_n (pc := 15) dX12_product_15 rfl ?_
      refine j_aload_n (pc := 16) dX12_product_16 rfl ?_
      refine j_iload_n (pc := 17) dX12_product_17 rfl ?_
      obtain ⟨r7, h6, eh6, H⟩ := bd_x H
      refine j_callV (pc := 18) dX12_product_18 mlX12_249 wyX12_thing (hg_thing _ _ _ _ eh6) hd_thing rfl rfl rfl rfl (by simp [Value.category]) rfl ?_
      refine j_imul (pc := 21) dX12_product_21 ?_
      obtain ⟨v2_8, ev2_8, H⟩ := nm_x H
      refine j_topi ev2_8 ?_
      refine j_istore_n (pc := 22) (L' := [some (.ref 0), some (.int v1), some (.int v2_8)]) dX12_product_22 (by decide) rfl ?_
      refine j_goto (pc := 23) (tgt := 6) dX12_product_23 (by decide) ?_
      refine Jx.sub (L' := [some (.ref 0), some (.int v1), some (.int v2_8)]) (⟨rfl, ⟨rfl, ⟨rfl, trivial⟩⟩⟩) ?_
      exact ih v1 v2_8 h6 H
noncomputable def fX12_product (g_thing : Int32 → HS → Option (Int32 × HS)) (p1 : Int32) (h : HS) : Option (Int32 × HS) := bd (g_thing p1 h) (fun r2 h1 => fX12_product_6 g_thing FU p1 r2 h1)
set_option maxRecDepth 100000 in
theorem tX12_product {p1 : Int32} {r : Int32} {h h0 : HS} {g_thing : Int32 → HS → Option (Int32 × HS)} {dd : Nat} (hdb : 2 ≤ dd) {d_thing : Nat} (hd_thing : d_thing + 1 ≤ dd) (hg_thing : ∀ (p1 : Int32) (h : HS) (r : Int32) (h1 : HS), g_thing p1 h = some (r, h1) → Cn skM yX12_thing cX12_thing 4 (some .int) d_thing [.ref 0, .int p1] h (some (.int r)) h1) (H : fX12_product g_thing p1 h = some (r, h0)) : Cn skM yX12_product cX12_product 3 (some .int) dd [.ref 0, .int p1] h (some (.int r)) h0 := by
  refine Cn_of (L := [some (.ref 0), some (.int p1), none]) (by decide +kernel) (by simp [lg_sl, Value.category]) (fun ad => by simp [lg_sl, tv, Value.category]) (⟨rfl, ⟨rfl, trivial⟩⟩) ?_
  unfold fX12_product at H
  refine j_aload_n (pc := 0) dX12_product_0 rfl ?_
  refine j_iload_n (pc := 1) dX12_product_1 rfl ?_
  obtain ⟨r2, h1, eh1, H⟩ := bd_x H
  refine j_callV (pc := 2) dX12_product_2 mlX12_249 wyX12_thing (hg_thing _ _ _ _ eh1) hd_thing rfl rfl rfl rfl (by simp [Value.category]) rfl ?_
  refine j_istore_n (pc := 5) (L' := [some (.ref 0), some (.int p1), some (.int r2)]) dX12_product_5 (by decide) rfl ?_
  refine Jx.sub (L' := [some (.ref 0), some (.int p1), some (.int r2)]) (⟨rfl, ⟨rfl, ⟨rfl, trivial⟩⟩⟩) ?_
  exact jX12_product_6 hdb hd_thing hg_thing FU p1 r2 h1 H

noncomputable def fX12_sum_45 (g_product : Int32 → HS → Option (Int32 × HS)) (k6 : Int32 → Int32 → HS → Option (Int32 × HS)) (v1 : Int32) (v2 : Int32) (s0 : Int32) (h : HS) : Option (Int32 × HS) := nm (pI h 0 29 ((gI h 0 29) + (1 : Int32))) (fun h15 => bd (g_product v1 h15) (fun r17 h16 => if s0 = 0 then (nm ((v2 - r17)) (fun v2_19 => k6 v1 v2_19 h16)) else (nm ((v2 + r17)) (fun v2_20 => k6 v1 v2_20 h16))))
set_option maxRecDepth 100000 in
theorem jX12_sum_45 {r : Int32} {h0 : HS} {g_product : Int32 → HS → Option (Int32 × HS)} {dd : Nat} (hdb : 1 ≤ dd) {d_product : Nat} (hd_product : d_product + 1 ≤ dd) (hg_product : ∀ (p1 : Int32) (h : HS) (r : Int32) (h1 : HS), g_product p1 h = some (r, h1) → Cn skM yX12_product cX12_product 3 (some .int) d_product [.ref 0, .int p1] h (some (.int r)) h1) (k6 : Int32 → Int32 → HS → Option (Int32 × HS)) (hk6 : ∀ (v1 : Int32) (v2 : Int32) (h : HS), k6 v1 v2 h = some (r, h0) → Jx skM RX12 cX12_sum 5 (some .int) dd (some (.int r)) h0 6 [some (.ref 0), some (.int v1), some (.int v2), none, none] [] h) (v1 : Int32) (v2 : Int32) (s0 : Int32) (h : HS) (H : fX12_sum_45 g_product k6 v1 v2 s0 h = some (r, h0)) : Jx skM RX12 cX12_sum 5 (some .int) dd (some (.int r)) h0 45 [some (.ref 0), some (.int v1), some (.int v2), none, none] [.int s0] h := by
  unfold fX12_sum_45 at H
  refine j_istore_n (pc := 45) (L' := [some (.ref 0), some (.int v1), some (.int v2), some (.int s0), none]) dX12_sum_45 (by decide) rfl ?_
  refine j_aload_n (pc := 46) dX12_sum_46 rfl ?_
  refine j_dup (pc := 47) dX12_sum_47 rfl ?_
  refine j_getI (pc := 48) dX12_sum_48 flX12_217 rfl ?_
  refine j_iconst (pc := 51) (v := 1) dX12_sum_51 (by decide) ?_
  refine j_iadd (pc := 52) dX12_sum_52 ?_
  obtain ⟨h15, eh15, H⟩ := nm_x H
  refine j_putI (pc := 53) dX12_sum_53 fpX12_217 rfl h15 eh15 ?_
  refine j_aload_n (pc := 56) dX12_sum_56 rfl ?_
  refine j_iload_n (pc := 57) dX12_sum_57 rfl ?_
  obtain ⟨r17, h16, eh16, H⟩ := bd_x H
  refine j_callV (pc := 58) dX12_sum_58 mlX12_246 wyX12_product (hg_product _ _ _ _ eh16) hd_product rfl rfl rfl rfl (by simp [Value.category]) rfl ?_
  refine j_istore (pc := 61) (L' := [some (.ref 0), some (.int v1), some (.int v2), some (.int s0), some (.int r17)]) dX12_sum_61 (by decide) rfl ?_
  refine j_iload_n (pc := 63) dX12_sum_63 rfl ?_
  refine j_if_eq (pc := 64) (tgt := 74) dX12_sum_64 (by decide) (fun c18 => ?_) (fun c18 => ?_)
  · rw [if_pos c18] at H
    refine j_iload_n (pc := 74) dX12_sum_74 rfl ?_
    refine j_iload (pc := 75) dX12_sum_75 rfl ?_
    refine j_isub (pc := 77) dX12_sum_77 ?_
    obtain ⟨v2_19, ev2_19, H⟩ := nm_x H
    refine j_topi ev2_19 ?_
    refine j_istore_n (pc := 78) (L' := [some (.ref 0), some (.int v1), some (.int v2_19), some (.int s0), some (.int r17)]) dX12_sum_78 (by decide) rfl ?_
    refine j_goto (pc := 79) (tgt := 6) dX12_sum_79 (by decide) ?_
    refine Jx.sub (L' := [some (.ref 0), some (.int v1), some (.int v2_19), none, none]) (⟨rfl, ⟨rfl, ⟨rfl, trivial⟩⟩⟩) ?_
    exact hk6 v1 v2_19 h16 H
  · rw [if_neg c18] at H
    refine j_iload_n (pc := 67) dX12_sum_67 rfl ?_
    refine j_iload (pc := 68) dX12_sum_68 rfl ?_
    refine j_iadd (pc := 70) dX12_sum_70 ?_
    refine j_goto (pc := 71) (tgt := 78) dX12_sum_71 (by decide) ?_
    obtain ⟨v2_20, ev2_20, H⟩ := nm_x H
    refine j_topi ev2_20 ?_
    refine j_istore_n (pc := 78) (L' := [some (.ref 0), some (.int v1), some (.int v2_20), some (.int s0), some (.int r17)]) dX12_sum_78 (by decide) rfl ?_
    refine j_goto (pc := 79) (tgt := 6) dX12_sum_79 (by decide) ?_
    refine Jx.sub (L' := [some (.ref 0), some (.int v1), some (.int v2_20), none, none]) (⟨rfl, ⟨rfl, ⟨rfl, trivial⟩⟩⟩) ?_
    exact hk6 v1 v2_20 h16 H
noncomputable def fX12_sum_31 (g_product : Int32 → HS → Option (Int32 × HS)) (k6 : Int32 → Int32 → HS → Option (Int32 × HS)) (v1 : Int32) (v2 : Int32) (h : HS) : Option (Int32 × HS) := bd (fX12_here h) (fun r13 h12 => if r13 = (43 : Int32) then (fX12_sum_45 g_product k6 v1 v2 (1 : Int32) h12) else (fX12_sum_45 g_product k6 v1 v2 (0 : Int32) h12))
set_option maxRecDepth 100000 in
theorem jX12_sum_31 {r : Int32} {h0 : HS} {g_product : Int32 → HS → Option (Int32 × HS)} {dd : Nat} (hdb : 1 ≤ dd) {d_product : Nat} (hd_product : d_product + 1 ≤ dd) (hg_product : ∀ (p1 : Int32) (h : HS) (r : Int32) (h1 : HS), g_product p1 h = some (r, h1) → Cn skM yX12_product cX12_product 3 (some .int) d_product [.ref 0, .int p1] h (some (.int r)) h1) (k6 : Int32 → Int32 → HS → Option (Int32 × HS)) (hk6 : ∀ (v1 : Int32) (v2 : Int32) (h : HS), k6 v1 v2 h = some (r, h0) → Jx skM RX12 cX12_sum 5 (some .int) dd (some (.int r)) h0 6 [some (.ref 0), some (.int v1), some (.int v2), none, none] [] h) (v1 : Int32) (v2 : Int32) (h : HS) (H : fX12_sum_31 g_product k6 v1 v2 h = some (r, h0)) : Jx skM RX12 cX12_sum 5 (some .int) dd (some (.int r)) h0 31 [some (.ref 0), some (.int v1), some (.int v2), none, none] [] h := by
  unfold fX12_sum_31 at H
  refine j_aload_n (pc := 31) dX12_sum_31 rfl ?_
  obtain ⟨r13, h12, eh12, H⟩ := bd_x H
  refine j_callV (pc := 32) dX12_sum_32 mlX12_236 wyX12_here (tX12_here eh12) (Nat.le_trans (by decide) hdb) rfl rfl rfl rfl (by simp [Value.category]) rfl ?_
  refine j_bipush (pc := 35) (v := 43) dX12_sum_35 (by decide) ?_
  refine j_icmp_ne (pc := 37) (tgt := 44) dX12_sum_37 (by decide) (fun c14 => ?_) (fun c14 => ?_)
  · rw [if_neg c14] at H
    refine j_iconst (pc := 44) (v := 0) dX12_sum_44 (by decide) ?_
    refine Jx.sub (L' := [some (.ref 0), some (.int v1), some (.int v2), none, none]) (⟨rfl, ⟨rfl, ⟨rfl, trivial⟩⟩⟩) ?_
    exact jX12_sum_45 hdb hd_product hg_product _ hk6 v1 v2 (0 : Int32) h12 H
  · rw [if_pos c14] at H
    refine j_iconst (pc := 40) (v := 1) dX12_sum_40 (by decide) ?_
    refine j_goto (pc := 41) (tgt := 45) dX12_sum_41 (by decide) ?_
    refine Jx.sub (L' := [some (.ref 0), some (.int v1), some (.int v2), none, none]) (⟨rfl, ⟨rfl, ⟨rfl, trivial⟩⟩⟩) ?_
    exact jX12_sum_45 hdb hd_product hg_product _ hk6 v1 v2 (1 : Int32) h12 H
noncomputable def fX12_sum_6 (g_product : Int32 → HS → Option (Int32 × HS)) : Nat → Int32 → Int32 → HS → Option (Int32 × HS)
  | 0, _, _, _ => none
  | n + 1, v1, v2, h => bd (fX12_fine h) (fun r4 h3 => if r4 = 0 then (some (v2, h3)) else (bd (fX12_here h3) (fun r7 h6 => if r7 = (43 : Int32) then (fX12_sum_31 g_product (fX12_sum_6 g_product n) v1 v2 h6) else (bd (fX12_here h6) (fun r10 h9 => if r10 = (45 : Int32) then (fX12_sum_31 g_product (fX12_sum_6 g_product n) v1 v2 h9) else (some (v2, h9)))))))
set_option maxRecDepth 100000 in
theorem jX12_sum_6 {r : Int32} {h0 : HS} {g_product : Int32 → HS → Option (Int32 × HS)} {dd : Nat} (hdb : 1 ≤ dd) {d_product : Nat} (hd_product : d_product + 1 ≤ dd) (hg_product : ∀ (p1 : Int32) (h : HS) (r : Int32) (h1 : HS), g_product p1 h = some (r, h1) → Cn skM yX12_product cX12_product 3 (some .int) d_product [.ref 0, .int p1] h (some (.int r)) h1) : ∀ (n : Nat) (v1 : Int32) (v2 : Int32) (h : HS), fX12_sum_6 g_product n v1 v2 h = some (r, h0) → Jx skM RX12 cX12_sum 5 (some .int) dd (some (.int r)) h0 6 [some (.ref 0), some (.int v1), some (.int v2), none, none] [] h := by
  intro n
  induction n with
  | zero => intro v1 v2  h H; cases H
  | succ n ih =>
    intro v1 v2  h H
    rw [fX12_sum_6] at H
    refine j_aload_n (pc := 6) dX12_sum_6 rfl ?_
    obtain ⟨r4, h3, eh3, H⟩ := bd_x H
    refine j_callV (pc := 7) dX12_sum_7 mlX12_232 wyX12_fine (tX12_fine eh3) (Nat.le_trans (by decide) hdb) rfl rfl rfl rfl (by simp [Value.category]) rfl ?_
    refine j_if_eq (pc := 10) (tgt := 82) dX12_sum_10 (by decide) (fun c5 => ?_) (fun c5 => ?_)
    · rw [if_pos c5] at H
      refine j_iload_n (pc := 82) dX12_sum_82 rfl ?_
      exact j_ireturn (pc := 83) dX12_sum_83 rfl (ri_1 H) (ri_2 H)
    · rw [if_neg c5] at H
      refine j_aload_n (pc := 13) dX12_sum_13 rfl ?_
      obtain ⟨r7, h6, eh6, H⟩ := bd_x H
      refine j_callV (pc := 14) dX12_sum_14 mlX12_236 wyX12_here (tX12_here eh6) (Nat.le_trans (by decide) hdb) rfl rfl rfl rfl (by simp [Value.category]) rfl ?_
      refine j_bipush (pc := 17) (v := 43) dX12_sum_17 (by decide) ?_
      refine j_icmp_eq (pc := 19) (tgt := 31) dX12_sum_19 (by decide) (fun c8 => ?_) (fun c8 => ?_)
      · rw [if_pos c8] at H
        refine Jx.sub (L' := [some (.ref 0), some (.int v1), some (.int v2), none, none]) (⟨rfl, ⟨rfl, ⟨rfl, trivial⟩⟩⟩) ?_
        exact jX12_sum_31 hdb hd_product hg_product _ ih v1 v2 h6 H
      · rw [if_neg c8] at H
        refine j_aload_n (pc := 22) dX12_sum_22 rfl ?_
        obtain ⟨r10, h9, eh9, H⟩ := bd_x H
        refine j_callV (pc := 23) dX12_sum_23 mlX12_236 wyX12_here (tX12_here eh9) (Nat.le_trans (by decide) hdb) rfl rfl rfl rfl (by simp [Value.category]) rfl ?_
        refine j_bipush (pc := 26) (v := 45) dX12_sum_26 (by decide) ?_
        refine j_icmp_ne (pc := 28) (tgt := 82) dX12_sum_28 (by decide) (fun c11 => ?_) (fun c11 => ?_)
        · rw [if_neg c11] at H
          refine j_iload_n (pc := 82) dX12_sum_82 rfl ?_
          exact j_ireturn (pc := 83) dX12_sum_83 rfl (ri_1 H) (ri_2 H)
        · rw [if_pos c11] at H
          refine Jx.sub (L' := [some (.ref 0), some (.int v1), some (.int v2), none, none]) (⟨rfl, ⟨rfl, ⟨rfl, trivial⟩⟩⟩) ?_
          exact jX12_sum_31 hdb hd_product hg_product _ ih v1 v2 h9 H
noncomputable def fX12_sum (g_product : Int32 → HS → Option (Int32 × HS)) (p1 : Int32) (h : HS) : Option (Int32 × HS) := bd (g_product p1 h) (fun r2 h1 => fX12_sum_6 g_product FU p1 r2 h1)
set_option maxRecDepth 100000 in
theorem tX12_sum {p1 : Int32} {r : Int32} {h h0 : HS} {g_product : Int32 → HS → Option (Int32 × HS)} {dd : Nat} (hdb : 1 ≤ dd) {d_product : Nat} (hd_product : d_product + 1 ≤ dd) (hg_product : ∀ (p1 : Int32) (h : HS) (r : Int32) (h1 : HS), g_product p1 h = some (r, h1) → Cn skM yX12_product cX12_product 3 (some .int) d_product [.ref 0, .int p1] h (some (.int r)) h1) (H : fX12_sum g_product p1 h = some (r, h0)) : Cn skM yX12_sum cX12_sum 5 (some .int) dd [.ref 0, .int p1] h (some (.int r)) h0 := by
  refine Cn_of (L := [some (.ref 0), some (.int p1), none, none, none]) (by decide +kernel) (by simp [lg_sl, Value.category]) (fun ad => by simp [lg_sl, tv, Value.category]) (⟨rfl, ⟨rfl, trivial⟩⟩) ?_
  unfold fX12_sum at H
  refine j_aload_n (pc := 0) dX12_sum_0 rfl ?_
  refine j_iload_n (pc := 1) dX12_sum_1 rfl ?_
  obtain ⟨r2, h1, eh1, H⟩ := bd_x H
  refine j_callV (pc := 2) dX12_sum_2 mlX12_246 wyX12_product (hg_product _ _ _ _ eh1) hd_product rfl rfl rfl rfl (by simp [Value.category]) rfl ?_
  refine j_istore_n (pc := 5) (L' := [some (.ref 0), some (.int p1), some (.int r2), none, none]) dX12_sum_5 (by decide) rfl ?_
  refine Jx.sub (L' := [some (.ref 0), some (.int p1), some (.int r2), none, none]) (⟨rfl, ⟨rfl, ⟨rfl, trivial⟩⟩⟩) ?_
  exact jX12_sum_6 hdb hd_product hg_product FU p1 r2 h1 H
noncomputable def rX12_thing : Nat → (Int32 → HS → Option (Int32 × HS))
  | 0 => fun _ _ => none
  | n + 1 => fX12_thing (fX12_sum (fX12_product (rX12_thing n))) (rX12_thing n)
theorem trX12_thing : ∀ (n : Nat) (p1 : Int32) (h : HS) (r : Int32) (h1 : HS), rX12_thing n p1 h = some (r, h1) → Cn skM yX12_thing cX12_thing 4 (some .int) (10 + 3 * n) [.ref 0, .int p1] h (some (.int r)) h1 := by
  intro n
  induction n with
  | zero => intro p1 h r h1 H; cases H
  | succ n ih =>
    intro p1 h r h1 H
    exact tX12_thing (by omega) (d_sum := 10 + 3 * n + 2) (by omega) (fun p1 h r h1 H1 => tX12_sum (by omega) (d_product := 10 + 3 * n + 1) (by omega) (fun p1 h r h1 H2 => tX12_product (by omega) (d_thing := 10 + 3 * n) (by omega) ih H2) H1) (d_thing := 10 + 3 * n) (by omega) ih H
noncomputable def gX12_thing : Int32 → HS → Option (Int32 × HS) := rX12_thing 70
noncomputable def gX12_product : Int32 → HS → Option (Int32 × HS) := fX12_product gX12_thing
noncomputable def gX12_sum : Int32 → HS → Option (Int32 × HS) := fX12_sum gX12_product
theorem tgX12_sum {p1 r : Int32} {h h1 : HS} (H : gX12_sum p1 h = some (r, h1)) : Cn skM yX12_sum cX12_sum 5 (some .int) 222 [.ref 0, .int p1] h (some (.int r)) h1 := tX12_sum (by decide) (d_product := 221) (by decide) (fun p1 h r h1 H2 => tX12_product (by decide) (d_thing := 220) (by decide) (trX12_thing 70) H2) H

noncomputable def fX12_begin (p1 : Nat) (p2 : Int32) (p3 : Int32) (h : HS) : Option HS := nm (pR h 0 26 (some p1)) (fun h1 => nm (pI h1 0 27 p2) (fun h2 => nm (pI h2 0 28 p3) (fun h3 => nm (pI h3 0 29 (0 : Int32)) (fun h4 => nm (pI h4 0 30 (-1 : Int32)) (fun h5 => some h5)))))
set_option maxRecDepth 100000 in
theorem tX12_begin {p1 : Nat} {p2 : Int32} {p3 : Int32} {h h0 : HS} (H : fX12_begin p1 p2 p3 h = some h0) : Cn skM yX12_begin cX12_begin 4 none 0 [.ref 0, .ref p1, .int p2, .int p3] h none h0 := by
  refine Cn_of (L := [some (.ref 0), some (.ref p1), some (.int p2), some (.int p3)]) (by decide +kernel) (by simp [lg_sl, Value.category]) (fun ad => by simp [lg_sl, tv, Value.category]) (⟨rfl, ⟨rfl, ⟨rfl, ⟨rfl, trivial⟩⟩⟩⟩) ?_
  unfold fX12_begin at H
  refine j_aload_n (pc := 0) dX12_begin_0 rfl ?_
  refine j_aload_n (pc := 1) dX12_begin_1 rfl ?_
  obtain ⟨h1, eh1, H⟩ := nm_x H
  refine j_putQ (pc := 2) dX12_begin_2 fpX12_226 (fun _ => ⟨rfl, rfl⟩) rfl h1 eh1 ?_
  refine j_aload_n (pc := 5) dX12_begin_5 rfl ?_
  refine j_iload_n (pc := 6) dX12_begin_6 rfl ?_
  obtain ⟨h2, eh2, H⟩ := nm_x H
  refine j_putI (pc := 7) dX12_begin_7 fpX12_220 rfl h2 eh2 ?_
  refine j_aload_n (pc := 10) dX12_begin_10 rfl ?_
  refine j_iload_n (pc := 11) dX12_begin_11 rfl ?_
  obtain ⟨h3, eh3, H⟩ := nm_x H
  refine j_putI (pc := 12) dX12_begin_12 fpX12_223 rfl h3 eh3 ?_
  refine j_aload_n (pc := 15) dX12_begin_15 rfl ?_
  refine j_iconst (pc := 16) (v := 0) dX12_begin_16 (by decide) ?_
  obtain ⟨h4, eh4, H⟩ := nm_x H
  refine j_putI (pc := 17) dX12_begin_17 fpX12_217 rfl h4 eh4 ?_
  refine j_aload_n (pc := 20) dX12_begin_20 rfl ?_
  refine j_iconst (pc := 21) (v := -1) dX12_begin_21 (by decide) ?_
  obtain ⟨h5, eh5, H⟩ := nm_x H
  refine j_putI (pc := 22) dX12_begin_22 fpX12_229 rfl h5 eh5 ?_
  exact j_return (pc := 25) dX12_begin_25 rfl rfl (rv_2 H)

noncomputable def fX12_book_164 : Nat → Int32 → Int32 → HS → Option (Int32 × HS)
  | 0, _, _, _ => none
  | n + 1, v1, v3, h => if v1 ≤ v3 then (nm (pI h 0 31 v1) (fun h30 => some (v1, h30))) else (ck (inb v3 16) (ck (inb v3 16) (nm (pI h 13 v3.toNatClampNeg (gI h 15 v3.toNatClampNeg)) (fun h32 => ck (inb v3 16) (ck (inb v3 16) (nm (pI h32 14 v3.toNatClampNeg (gI h32 16 v3.toNatClampNeg)) (fun h35 => nm (v3 + (1 : Int32)) (fun v3_37 => fX12_book_164 n v1 v3_37 h35))))))))
set_option maxRecDepth 100000 in
theorem jX12_book_164 {r : Int32} {h0 : HS} : ∀ (n : Nat) (v1 : Int32) (v3 : Int32) (h : HS), fX12_book_164 n v1 v3 h = some (r, h0) → Jx skM RX12 cX12_book 4 (some .int) 223 (some (.int r)) h0 164 [some (.ref 0), some (.int v1), none, some (.int v3)] [] h := by
  intro n
  induction n with
  | zero => intro v1 v3  h H; cases H
  | succ n ih =>
    intro v1 v3  h H
    rw [fX12_book_164] at H
    refine j_iload_n (pc := 164) dX12_book_164 rfl ?_
    refine j_iload_n (pc := 165) dX12_book_165 rfl ?_
    refine j_icmp_ge (pc := 166) (tgt := 199) dX12_book_166 (by decide) (fun c29 => ?_) (fun c29 => ?_)
    · rw [if_pos c29] at H
      refine j_aload_n (pc := 199) dX12_book_199 rfl ?_
      refine j_iload_n (pc := 200) dX12_book_200 rfl ?_
      obtain ⟨h30, eh30, H⟩ := nm_x H
      refine j_putI (pc := 201) dX12_book_201 fpX12_272 rfl h30 eh30 ?_
      refine j_iload_n (pc := 204) dX12_book_204 rfl ?_
      exact j_ireturn (pc := 205) dX12_book_205 rfl (ri_1 H) (ri_2 H)
    · rw [if_neg c29] at H
      refine j_aload_n (pc := 169) dX12_book_169 rfl ?_
      refine j_getR (pc := 170) (b := 13) dX12_book_170 flX12_54 rfl ?_
      refine j_iload_n (pc := 173) dX12_book_173 rfl ?_
      refine j_aload_n (pc := 174) dX12_book_174 rfl ?_
      refine j_getR (pc := 175) (b := 15) dX12_book_175 flX12_60 rfl ?_
      refine j_iload_n (pc := 178) dX12_book_178 rfl ?_
      obtain ⟨b31, H⟩ := ck_x H
      refine j_iaload (pc := 179) dX12_book_179 rfl b31 rfl ?_
      obtain ⟨b33, H⟩ := ck_x H
      obtain ⟨h32, eh32, H⟩ := nm_x H
      refine j_iastore (pc := 180) dX12_book_180 rfl b33 rfl h32 eh32 ?_
      refine j_aload_n (pc := 181) dX12_book_181 rfl ?_
      refine j_getR (pc := 182) (b := 14) dX12_book_182 flX12_57 rfl ?_
      refine j_iload_n (pc := 185) dX12_book_185 rfl ?_
      refine j_aload_n (pc := 186) dX12_book_186 rfl ?_
      refine j_getR (pc := 187) (b := 16) dX12_book_187 flX12_63 rfl ?_
      refine j_iload_n (pc := 190) dX12_book_190 rfl ?_
      obtain ⟨b34, H⟩ := ck_x H
      refine j_iaload (pc := 191) dX12_book_191 rfl b34 rfl ?_
      obtain ⟨b36, H⟩ := ck_x H
      obtain ⟨h35, eh35, H⟩ := nm_x H
      refine j_iastore (pc := 192) dX12_book_192 rfl b36 rfl h35 eh35 ?_
      obtain ⟨v3_37, ev3_37, H⟩ := nm_x H
      refine j_iinc (pc := 193) (L' := [some (.ref 0), some (.int v1), none, some (.int v3_37)]) (w := 1) dX12_book_193 rfl (by decide) (by decide) v3_37 ev3_37 rfl ?_
      refine j_goto (pc := 196) (tgt := 164) dX12_book_196 (by decide) ?_
      refine Jx.sub (L' := [some (.ref 0), some (.int v1), none, some (.int v3_37)]) (⟨rfl, ⟨rfl, ⟨rfl, trivial⟩⟩⟩) ?_
      exact ih v1 v3_37 h35 H
noncomputable def fX12_book_128 : Nat → Int32 → Int32 → HS → Option (Int32 × HS)
  | 0, _, _, _ => none
  | n + 1, v1, v3, h => if (gI h 0 27) ≤ v3 then (nm (pI h 0 32 (gI h 0 27)) (fun h24 => fX12_book_164 FU v1 (0 : Int32) h24)) else (ck (inb v3 80) (ck (inb v3 60) (nm (pI h 12 v3.toNatClampNeg (vp_nar .byte (gI h 9 v3.toNatClampNeg))) (fun h26 => nm (v3 + (1 : Int32)) (fun v3_28 => fX12_book_128 n v1 v3_28 h26)))))
set_option maxRecDepth 100000 in
theorem jX12_book_128 {r : Int32} {h0 : HS} : ∀ (n : Nat) (v1 : Int32) (v3 : Int32) (h : HS), fX12_book_128 n v1 v3 h = some (r, h0) → Jx skM RX12 cX12_book 4 (some .int) 223 (some (.int r)) h0 128 [some (.ref 0), some (.int v1), none, some (.int v3)] [] h := by
  intro n
  induction n with
  | zero => intro v1 v3  h H; cases H
  | succ n ih =>
    intro v1 v3  h H
    rw [fX12_book_128] at H
    refine j_iload_n (pc := 128) dX12_book_128 rfl ?_
    refine j_aload_n (pc := 129) dX12_book_129 rfl ?_
    refine j_getI (pc := 130) dX12_book_130 flX12_220 rfl ?_
    refine j_icmp_ge (pc := 133) (tgt := 154) dX12_book_133 (by decide) (fun c23 => ?_) (fun c23 => ?_)
    · rw [if_pos c23] at H
      refine j_aload_n (pc := 154) dX12_book_154 rfl ?_
      refine j_aload_n (pc := 155) dX12_book_155 rfl ?_
      refine j_getI (pc := 156) dX12_book_156 flX12_220 rfl ?_
      obtain ⟨h24, eh24, H⟩ := nm_x H
      refine j_putI (pc := 159) dX12_book_159 fpX12_269 rfl h24 eh24 ?_
      refine j_iconst (pc := 162) (v := 0) dX12_book_162 (by decide) ?_
      refine j_istore_n (pc := 163) (L' := [some (.ref 0), some (.int v1), none, some (.int (0 : Int32))]) dX12_book_163 (by decide) rfl ?_
      refine Jx.sub (L' := [some (.ref 0), some (.int v1), none, some (.int (0 : Int32))]) (⟨rfl, ⟨rfl, ⟨rfl, trivial⟩⟩⟩) ?_
      exact jX12_book_164 FU v1 (0 : Int32) h24 H
    · rw [if_neg c23] at H
      refine j_aload_n (pc := 136) dX12_book_136 rfl ?_
      refine j_getR (pc := 137) (b := 12) dX12_book_137 flX12_51 rfl ?_
      refine j_iload_n (pc := 140) dX12_book_140 rfl ?_
      refine j_aload_n (pc := 141) dX12_book_141 rfl ?_
      refine j_getR (pc := 142) (b := 9) dX12_book_142 flX12_41 rfl ?_
      refine j_iload_n (pc := 145) dX12_book_145 rfl ?_
      obtain ⟨b25, H⟩ := ck_x H
      refine j_baload (pc := 146) dX12_book_146 rfl b25 rfl ?_
      obtain ⟨b27, H⟩ := ck_x H
      obtain ⟨h26, eh26, H⟩ := nm_x H
      refine j_bastore (pc := 147) dX12_book_147 rfl b27 rfl h26 eh26 ?_
      obtain ⟨v3_28, ev3_28, H⟩ := nm_x H
      refine j_iinc (pc := 148) (L' := [some (.ref 0), some (.int v1), none, some (.int v3_28)]) (w := 1) dX12_book_148 rfl (by decide) (by decide) v3_28 ev3_28 rfl ?_
      refine j_goto (pc := 151) (tgt := 128) dX12_book_151 (by decide) ?_
      refine Jx.sub (L' := [some (.ref 0), some (.int v1), none, some (.int v3_28)]) (⟨rfl, ⟨rfl, ⟨rfl, trivial⟩⟩⟩) ?_
      exact ih v1 v3_28 h26 H
noncomputable def fX12_book_112 (v1 : Int32) (h : HS) : Option (Int32 × HS) := bd (fX12_fine h) (fun r21 h20 => if r21 = 0 then (some (((-1 : Int32) - (gI h20 0 30)), h20)) else (fX12_book_128 FU v1 (0 : Int32) h20))
set_option maxRecDepth 100000 in
theorem jX12_book_112 {r : Int32} {h0 : HS} (v1 : Int32) (h : HS) (H : fX12_book_112 v1 h = some (r, h0)) : Jx skM RX12 cX12_book 4 (some .int) 223 (some (.int r)) h0 112 [some (.ref 0), some (.int v1), none, none] [] h := by
  unfold fX12_book_112 at H
  refine j_aload_n (pc := 112) dX12_book_112 rfl ?_
  obtain ⟨r21, h20, eh20, H⟩ := bd_x H
  refine j_callV (pc := 113) dX12_book_113 mlX12_232 wyX12_fine (tX12_fine eh20) (by decide) rfl rfl rfl rfl (by simp [Value.category]) rfl ?_
  refine j_if_ne (pc := 116) (tgt := 126) dX12_book_116 (by decide) (fun c22 => ?_) (fun c22 => ?_)
  · rw [if_neg c22] at H
    refine j_iconst (pc := 126) (v := 0) dX12_book_126 (by decide) ?_
    refine j_istore_n (pc := 127) (L' := [some (.ref 0), some (.int v1), none, some (.int (0 : Int32))]) dX12_book_127 (by decide) rfl ?_
    refine Jx.sub (L' := [some (.ref 0), some (.int v1), none, some (.int (0 : Int32))]) (⟨rfl, ⟨rfl, ⟨rfl, trivial⟩⟩⟩) ?_
    exact jX12_book_128 FU v1 (0 : Int32) h20 H
  · rw [if_pos c22] at H
    refine j_iconst (pc := 119) (v := -1) dX12_book_119 (by decide) ?_
    refine j_aload_n (pc := 120) dX12_book_120 rfl ?_
    refine j_getI (pc := 121) dX12_book_121 flX12_229 rfl ?_
    refine j_isub (pc := 124) dX12_book_124 ?_
    exact j_ireturn (pc := 125) dX12_book_125 rfl (ri_1 H) (ri_2 H)
noncomputable def fX12_book_39 : Nat → Int32 → Int32 → HS → Option (Int32 × HS)
  | 0, _, _, _ => none
  | n + 1, v1, v2, h => if v2 = 0 then (if (gI h 0 27) ≤ (gI h 0 29) then (fX12_book_112 v1 h) else (bv (fX12_fault ((gI h 0 29)) h) (fun h7 => fX12_book_112 v1 h7))) else (bd (fX12_number (2 : Int32) (15 : Int32) h) (fun r9 h8 => bv (fX12_need (61 : Int32) h8) (fun h10 => ck (inb v1 16) (nm (pI h10 15 v1.toNatClampNeg (gI h10 0 29)) (fun h11 => ck (inb v1 16) (nm (pI h11 16 v1.toNatClampNeg r9) (fun h13 => bd (gX12_sum (0 : Int32) h13) (fun r16 h15 => nm (v1 + (1 : Int32)) (fun v1_17 => bd (fX12_passes (59 : Int32) h15) (fun r19 h18 => fX12_book_39 n v1_17 r19 h18))))))))))
set_option maxRecDepth 100000 in
theorem jX12_book_39 {r : Int32} {h0 : HS} : ∀ (n : Nat) (v1 : Int32) (v2 : Int32) (h : HS), fX12_book_39 n v1 v2 h = some (r, h0) → Jx skM RX12 cX12_book 4 (some .int) 223 (some (.int r)) h0 39 [some (.ref 0), some (.int v1), some (.int v2), none] [] h := by
  intro n
  induction n with
  | zero => intro v1 v2  h H; cases H
  | succ n ih =>
    intro v1 v2  h H
    rw [fX12_book_39] at H
    refine j_iload_n (pc := 39) dX12_book_39 rfl ?_
    refine j_if_eq (pc := 40) (tgt := 93) dX12_book_40 (by decide) (fun c5 => ?_) (fun c5 => ?_)
    · rw [if_pos c5] at H
      refine j_aload_n (pc := 93) dX12_book_93 rfl ?_
      refine j_getI (pc := 94) dX12_book_94 flX12_217 rfl ?_
      refine j_aload_n (pc := 97) dX12_book_97 rfl ?_
      refine j_getI (pc := 98) dX12_book_98 flX12_220 rfl ?_
      refine j_icmp_ge (pc := 101) (tgt := 112) dX12_book_101 (by decide) (fun c6 => ?_) (fun c6 => ?_)
      · rw [if_pos c6] at H
        refine Jx.sub (L' := [some (.ref 0), some (.int v1), none, none]) (⟨rfl, ⟨rfl, trivial⟩⟩) ?_
        exact jX12_book_112 v1 h H
      · rw [if_neg c6] at H
        refine j_aload_n (pc := 104) dX12_book_104 rfl ?_
        refine j_aload_n (pc := 105) dX12_book_105 rfl ?_
        refine j_getI (pc := 106) dX12_book_106 flX12_217 rfl ?_
        obtain ⟨h7, eh7, H⟩ := bv_x H
        refine j_callV (pc := 109) dX12_book_109 mlX12_243 wyX12_fault (tX12_fault eh7) (by decide) rfl rfl rfl rfl (by simp [Value.category]) rfl ?_
        refine Jx.sub (L' := [some (.ref 0), some (.int v1), none, none]) (⟨rfl, ⟨rfl, trivial⟩⟩) ?_
        exact jX12_book_112 v1 h7 H
    · rw [if_neg c5] at H
      refine j_aload_n (pc := 43) dX12_book_43 rfl ?_
      refine j_iconst (pc := 44) (v := 2) dX12_book_44 (by decide) ?_
      refine j_bipush (pc := 45) (v := 15) dX12_book_45 (by decide) ?_
      obtain ⟨r9, h8, eh8, H⟩ := bd_x H
      refine j_callV (pc := 47) dX12_book_47 mlX12_259 wyX12_number (tX12_number eh8) (by decide) rfl rfl rfl rfl (by simp [Value.category]) rfl ?_
      refine j_istore_n (pc := 50) (L' := [some (.ref 0), some (.int v1), some (.int v2), some (.int r9)]) dX12_book_50 (by decide) rfl ?_
      refine j_aload_n (pc := 51) dX12_book_51 rfl ?_
      refine j_bipush (pc := 52) (v := 61) dX12_book_52 (by decide) ?_
      obtain ⟨h10, eh10, H⟩ := bv_x H
      refine j_callV (pc := 54) dX12_book_54 mlX12_255 wyX12_need (tX12_need eh10) (by decide) rfl rfl rfl rfl (by simp [Value.category]) rfl ?_
      refine j_aload_n (pc := 57) dX12_book_57 rfl ?_
      refine j_getR (pc := 58) (b := 15) dX12_book_58 flX12_60 rfl ?_
      refine j_iload_n (pc := 61) dX12_book_61 rfl ?_
      refine j_aload_n (pc := 62) dX12_book_62 rfl ?_
      refine j_getI (pc := 63) dX12_book_63 flX12_217 rfl ?_
      obtain ⟨b12, H⟩ := ck_x H
      obtain ⟨h11, eh11, H⟩ := nm_x H
      refine j_iastore (pc := 66) dX12_book_66 rfl b12 rfl h11 eh11 ?_
      refine j_aload_n (pc := 67) dX12_book_67 rfl ?_
      refine j_getR (pc := 68) (b := 16) dX12_book_68 flX12_63 rfl ?_
      refine j_iload_n (pc := 71) dX12_book_71 rfl ?_
      refine j_iload_n (pc := 72) dX12_book_72 rfl ?_
      obtain ⟨b14, H⟩ := ck_x H
      obtain ⟨h13, eh13, H⟩ := nm_x H
      refine j_iastore (pc := 73) dX12_book_73 rfl b14 rfl h13 eh13 ?_
      refine j_aload_n (pc := 74) dX12_book_74 rfl ?_
      refine j_iconst (pc := 75) (v := 0) dX12_book_75 (by decide) ?_
      obtain ⟨r16, h15, eh15, H⟩ := bd_x H
      refine j_callV (pc := 76) dX12_book_76 mlX12_252 wyX12_sum (tgX12_sum eh15) (by decide) rfl rfl rfl rfl (by simp [Value.category]) rfl ?_
      refine j_pop (pc := 79) dX12_book_79 rfl ?_
      obtain ⟨v1_17, ev1_17, H⟩ := nm_x H
      refine j_iinc (pc := 80) (L' := [some (.ref 0), some (.int v1_17), some (.int v2), some (.int r9)]) (w := 1) dX12_book_80 rfl (by decide) (by decide) v1_17 ev1_17 rfl ?_
      refine j_aload_n (pc := 83) dX12_book_83 rfl ?_
      refine j_bipush (pc := 84) (v := 59) dX12_book_84 (by decide) ?_
      obtain ⟨r19, h18, eh18, H⟩ := bd_x H
      refine j_callV (pc := 86) dX12_book_86 mlX12_239 wyX12_passes (tX12_passes eh18) (by decide) rfl rfl rfl rfl (by simp [Value.category]) rfl ?_
      refine j_istore_n (pc := 89) (L' := [some (.ref 0), some (.int v1_17), some (.int r19), some (.int r9)]) dX12_book_89 (by decide) rfl ?_
      refine j_goto (pc := 90) (tgt := 39) dX12_book_90 (by decide) ?_
      refine Jx.sub (L' := [some (.ref 0), some (.int v1_17), some (.int r19), none]) (⟨rfl, ⟨rfl, ⟨rfl, trivial⟩⟩⟩) ?_
      exact ih v1_17 r19 h18 H
noncomputable def fX12_book (h : HS) : Option (Int32 × HS) := nm (pI h 0 22 (0 : Int32)) (fun h1 => bv (fX12_begin 9 ((gI h1 0 19)) (60 : Int32) h1) (fun h2 => nm (pI h2 0 19 (0 : Int32)) (fun h3 => if (gI h3 0 27) ≤ 0 then (fX12_book_39 FU (0 : Int32) (0 : Int32) h3) else (fX12_book_39 FU (0 : Int32) (1 : Int32) h3))))
set_option maxRecDepth 100000 in
theorem tX12_book {r : Int32} {h h0 : HS} (H : fX12_book h = some (r, h0)) : Cn skM yX12_book cX12_book 4 (some .int) 223 [.ref 0] h (some (.int r)) h0 := by
  refine Cn_of (L := [some (.ref 0), none, none, none]) (by decide +kernel) (by simp [lg_sl, Value.category]) (fun ad => by simp [lg_sl, tv, Value.category]) (⟨rfl, trivial⟩) ?_
  unfold fX12_book at H
  refine j_aload_n (pc := 0) dX12_book_0 rfl ?_
  refine j_iconst (pc := 1) (v := 0) dX12_book_1 (by decide) ?_
  obtain ⟨h1, eh1, H⟩ := nm_x H
  refine j_putI (pc := 2) dX12_book_2 fpX12_133 rfl h1 eh1 ?_
  refine j_aload_n (pc := 5) dX12_book_5 rfl ?_
  refine j_aload_n (pc := 6) dX12_book_6 rfl ?_
  refine j_getR (pc := 7) (b := 9) dX12_book_7 flX12_41 rfl ?_
  refine j_aload_n (pc := 10) dX12_book_10 rfl ?_
  refine j_getI (pc := 11) dX12_book_11 flX12_214 rfl ?_
  refine j_bipush (pc := 14) (v := 60) dX12_book_14 (by decide) ?_
  obtain ⟨h2, eh2, H⟩ := bv_x H
  refine j_callV (pc := 16) dX12_book_16 mlX12_265 wyX12_begin (tX12_begin eh2) (by decide) rfl rfl rfl rfl (by simp [Value.category]) rfl ?_
  refine j_aload_n (pc := 19) dX12_book_19 rfl ?_
  refine j_iconst (pc := 20) (v := 0) dX12_book_20 (by decide) ?_
  obtain ⟨h3, eh3, H⟩ := nm_x H
  refine j_putI (pc := 21) dX12_book_21 fpX12_214 rfl h3 eh3 ?_
  refine j_iconst (pc := 24) (v := 0) dX12_book_24 (by decide) ?_
  refine j_istore_n (pc := 25) (L' := [some (.ref 0), some (.int (0 : Int32)), none, none]) dX12_book_25 (by decide) rfl ?_
  refine j_aload_n (pc := 26) dX12_book_26 rfl ?_
  refine j_getI (pc := 27) dX12_book_27 flX12_220 rfl ?_
  refine j_if_le (pc := 30) (tgt := 37) dX12_book_30 (by decide) (fun c4 => ?_) (fun c4 => ?_)
  · rw [if_pos c4] at H
    refine j_iconst (pc := 37) (v := 0) dX12_book_37 (by decide) ?_
    refine j_istore_n (pc := 38) (L' := [some (.ref 0), some (.int (0 : Int32)), some (.int (0 : Int32)), none]) dX12_book_38 (by decide) rfl ?_
    refine Jx.sub (L' := [some (.ref 0), some (.int (0 : Int32)), some (.int (0 : Int32)), none]) (⟨rfl, ⟨rfl, ⟨rfl, trivial⟩⟩⟩) ?_
    exact jX12_book_39 FU (0 : Int32) (0 : Int32) h3 H
  · rw [if_neg c4] at H
    refine j_iconst (pc := 33) (v := 1) dX12_book_33 (by decide) ?_
    refine j_goto (pc := 34) (tgt := 38) dX12_book_34 (by decide) ?_
    refine j_istore_n (pc := 38) (L' := [some (.ref 0), some (.int (0 : Int32)), some (.int (1 : Int32)), none]) dX12_book_38 (by decide) rfl ?_
    refine Jx.sub (L' := [some (.ref 0), some (.int (0 : Int32)), some (.int (1 : Int32)), none]) (⟨rfl, ⟨rfl, ⟨rfl, trivial⟩⟩⟩) ?_
    exact jX12_book_39 FU (0 : Int32) (1 : Int32) h3 H

noncomputable def fX12_lineOf (p1 : Int32) (h : HS) : Option (Int32 × HS) := bv (fX12_begin 12 ((gI h 0 32)) (60 : Int32) h) (fun h1 => ck (inb p1 16) (nm (pI h1 0 29 (gI h1 13 p1.toNatClampNeg)) (fun h3 => bd (gX12_sum (0 : Int32) h3) (fun r5 h4 => some (r5, h4)))))
set_option maxRecDepth 100000 in
theorem tX12_lineOf {p1 : Int32} {r : Int32} {h h0 : HS} (H : fX12_lineOf p1 h = some (r, h0)) : Cn skM yX12_lineOf cX12_lineOf 2 (some .int) 223 [.ref 0, .int p1] h (some (.int r)) h0 := by
  refine Cn_of (L := [some (.ref 0), some (.int p1)]) (by decide +kernel) (by simp [lg_sl, Value.category]) (fun ad => by simp [lg_sl, tv, Value.category]) (⟨rfl, ⟨rfl, trivial⟩⟩) ?_
  unfold fX12_lineOf at H
  refine j_aload_n (pc := 0) dX12_lineOf_0 rfl ?_
  refine j_aload_n (pc := 1) dX12_lineOf_1 rfl ?_
  refine j_getR (pc := 2) (b := 12) dX12_lineOf_2 flX12_51 rfl ?_
  refine j_aload_n (pc := 5) dX12_lineOf_5 rfl ?_
  refine j_getI (pc := 6) dX12_lineOf_6 flX12_269 rfl ?_
  refine j_bipush (pc := 9) (v := 60) dX12_lineOf_9 (by decide) ?_
  obtain ⟨h1, eh1, H⟩ := bv_x H
  refine j_callV (pc := 11) dX12_lineOf_11 mlX12_265 wyX12_begin (tX12_begin eh1) (by decide) rfl rfl rfl rfl (by simp [Value.category]) rfl ?_
  refine j_aload_n (pc := 14) dX12_lineOf_14 rfl ?_
  refine j_aload_n (pc := 15) dX12_lineOf_15 rfl ?_
  refine j_getR (pc := 16) (b := 13) dX12_lineOf_16 flX12_54 rfl ?_
  refine j_iload_n (pc := 19) dX12_lineOf_19 rfl ?_
  obtain ⟨b2, H⟩ := ck_x H
  refine j_iaload (pc := 20) dX12_lineOf_20 rfl b2 rfl ?_
  obtain ⟨h3, eh3, H⟩ := nm_x H
  refine j_putI (pc := 21) dX12_lineOf_21 fpX12_217 rfl h3 eh3 ?_
  refine j_aload_n (pc := 24) dX12_lineOf_24 rfl ?_
  refine j_iconst (pc := 25) (v := 0) dX12_lineOf_25 (by decide) ?_
  obtain ⟨r5, h4, eh4, H⟩ := bd_x H
  refine j_callV (pc := 26) dX12_lineOf_26 mlX12_252 wyX12_sum (tgX12_sum eh4) (by decide) rfl rfl rfl rfl (by simp [Value.category]) rfl ?_
  exact j_ireturn (pc := 29) dX12_lineOf_29 rfl (ri_1 H) (ri_2 H)

noncomputable def fX12_line (p1 : Int32) (h : HS) : Option (Int32 × HS) := nm (pI h 0 22 (0 : Int32)) (fun h1 => bd (fX12_in p1 (0 : Int32) (((gI h1 0 31) - (1 : Int32))) h1) (fun r3 h2 => if r3 = 0 then (bd (fX12_lost h2) (fun r6 h5 => some (r6, h5))) else (bd (fX12_lineOf p1 h2) (fun r8 h7 => some (r8, h7)))))
set_option maxRecDepth 100000 in
theorem tX12_line {p1 : Int32} {r : Int32} {h h0 : HS} (H : fX12_line p1 h = some (r, h0)) : Cn skM yX12_line cX12_line 2 (some .int) 224 [.ref 0, .int p1] h (some (.int r)) h0 := by
  refine Cn_of (L := [some (.ref 0), some (.int p1)]) (by decide +kernel) (by simp [lg_sl, Value.category]) (fun ad => by simp [lg_sl, tv, Value.category]) (⟨rfl, ⟨rfl, trivial⟩⟩) ?_
  unfold fX12_line at H
  refine j_aload_n (pc := 0) dX12_line_0 rfl ?_
  refine j_iconst (pc := 1) (v := 0) dX12_line_1 (by decide) ?_
  obtain ⟨h1, eh1, H⟩ := nm_x H
  refine j_putI (pc := 2) dX12_line_2 fpX12_133 rfl h1 eh1 ?_
  refine j_iload_n (pc := 5) dX12_line_5 rfl ?_
  refine j_iconst (pc := 6) (v := 0) dX12_line_6 (by decide) ?_
  refine j_aload_n (pc := 7) dX12_line_7 rfl ?_
  refine j_getI (pc := 8) dX12_line_8 flX12_272 rfl ?_
  refine j_iconst (pc := 11) (v := 1) dX12_line_11 (by decide) ?_
  refine j_isub (pc := 12) dX12_line_12 ?_
  obtain ⟨r3, h2, eh2, H⟩ := bd_x H
  refine j_callS (pc := 13) dX12_line_13 mlX12_142 wyX12_in (tX12_in eh2) (by decide) rfl (by simp [Value.category]) rfl ?_
  refine j_if_eq (pc := 16) (tgt := 27) dX12_line_16 (by decide) (fun c4 => ?_) (fun c4 => ?_)
  · rw [if_pos c4] at H
    refine j_aload_n (pc := 27) dX12_line_27 rfl ?_
    obtain ⟨r6, h5, eh5, H⟩ := bd_x H
    refine j_callV (pc := 28) dX12_line_28 mlX12_184 wyX12_lost (tX12_lost eh5) (by decide) rfl rfl rfl rfl (by simp [Value.category]) rfl ?_
    exact j_ireturn (pc := 31) dX12_line_31 rfl (ri_1 H) (ri_2 H)
  · rw [if_neg c4] at H
    refine j_aload_n (pc := 19) dX12_line_19 rfl ?_
    refine j_iload_n (pc := 20) dX12_line_20 rfl ?_
    obtain ⟨r8, h7, eh7, H⟩ := bd_x H
    refine j_callV (pc := 21) dX12_line_21 mlX12_275 wyX12_lineOf (tX12_lineOf eh7) (by decide) rfl rfl rfl rfl (by simp [Value.category]) rfl ?_
    refine j_goto (pc := 24) (tgt := 31) dX12_line_24 (by decide) ?_
    exact j_ireturn (pc := 31) dX12_line_31 rfl (ri_1 H) (ri_2 H)

noncomputable def fX12_doMorning_63 (k14 : Int32 → Int32 → Int32 → HS → Option (Int32 × HS)) (v1 : Int32) (v2 : Int32) (v3 : Int32) (v4 : Int32) (v5 : Int32) (h : HS) : Option (Int32 × HS) := if v5 = 0 then (nm (v3 + (1 : Int32)) (fun v3_24 => k14 v1 v2 v3_24 h)) else (ck (inb v4 15) (bd (fX12_lineOf v3 h) (fun r14 h13 => nm ((imax (0 : Int32) (imin (gI h 4 v4.toNatClampNeg) r14))) (fun v6_15 => ck (inb v4 15) (nm (pI h13 0 37 ((gI h13 0 37) + (imax (0 : Int32) (v6_15 - (gI h13 5 v4.toNatClampNeg))))) (fun h17 => ck (inb v4 15) (nm (pI h17 0 38 ((gI h17 0 38) + (imax (0 : Int32) ((gI h17 5 v4.toNatClampNeg) - v6_15)))) (fun h19 => ck (inb v4 15) (nm (pI h19 5 v4.toNatClampNeg v6_15) (fun h20 => nm (v2 + (1 : Int32)) (fun v2_22 => nm (v3 + (1 : Int32)) (fun v3_23 => k14 v1 v2_22 v3_23 h20))))))))))))
set_option maxRecDepth 100000 in
theorem jX12_doMorning_63 {r : Int32} {h0 : HS} (k14 : Int32 → Int32 → Int32 → HS → Option (Int32 × HS)) (hk14 : ∀ (v1 : Int32) (v2 : Int32) (v3 : Int32) (h : HS), k14 v1 v2 v3 h = some (r, h0) → Jx skM RX12 cX12_doMorning 7 (some .int) 224 (some (.int r)) h0 14 [some (.ref 0), some (.int v1), some (.int v2), some (.int v3), none, none, none] [] h) (v1 : Int32) (v2 : Int32) (v3 : Int32) (v4 : Int32) (v5 : Int32) (h : HS) (H : fX12_doMorning_63 k14 v1 v2 v3 v4 v5 h = some (r, h0)) : Jx skM RX12 cX12_doMorning 7 (some .int) 224 (some (.int r)) h0 63 [some (.ref 0), some (.int v1), some (.int v2), some (.int v3), some (.int v4), some (.int v5), none] [] h := by
  unfold fX12_doMorning_63 at H
  refine j_iload (pc := 63) dX12_doMorning_63 rfl ?_
  refine j_if_ne (pc := 65) (tgt := 71) dX12_doMorning_65 (by decide) (fun c11 => ?_) (fun c11 => ?_)
  · rw [if_neg c11] at H
    refine j_iconst (pc := 71) (v := 0) dX12_doMorning_71 (by decide) ?_
    refine j_aload_n (pc := 72) dX12_doMorning_72 rfl ?_
    refine j_getR (pc := 73) (b := 4) dX12_doMorning_73 flX12_19 rfl ?_
    refine j_iload (pc := 76) dX12_doMorning_76 rfl ?_
    obtain ⟨b12, H⟩ := ck_x H
    refine j_iaload (pc := 78) dX12_doMorning_78 rfl b12 rfl ?_
    refine j_aload_n (pc := 79) dX12_doMorning_79 rfl ?_
    refine j_iload_n (pc := 80) dX12_doMorning_80 rfl ?_
    obtain ⟨r14, h13, eh13, H⟩ := bd_x H
    refine j_callV (pc := 81) dX12_doMorning_81 mlX12_275 wyX12_lineOf (tX12_lineOf eh13) (by decide) rfl rfl rfl rfl (by simp [Value.category]) rfl ?_
    refine j_mmin (pc := 84) dX12_doMorning_84 wmX12_153 (by simp [Value.category]) ?_
    refine j_mmax (pc := 87) dX12_doMorning_87 wmX12_159 (by simp [Value.category]) ?_
    obtain ⟨v6_15, ev6_15, H⟩ := nm_x H
    refine j_topi ev6_15 ?_
    refine j_istore (pc := 90) (L' := [some (.ref 0), some (.int v1), some (.int v2), some (.int v3), some (.int v4), some (.int v5), some (.int v6_15)]) dX12_doMorning_90 (by decide) rfl ?_
    refine j_aload_n (pc := 92) dX12_doMorning_92 rfl ?_
    refine j_dup (pc := 93) dX12_doMorning_93 rfl ?_
    refine j_getI (pc := 94) dX12_doMorning_94 flX12_278 rfl ?_
    refine j_iconst (pc := 97) (v := 0) dX12_doMorning_97 (by decide) ?_
    refine j_iload (pc := 98) dX12_doMorning_98 rfl ?_
    refine j_aload_n (pc := 100) dX12_doMorning_100 rfl ?_
    refine j_getR (pc := 101) (b := 5) dX12_doMorning_101 flX12_22 rfl ?_
    refine j_iload (pc := 104) dX12_doMorning_104 rfl ?_
    obtain ⟨b16, H⟩ := ck_x H
    refine j_iaload (pc := 106) dX12_doMorning_106 rfl b16 rfl ?_
    refine j_isub (pc := 107) dX12_doMorning_107 ?_
    refine j_mmax (pc := 108) dX12_doMorning_108 wmX12_159 (by simp [Value.category]) ?_
    refine j_iadd (pc := 111) dX12_doMorning_111 ?_
    obtain ⟨h17, eh17, H⟩ := nm_x H
    refine j_putI (pc := 112) dX12_doMorning_112 fpX12_278 rfl h17 eh17 ?_
    refine j_aload_n (pc := 115) dX12_doMorning_115 rfl ?_
    refine j_dup (pc := 116) dX12_doMorning_116 rfl ?_
    refine j_getI (pc := 117) dX12_doMorning_117 flX12_281 rfl ?_
    refine j_iconst (pc := 120) (v := 0) dX12_doMorning_120 (by decide) ?_
    refine j_aload_n (pc := 121) dX12_doMorning_121 rfl ?_
    refine j_getR (pc := 122) (b := 5) dX12_doMorning_122 flX12_22 rfl ?_
    refine j_iload (pc := 125) dX12_doMorning_125 rfl ?_
    obtain ⟨b18, H⟩ := ck_x H
    refine j_iaload (pc := 127) dX12_doMorning_127 rfl b18 rfl ?_
    refine j_iload (pc := 128) dX12_doMorning_128 rfl ?_
    refine j_isub (pc := 130) dX12_doMorning_130 ?_
    refine j_mmax (pc := 131) dX12_doMorning_131 wmX12_159 (by simp [Value.category]) ?_
    refine j_iadd (pc := 134) dX12_doMorning_134 ?_
    obtain ⟨h19, eh19, H⟩ := nm_x H
    refine j_putI (pc := 135) dX12_doMorning_135 fpX12_281 rfl h19 eh19 ?_
    refine j_aload_n (pc := 138) dX12_doMorning_138 rfl ?_
    refine j_getR (pc := 139) (b := 5) dX12_doMorning_139 flX12_22 rfl ?_
    refine j_iload (pc := 142) dX12_doMorning_142 rfl ?_
    refine j_iload (pc := 144) dX12_doMorning_144 rfl ?_
    obtain ⟨b21, H⟩ := ck_x H
    obtain ⟨h20, eh20, H⟩ := nm_x H
    refine j_iastore (pc := 146) dX12_doMorning_146 rfl b21 rfl h20 eh20 ?_
    obtain ⟨v2_22, ev2_22, H⟩ := nm_x H
    refine j_iinc (pc := 147) (L' := [some (.ref 0), some (.int v1), some (.int v2_22), some (.int v3), some (.int v4), some (.int v5), some (.int v6_15)]) (w := 1) dX12_doMorning_147 rfl (by decide) (by decide) v2_22 ev2_22 rfl ?_
    obtain ⟨v3_23, ev3_23, H⟩ := nm_x H
    refine j_iinc (pc := 150) (L' := [some (.ref 0), some (.int v1), some (.int v2_22), some (.int v3_23), some (.int v4), some (.int v5), some (.int v6_15)]) (w := 1) dX12_doMorning_150 rfl (by decide) (by decide) v3_23 ev3_23 rfl ?_
    refine j_goto (pc := 153) (tgt := 14) dX12_doMorning_153 (by decide) ?_
    refine Jx.sub (L' := [some (.ref 0), some (.int v1), some (.int v2_22), some (.int v3_23), none, none, none]) (⟨rfl, ⟨rfl, ⟨rfl, ⟨rfl, trivial⟩⟩⟩⟩) ?_
    exact hk14 v1 v2_22 v3_23 h20 H
  · rw [if_pos c11] at H
    refine j_goto (pc := 68) (tgt := 150) dX12_doMorning_68 (by decide) ?_
    obtain ⟨v3_24, ev3_24, H⟩ := nm_x H
    refine j_iinc (pc := 150) (L' := [some (.ref 0), some (.int v1), some (.int v2), some (.int v3_24), some (.int v4), some (.int v5), none]) (w := 1) dX12_doMorning_150 rfl (by decide) (by decide) v3_24 ev3_24 rfl ?_
    refine j_goto (pc := 153) (tgt := 14) dX12_doMorning_153 (by decide) ?_
    refine Jx.sub (L' := [some (.ref 0), some (.int v1), some (.int v2), some (.int v3_24), none, none, none]) (⟨rfl, ⟨rfl, ⟨rfl, ⟨rfl, trivial⟩⟩⟩⟩) ?_
    exact hk14 v1 v2 v3_24 h H
noncomputable def fX12_doMorning_60 (k14 : Int32 → Int32 → Int32 → HS → Option (Int32 × HS)) (v1 : Int32) (v2 : Int32) (v3 : Int32) (v4 : Int32) (v5 : Int32) (s1 : Int32) (h : HS) : Option (Int32 × HS) := bv (fX12_tell s1 h) (fun h25 => fX12_doMorning_63 k14 v1 v2 v3 v4 v5 h25)
set_option maxRecDepth 100000 in
theorem jX12_doMorning_60 {r : Int32} {h0 : HS} (k14 : Int32 → Int32 → Int32 → HS → Option (Int32 × HS)) (hk14 : ∀ (v1 : Int32) (v2 : Int32) (v3 : Int32) (h : HS), k14 v1 v2 v3 h = some (r, h0) → Jx skM RX12 cX12_doMorning 7 (some .int) 224 (some (.int r)) h0 14 [some (.ref 0), some (.int v1), some (.int v2), some (.int v3), none, none, none] [] h) (v1 : Int32) (v2 : Int32) (v3 : Int32) (v4 : Int32) (v5 : Int32) (s1 : Int32) (h : HS) (H : fX12_doMorning_60 k14 v1 v2 v3 v4 v5 s1 h = some (r, h0)) : Jx skM RX12 cX12_doMorning 7 (some .int) 224 (some (.int r)) h0 60 [some (.ref 0), some (.int v1), some (.int v2), some (.int v3), some (.int v4), some (.int v5), none] [.int s1, .ref 0] h := by
  unfold fX12_doMorning_60 at H
  obtain ⟨h25, eh25, H⟩ := bv_x H
  refine j_callV (pc := 60) dX12_doMorning_60 mlX12_210 wyX12_tell (tX12_tell eh25) (by decide) rfl rfl rfl rfl (by simp [Value.category]) rfl ?_
  refine Jx.sub (L' := [some (.ref 0), some (.int v1), some (.int v2), some (.int v3), some (.int v4), some (.int v5), none]) (⟨rfl, ⟨rfl, ⟨rfl, ⟨rfl, ⟨rfl, ⟨rfl, trivial⟩⟩⟩⟩⟩⟩) ?_
  exact jX12_doMorning_63 _ hk14 v1 v2 v3 v4 v5 h25 H
noncomputable def fX12_doMorning_14 : Nat → Int32 → Int32 → Int32 → HS → Option (Int32 × HS)
  | 0, _, _, _, _ => none
  | n + 1, v1, v2, v3, h => if (gI h 0 31) ≤ v3 then (some (v2, h)) else (ck (inb v3 16) (nm ((gI h 14 v3.toNatClampNeg)) (fun v4_5 => bd (fX12_isOf v4_5 (0 : Int32) h) (fun r7 h6 => if v1 = 0 then (fX12_doMorning_63 (fX12_doMorning_14 n) v1 v2 v3 v4_5 r7 h6) else (if r7 = 0 then (fX12_doMorning_60 (fX12_doMorning_14 n) v1 v2 v3 v4_5 r7 (-1 : Int32) h6) else (ck (inb v4_5 15) (fX12_doMorning_60 (fX12_doMorning_14 n) v1 v2 v3 v4_5 r7 ((gI h6 5 v4_5.toNatClampNeg)) h6)))))))
set_option maxRecDepth 100000 in
theorem jX12_doMorning_14 {r : Int32} {h0 : HS} : ∀ (n : Nat) (v1 : Int32) (v2 : Int32) (v3 : Int32) (h : HS), fX12_doMorning_14 n v1 v2 v3 h = some (r, h0) → Jx skM RX12 cX12_doMorning 7 (some .int) 224 (some (.int r)) h0 14 [some (.ref 0), some (.int v1), some (.int v2), some (.int v3), none, none, none] [] h := by
  intro n
  induction n with
  | zero => intro v1 v2 v3  h H; cases H
  | succ n ih =>
    intro v1 v2 v3  h H
    rw [fX12_doMorning_14] at H
    refine j_iload_n (pc := 14) dX12_doMorning_14 rfl ?_
    refine j_aload_n (pc := 15) dX12_doMorning_15 rfl ?_
    refine j_getI (pc := 16) dX12_doMorning_16 flX12_272 rfl ?_
    refine j_icmp_ge (pc := 19) (tgt := 156) dX12_doMorning_19 (by decide) (fun c3 => ?_) (fun c3 => ?_)
    · rw [if_pos c3] at H
      refine j_iload_n (pc := 156) dX12_doMorning_156 rfl ?_
      exact j_ireturn (pc := 157) dX12_doMorning_157 rfl (ri_1 H) (ri_2 H)
    · rw [if_neg c3] at H
      refine j_aload_n (pc := 22) dX12_doMorning_22 rfl ?_
      refine j_getR (pc := 23) (b := 14) dX12_doMorning_23 flX12_57 rfl ?_
      refine j_iload_n (pc := 26) dX12_doMorning_26 rfl ?_
      obtain ⟨b4, H⟩ := ck_x H
      refine j_iaload (pc := 27) dX12_doMorning_27 rfl b4 rfl ?_
      obtain ⟨v4_5, ev4_5, H⟩ := nm_x H
      refine j_topi ev4_5 ?_
      refine j_istore (pc := 28) (L' := [some (.ref 0), some (.int v1), some (.int v2), some (.int v3), some (.int v4_5), none, none]) dX12_doMorning_28 (by decide) rfl ?_
      refine j_aload_n (pc := 30) dX12_doMorning_30 rfl ?_
      refine j_iload (pc := 31) dX12_doMorning_31 rfl ?_
      refine j_iconst (pc := 33) (v := 0) dX12_doMorning_33 (by decide) ?_
      obtain ⟨r7, h6, eh6, H⟩ := bd_x H
      refine j_callV (pc := 34) dX12_doMorning_34 mlX12_284 wyX12_isOf (tX12_isOf eh6) (by decide) rfl rfl rfl rfl (by simp [Value.category]) rfl ?_
      refine j_istore (pc := 37) (L' := [some (.ref 0), some (.int v1), some (.int v2), some (.int v3), some (.int v4_5), some (.int r7), none]) dX12_doMorning_37 (by decide) rfl ?_
      refine j_iload_n (pc := 39) dX12_doMorning_39 rfl ?_
      refine j_if_eq (pc := 40) (tgt := 63) dX12_doMorning_40 (by decide) (fun c8 => ?_) (fun c8 => ?_)
      · rw [if_pos c8] at H
        refine Jx.sub (L' := [some (.ref 0), some (.int v1), some (.int v2), some (.int v3), some (.int v4_5), some (.int r7), none]) (⟨rfl, ⟨rfl, ⟨rfl, ⟨rfl, ⟨rfl, ⟨rfl, trivial⟩⟩⟩⟩⟩⟩) ?_
        exact jX12_doMorning_63 _ ih v1 v2 v3 v4_5 r7 h6 H
      · rw [if_neg c8] at H
        refine j_aload_n (pc := 43) dX12_doMorning_43 rfl ?_
        refine j_iload (pc := 44) dX12_doMorning_44 rfl ?_
        refine j_if_eq (pc := 46) (tgt := 59) dX12_doMorning_46 (by decide) (fun c9 => ?_) (fun c9 => ?_)
        · rw [if_pos c9] at H
          refine j_iconst (pc := 59) (v := -1) dX12_doMorning_59 (by decide) ?_
          refine Jx.sub (L' := [some (.ref 0), some (.int v1), some (.int v2), some (.int v3), some (.int v4_5), some (.int r7), none]) (⟨rfl, ⟨rfl, ⟨rfl, ⟨rfl, ⟨rfl, ⟨rfl, trivial⟩⟩⟩⟩⟩⟩) ?_
          exact jX12_doMorning_60 _ ih v1 v2 v3 v4_5 r7 (-1 : Int32) h6 H
        · rw [if_neg c9] at H
          refine j_aload_n (pc := 49) dX12_doMorning_49 rfl ?_
          refine j_getR (pc := 50) (b := 5) dX12_doMorning_50 flX12_22 rfl ?_
          refine j_iload (pc := 53) dX12_doMorning_53 rfl ?_
          obtain ⟨b10, H⟩ := ck_x H
          refine j_iaload (pc := 55) dX12_doMorning_55 rfl b10 rfl ?_
          refine j_goto (pc := 56) (tgt := 60) dX12_doMorning_56 (by decide) ?_
          refine Jx.sub (L' := [some (.ref 0), some (.int v1), some (.int v2), some (.int v3), some (.int v4_5), some (.int r7), none]) (⟨rfl, ⟨rfl, ⟨rfl, ⟨rfl, ⟨rfl, ⟨rfl, trivial⟩⟩⟩⟩⟩⟩) ?_
          exact jX12_doMorning_60 _ ih v1 v2 v3 v4_5 r7 ((gI h6 5 v4_5.toNatClampNeg)) h6 H
noncomputable def fX12_doMorning (p1 : Int32) (h : HS) : Option (Int32 × HS) := nm (pI h 0 37 (0 : Int32)) (fun h1 => nm (pI h1 0 38 (0 : Int32)) (fun h2 => fX12_doMorning_14 FU p1 (0 : Int32) (0 : Int32) h2))
set_option maxRecDepth 100000 in
theorem tX12_doMorning {p1 : Int32} {r : Int32} {h h0 : HS} (H : fX12_doMorning p1 h = some (r, h0)) : Cn skM yX12_doMorning cX12_doMorning 7 (some .int) 224 [.ref 0, .int p1] h (some (.int r)) h0 := by
  refine Cn_of (L := [some (.ref 0), some (.int p1), none, none, none, none, none]) (by decide +kernel) (by simp [lg_sl, Value.category]) (fun ad => by simp [lg_sl, tv, Value.category]) (⟨rfl, ⟨rfl, trivial⟩⟩) ?_
  unfold fX12_doMorning at H
  refine j_aload_n (pc := 0) dX12_doMorning_0 rfl ?_
  refine j_iconst (pc := 1) (v := 0) dX12_doMorning_1 (by decide) ?_
  obtain ⟨h1, eh1, H⟩ := nm_x H
  refine j_putI (pc := 2) dX12_doMorning_2 fpX12_278 rfl h1 eh1 ?_
  refine j_aload_n (pc := 5) dX12_doMorning_5 rfl ?_
  refine j_iconst (pc := 6) (v := 0) dX12_doMorning_6 (by decide) ?_
  obtain ⟨h2, eh2, H⟩ := nm_x H
  refine j_putI (pc := 7) dX12_doMorning_7 fpX12_281 rfl h2 eh2 ?_
  refine j_iconst (pc := 10) (v := 0) dX12_doMorning_10 (by decide) ?_
  refine j_istore_n (pc := 11) (L' := [some (.ref 0), some (.int p1), some (.int (0 : Int32)), none, none, none, none]) dX12_doMorning_11 (by decide) rfl ?_
  refine j_iconst (pc := 12) (v := 0) dX12_doMorning_12 (by decide) ?_
  refine j_istore_n (pc := 13) (L' := [some (.ref 0), some (.int p1), some (.int (0 : Int32)), some (.int (0 : Int32)), none, none, none]) dX12_doMorning_13 (by decide) rfl ?_
  refine Jx.sub (L' := [some (.ref 0), some (.int p1), some (.int (0 : Int32)), some (.int (0 : Int32)), none, none, none]) (⟨rfl, ⟨rfl, ⟨rfl, ⟨rfl, trivial⟩⟩⟩⟩) ?_
  exact jX12_doMorning_14 FU p1 (0 : Int32) (0 : Int32) h2 H

noncomputable def fX12_morning (h : HS) : Option (Int32 × HS) := nm (pI h 0 22 (0 : Int32)) (fun h1 => nm (pI h1 0 21 (0 : Int32)) (fun h2 => bd (fX12_doMorning (1 : Int32) h2) (fun r4 h3 => bv (fX12_tell ((gI h3 0 37)) h3) (fun h5 => bv (fX12_tell ((gI h5 0 38)) h5) (fun h6 => some (r4, h6))))))
set_option maxRecDepth 100000 in
theorem tX12_morning {r : Int32} {h h0 : HS} (H : fX12_morning h = some (r, h0)) : Cn skM yX12_morning cX12_morning 2 (some .int) 225 [.ref 0] h (some (.int r)) h0 := by
  refine Cn_of (L := [some (.ref 0), none]) (by decide +kernel) (by simp [lg_sl, Value.category]) (fun ad => by simp [lg_sl, tv, Value.category]) (⟨rfl, trivial⟩) ?_
  unfold fX12_morning at H
  refine j_aload_n (pc := 0) dX12_morning_0 rfl ?_
  refine j_iconst (pc := 1) (v := 0) dX12_morning_1 (by decide) ?_
  obtain ⟨h1, eh1, H⟩ := nm_x H
  refine j_putI (pc := 2) dX12_morning_2 fpX12_133 rfl h1 eh1 ?_
  refine j_aload_n (pc := 5) dX12_morning_5 rfl ?_
  refine j_iconst (pc := 6) (v := 0) dX12_morning_6 (by decide) ?_
  obtain ⟨h2, eh2, H⟩ := nm_x H
  refine j_putI (pc := 7) dX12_morning_7 fpX12_136 rfl h2 eh2 ?_
  refine j_aload_n (pc := 10) dX12_morning_10 rfl ?_
  refine j_iconst (pc := 11) (v := 1) dX12_morning_11 (by decide) ?_
  obtain ⟨r4, h3, eh3, H⟩ := bd_x H
  refine j_callV (pc := 12) dX12_morning_12 mlX12_288 wyX12_doMorning (tX12_doMorning eh3) (by decide) rfl rfl rfl rfl (by simp [Value.category]) rfl ?_
  refine j_istore_n (pc := 15) (L' := [some (.ref 0), some (.int r4)]) dX12_morning_15 (by decide) rfl ?_
  refine j_aload_n (pc := 16) dX12_morning_16 rfl ?_
  refine j_aload_n (pc := 17) dX12_morning_17 rfl ?_
  refine j_getI (pc := 18) dX12_morning_18 flX12_278 rfl ?_
  obtain ⟨h5, eh5, H⟩ := bv_x H
  refine j_callV (pc := 21) dX12_morning_21 mlX12_210 wyX12_tell (tX12_tell eh5) (by decide) rfl rfl rfl rfl (by simp [Value.category]) rfl ?_
  refine j_aload_n (pc := 24) dX12_morning_24 rfl ?_
  refine j_aload_n (pc := 25) dX12_morning_25 rfl ?_
  refine j_getI (pc := 26) dX12_morning_26 flX12_281 rfl ?_
  obtain ⟨h6, eh6, H⟩ := bv_x H
  refine j_callV (pc := 29) dX12_morning_29 mlX12_210 wyX12_tell (tX12_tell eh6) (by decide) rfl rfl rfl rfl (by simp [Value.category]) rfl ?_
  refine j_iload_n (pc := 32) dX12_morning_32 rfl ?_
  exact j_ireturn (pc := 33) dX12_morning_33 rfl (ri_1 H) (ri_2 H)

noncomputable def fX12_goBy_2 : Nat → Int32 → HS → Option HS
  | 0, _, _ => none
  | n + 1, v1, h => if (gI h 0 0) ≤ v1 then (nm (pI h 0 16 ((gI h 0 16) + (1 : Int32))) (fun h2 => some h2)) else (ck (inb v1 15) (if (gI h 1 v1.toNatClampNeg) = (1 : Int32) then (ck (inb v1 15) (ck (inb v1 15) (nm ((imin (gI h 30 v1.toNatClampNeg) (gI h 5 v1.toNatClampNeg))) (fun v2_7 => ck (inb v1 15) (ck (inb v1 15) (nm (pI h 5 v1.toNatClampNeg ((gI h 5 v1.toNatClampNeg) - v2_7)) (fun h9 => ck (inb v1 15) (nm ((gI h9 32 v1.toNatClampNeg)) (fun v3_12 => if v3_12 = (-1 : Int32) then (nm (v1 + (1 : Int32)) (fun v1_14 => fX12_goBy_2 n v1_14 h9)) else (ck (inb v3_12 15) (bd (fX12_roomOf v3_12 h9) (fun r17 h16 => ck (inb v1 15) (ck (inb v3_12 15) (nm (pI h16 5 v3_12.toNatClampNeg ((gI h9 5 v3_12.toNatClampNeg) + (imin r17 ((v2_7 * (gI h16 31 v1.toNatClampNeg)) / (100 : Int32))))) (fun h19 => nm (v1 + (1 : Int32)) (fun v1_21 => fX12_goBy_2 n v1_21 h19)))))))))))))))) else (nm (v1 + (1 : Int32)) (fun v1_22 => fX12_goBy_2 n v1_22 h))))
set_option maxRecDepth 100000 in
theorem jX12_goBy_2 {h0 : HS} : ∀ (n : Nat) (v1 : Int32) (h : HS), fX12_goBy_2 n v1 h = some h0 → Jx skM RX12 cX12_goBy 4 none 1 none h0 2 [some (.ref 0), some (.int v1), none, none] [] h := by
  intro n
  induction n with
  | zero => intro v1  h H; cases H
  | succ n ih =>
    intro v1  h H
    rw [fX12_goBy_2] at H
    refine j_iload_n (pc := 2) dX12_goBy_2 rfl ?_
    refine j_aload_n (pc := 3) dX12_goBy_3 rfl ?_
    refine j_getI (pc := 4) dX12_goBy_4 flX12_139 rfl ?_
    refine j_icmp_ge (pc := 7) (tgt := 95) dX12_goBy_7 (by decide) (fun c1 => ?_) (fun c1 => ?_)
    · rw [if_pos c1] at H
      refine j_aload_n (pc := 95) dX12_goBy_95 rfl ?_
      refine j_dup (pc := 96) dX12_goBy_96 rfl ?_
      refine j_getI (pc := 97) dX12_goBy_97 flX12_262 rfl ?_
      refine j_iconst (pc := 100) (v := 1) dX12_goBy_100 (by decide) ?_
      refine j_iadd (pc := 101) dX12_goBy_101 ?_
      obtain ⟨h2, eh2, H⟩ := nm_x H
      refine j_putI (pc := 102) dX12_goBy_102 fpX12_262 rfl h2 eh2 ?_
      exact j_return (pc := 105) dX12_goBy_105 rfl rfl (rv_2 H)
    · rw [if_neg c1] at H
      refine j_aload_n (pc := 10) dX12_goBy_10 rfl ?_
      refine j_getR (pc := 11) (b := 1) dX12_goBy_11 flX12_9 rfl ?_
      refine j_iload_n (pc := 14) dX12_goBy_14 rfl ?_
      obtain ⟨b3, H⟩ := ck_x H
      refine j_iaload (pc := 15) dX12_goBy_15 rfl b3 rfl ?_
      refine j_iconst (pc := 16) (v := 1) dX12_goBy_16 (by decide) ?_
      refine j_icmp_eq (pc := 17) (tgt := 23) dX12_goBy_17 (by decide) (fun c4 => ?_) (fun c4 => ?_)
      · rw [if_pos c4] at H
        refine j_aload_n (pc := 23) dX12_goBy_23 rfl ?_
        refine j_getR (pc := 24) (b := 30) dX12_goBy_24 flX12_106 rfl ?_
        refine j_iload_n (pc := 27) dX12_goBy_27 rfl ?_
        obtain ⟨b5, H⟩ := ck_x H
        refine j_iaload (pc := 28) dX12_goBy_28 rfl b5 rfl ?_
        refine j_aload_n (pc := 29) dX12_goBy_29 rfl ?_
        refine j_getR (pc := 30) (b := 5) dX12_goBy_30 flX12_22 rfl ?_
        refine j_iload_n (pc := 33) dX12_goBy_33 rfl ?_
        obtain ⟨b6, H⟩ := ck_x H
        refine j_iaload (pc := 34) dX12_goBy_34 rfl b6 rfl ?_
        refine j_mmin (pc := 35) dX12_goBy_35 wmX12_153 (by simp [Value.category]) ?_
        obtain ⟨v2_7, ev2_7, H⟩ := nm_x H
        refine j_topi ev2_7 ?_
        refine j_istore_n (pc := 38) (L' := [some (.ref 0), some (.int v1), some (.int v2_7), none]) dX12_goBy_38 (by decide) rfl ?_
        refine j_aload_n (pc := 39) dX12_goBy_39 rfl ?_
        refine j_getR (pc := 40) (b := 5) dX12_goBy_40 flX12_22 rfl ?_
        refine j_iload_n (pc := 43) dX12_goBy_43 rfl ?_
        refine j_dup2 (pc := 44) dX12_goBy_44 rfl rfl ?_
        obtain ⟨b8, H⟩ := ck_x H
        refine j_iaload (pc := 45) dX12_goBy_45 rfl b8 rfl ?_
        refine j_iload_n (pc := 46) dX12_goBy_46 rfl ?_
        refine j_isub (pc := 47) dX12_goBy_47 ?_
        obtain ⟨b10, H⟩ := ck_x H
        obtain ⟨h9, eh9, H⟩ := nm_x H
        refine j_iastore (pc := 48) dX12_goBy_48 rfl b10 rfl h9 eh9 ?_
        refine j_aload_n (pc := 49) dX12_goBy_49 rfl ?_
        refine j_getR (pc := 50) (b := 32) dX12_goBy_50 flX12_112 rfl ?_
        refine j_iload_n (pc := 53) dX12_goBy_53 rfl ?_
        obtain ⟨b11, H⟩ := ck_x H
        refine j_iaload (pc := 54) dX12_goBy_54 rfl b11 rfl ?_
        obtain ⟨v3_12, ev3_12, H⟩ := nm_x H
        refine j_topi ev3_12 ?_
        refine j_istore_n (pc := 55) (L' := [some (.ref 0), some (.int v1), some (.int v2_7), some (.int v3_12)]) dX12_goBy_55 (by decide) rfl ?_
        refine j_iload_n (pc := 56) dX12_goBy_56 rfl ?_
        refine j_iconst (pc := 57) (v := -1) dX12_goBy_57 (by decide) ?_
        refine j_icmp_eq (pc := 58) (tgt := 89) dX12_goBy_58 (by decide) (fun c13 => ?_) (fun c13 => ?_)
        · rw [if_pos c13] at H
          obtain ⟨v1_14, ev1_14, H⟩ := nm_x H
          refine j_iinc (pc := 89) (L' := [some (.ref 0), some (.int v1_14), some (.int v2_7), some (.int v3_12)]) (w := 1) dX12_goBy_89 rfl (by decide) (by decide) v1_14 ev1_14 rfl ?_
          refine j_goto (pc := 92) (tgt := 2) dX12_goBy_92 (by decide) ?_
          refine Jx.sub (L' := [some (.ref 0), some (.int v1_14), none, none]) (⟨rfl, ⟨rfl, trivial⟩⟩) ?_
          exact ih v1_14 h9 H
        · rw [if_neg c13] at H
          refine j_aload_n (pc := 61) dX12_goBy_61 rfl ?_
          refine j_getR (pc := 62) (b := 5) dX12_goBy_62 flX12_22 rfl ?_
          refine j_iload_n (pc := 65) dX12_goBy_65 rfl ?_
          refine j_dup2 (pc := 66) dX12_goBy_66 rfl rfl ?_
          obtain ⟨b15, H⟩ := ck_x H
          refine j_iaload (pc := 67) dX12_goBy_67 rfl b15 rfl ?_
          refine j_aload_n (pc := 68) dX12_goBy_68 rfl ?_
          refine j_iload_n (pc := 69) dX12_goBy_69 rfl ?_
          obtain ⟨r17, h16, eh16, H⟩ := bd_x H
          refine j_callV (pc := 70) dX12_goBy_70 mlX12_307 wyX12_roomOf (tX12_roomOf eh16) (by decide) rfl rfl rfl rfl (by simp [Value.category]) rfl ?_
          refine j_iload_n (pc := 73) dX12_goBy_73 rfl ?_
          refine j_aload_n (pc := 74) dX12_goBy_74 rfl ?_
          refine j_getR (pc := 75) (b := 31) dX12_goBy_75 flX12_109 rfl ?_
          refine j_iload_n (pc := 78) dX12_goBy_78 rfl ?_
          obtain ⟨b18, H⟩ := ck_x H
          refine j_iaload (pc := 79) dX12_goBy_79 rfl b18 rfl ?_
          refine j_imul (pc := 80) dX12_goBy_80 ?_
          refine j_bipush (pc := 81) (v := 100) dX12_goBy_81 (by decide) ?_
          refine j_idiv (pc := 83) dX12_goBy_83 (by decide) ?_
          refine j_mmin (pc := 84) dX12_goBy_84 wmX12_153 (by simp [Value.category]) ?_
          refine j_iadd (pc := 87) dX12_goBy_87 ?_
          obtain ⟨b20, H⟩ := ck_x H
          obtain ⟨h19, eh19, H⟩ := nm_x H
          refine j_iastore (pc := 88) dX12_goBy_88 rfl b20 rfl h19 eh19 ?_
          obtain ⟨v1_21, ev1_21, H⟩ := nm_x H
          refine j_iinc (pc := 89) (L' := [some (.ref 0), some (.int v1_21), some (.int v2_7), some (.int v3_12)]) (w := 1) dX12_goBy_89 rfl (by decide) (by decide) v1_21 ev1_21 rfl ?_
          refine j_goto (pc := 92) (tgt := 2) dX12_goBy_92 (by decide) ?_
          refine Jx.sub (L' := [some (.ref 0), some (.int v1_21), none, none]) (⟨rfl, ⟨rfl, trivial⟩⟩) ?_
          exact ih v1_21 h19 H
      · rw [if_neg c4] at H
        refine j_goto (pc := 20) (tgt := 89) dX12_goBy_20 (by decide) ?_
        obtain ⟨v1_22, ev1_22, H⟩ := nm_x H
        refine j_iinc (pc := 89) (L' := [some (.ref 0), some (.int v1_22), none, none]) (w := 1) dX12_goBy_89 rfl (by decide) (by decide) v1_22 ev1_22 rfl ?_
        refine j_goto (pc := 92) (tgt := 2) dX12_goBy_92 (by decide) ?_
        refine Jx.sub (L' := [some (.ref 0), some (.int v1_22), none, none]) (⟨rfl, ⟨rfl, trivial⟩⟩) ?_
        exact ih v1_22 h H
noncomputable def fX12_goBy (h : HS) : Option HS := fX12_goBy_2 FU (0 : Int32) h
set_option maxRecDepth 100000 in
theorem tX12_goBy {h h0 : HS} (H : fX12_goBy h = some h0) : Cn skM yX12_goBy cX12_goBy 4 none 1 [.ref 0] h none h0 := by
  refine Cn_of (L := [some (.ref 0), none, none, none]) (by decide +kernel) (by simp [lg_sl, Value.category]) (fun ad => by simp [lg_sl, tv, Value.category]) (⟨rfl, trivial⟩) ?_
  unfold fX12_goBy at H
  refine j_iconst (pc := 0) (v := 0) dX12_goBy_0 (by decide) ?_
  refine j_istore_n (pc := 1) (L' := [some (.ref 0), some (.int (0 : Int32)), none, none]) dX12_goBy_1 (by decide) rfl ?_
  refine Jx.sub (L' := [some (.ref 0), some (.int (0 : Int32)), none, none]) (⟨rfl, ⟨rfl, trivial⟩⟩) ?_
  exact jX12_goBy_2 FU (0 : Int32) h H

noncomputable def fX12_holds_100 (v2 : Int32) (v3 : Int32) (h : HS) : Option (Int32 × HS) := bv (fX12_pop h) (fun h24 => nm (pI h24 0 16 v2) (fun h25 => some (v3, h25)))
set_option maxRecDepth 100000 in
theorem jX12_holds_100 {r : Int32} {h0 : HS} (v2 : Int32) (v3 : Int32) (h : HS) (H : fX12_holds_100 v2 v3 h = some (r, h0)) : Jx skM RX12 cX12_holds 5 (some .int) 225 (some (.int r)) h0 100 [some (.ref 0), none, some (.int v2), some (.int v3), none] [] h := by
  unfold fX12_holds_100 at H
  refine j_aload_n (pc := 100) dX12_holds_100 rfl ?_
  obtain ⟨h24, eh24, H⟩ := bv_x H
  refine j_callV (pc := 101) dX12_holds_101 mlX12_298 wyX12_pop (tX12_pop eh24) (by decide) rfl rfl rfl rfl (by simp [Value.category]) rfl ?_
  refine j_aload_n (pc := 104) dX12_holds_104 rfl ?_
  refine j_iload_n (pc := 105) dX12_holds_105 rfl ?_
  obtain ⟨h25, eh25, H⟩ := nm_x H
  refine j_putI (pc := 106) dX12_holds_106 fpX12_262 rfl h25 eh25 ?_
  refine j_iload_n (pc := 109) dX12_holds_109 rfl ?_
  exact j_ireturn (pc := 110) dX12_holds_110 rfl (ri_1 H) (ri_2 H)
noncomputable def fX12_holds_90 (k29 : Int32 → Int32 → Int32 → Int32 → HS → Option (Int32 × HS)) (v1 : Int32) (v2 : Int32) (v3 : Int32) (v4 : Int32) (h : HS) : Option (Int32 × HS) := bv (fX12_goBy h) (fun h26 => nm (v4 + (1 : Int32)) (fun v4_27 => k29 v1 v2 v3 v4_27 h26))
set_option maxRecDepth 100000 in
theorem jX12_holds_90 {r : Int32} {h0 : HS} (k29 : Int32 → Int32 → Int32 → Int32 → HS → Option (Int32 × HS)) (hk29 : ∀ (v1 : Int32) (v2 : Int32) (v3 : Int32) (v4 : Int32) (h : HS), k29 v1 v2 v3 v4 h = some (r, h0) → Jx skM RX12 cX12_holds 5 (some .int) 225 (some (.int r)) h0 29 [some (.ref 0), some (.int v1), some (.int v2), some (.int v3), some (.int v4)] [] h) (v1 : Int32) (v2 : Int32) (v3 : Int32) (v4 : Int32) (h : HS) (H : fX12_holds_90 k29 v1 v2 v3 v4 h = some (r, h0)) : Jx skM RX12 cX12_holds 5 (some .int) 225 (some (.int r)) h0 90 [some (.ref 0), some (.int v1), some (.int v2), some (.int v3), some (.int v4)] [] h := by
  unfold fX12_holds_90 at H
  refine j_aload_n (pc := 90) dX12_holds_90 rfl ?_
  obtain ⟨h26, eh26, H⟩ := bv_x H
  refine j_callV (pc := 91) dX12_holds_91 mlX12_295 wyX12_goBy (tX12_goBy eh26) (by decide) rfl rfl rfl rfl (by simp [Value.category]) rfl ?_
  obtain ⟨v4_27, ev4_27, H⟩ := nm_x H
  refine j_iinc (pc := 94) (L' := [some (.ref 0), some (.int v1), some (.int v2), some (.int v3), some (.int v4_27)]) (w := 1) dX12_holds_94 rfl (by decide) (by decide) v4_27 ev4_27 rfl ?_
  refine j_goto (pc := 97) (tgt := 29) dX12_holds_97 (by decide) ?_
  refine Jx.sub (L' := [some (.ref 0), some (.int v1), some (.int v2), some (.int v3), some (.int v4_27)]) (⟨rfl, ⟨rfl, ⟨rfl, ⟨rfl, ⟨rfl, trivial⟩⟩⟩⟩⟩) ?_
  exact hk29 v1 v2 v3 v4_27 h26 H
noncomputable def fX12_holds_29 : Nat → Int32 → Int32 → Int32 → Int32 → HS → Option (Int32 × HS)
  | 0, _, _, _, _, _ => none
  | n + 1, v1, v2, v3, v4, h => if (400 : Int32) < v4 then (fX12_holds_100 v2 v3 h) else (if 0 ≤ v3 then (fX12_holds_100 v2 v3 h) else (bd (fX12_doMorning (0 : Int32) h) (fun r10 h9 => bd (fX12_isBalanced v1 h9) (fun r12 h11 => if r12 = 0 then (nm (pI h11 0 21 (0 : Int32)) (fun h14 => bd (fX12_heavyAt v1 h14) (fun r16 h15 => bv (fX12_tell r16 h15) (fun h17 => bd (fX12_momentOf (0 : Int32) h17) (fun r19 h18 => bv (fX12_tell r19 h18) (fun h20 => bd (fX12_momentOf (1 : Int32) h20) (fun r22 h21 => bv (fX12_tell r22 h21) (fun h23 => fX12_holds_90 (fX12_holds_29 n) v1 v2 v4 v4 h23)))))))) else (fX12_holds_90 (fX12_holds_29 n) v1 v2 v3 v4 h11)))))
set_option maxRecDepth 100000 in
theorem jX12_holds_29 {r : Int32} {h0 : HS} : ∀ (n : Nat) (v1 : Int32) (v2 : Int32) (v3 : Int32) (v4 : Int32) (h : HS), fX12_holds_29 n v1 v2 v3 v4 h = some (r, h0) → Jx skM RX12 cX12_holds 5 (some .int) 225 (some (.int r)) h0 29 [some (.ref 0), some (.int v1), some (.int v2), some (.int v3), some (.int v4)] [] h := by
  intro n
  induction n with
  | zero => intro v1 v2 v3 v4  h H; cases H
  | succ n ih =>
    intro v1 v2 v3 v4  h H
    rw [fX12_holds_29] at H
    refine j_iload (pc := 29) dX12_holds_29 rfl ?_
    refine j_sipush (pc := 31) (v := 400) dX12_holds_31 (by decide) ?_
    refine j_icmp_gt (pc := 34) (tgt := 100) dX12_holds_34 (by decide) (fun c7 => ?_) (fun c7 => ?_)
    · rw [if_pos c7] at H
      refine Jx.sub (L' := [some (.ref 0), none, some (.int v2), some (.int v3), none]) (⟨rfl, ⟨rfl, ⟨rfl, trivial⟩⟩⟩) ?_
      exact jX12_holds_100 v2 v3 h H
    · rw [if_neg c7] at H
      refine j_iload_n (pc := 37) dX12_holds_37 rfl ?_
      refine j_if_ge (pc := 38) (tgt := 100) dX12_holds_38 (by decide) (fun c8 => ?_) (fun c8 => ?_)
      · rw [if_pos c8] at H
        refine Jx.sub (L' := [some (.ref 0), none, some (.int v2), some (.int v3), none]) (⟨rfl, ⟨rfl, ⟨rfl, trivial⟩⟩⟩) ?_
        exact jX12_holds_100 v2 v3 h H
      · rw [if_neg c8] at H
        refine j_aload_n (pc := 41) dX12_holds_41 rfl ?_
        refine j_iconst (pc := 42) (v := 0) dX12_holds_42 (by decide) ?_
        obtain ⟨r10, h9, eh9, H⟩ := bd_x H
        refine j_callV (pc := 43) dX12_holds_43 mlX12_288 wyX12_doMorning (tX12_doMorning eh9) (by decide) rfl rfl rfl rfl (by simp [Value.category]) rfl ?_
        refine j_pop (pc := 46) dX12_holds_46 rfl ?_
        refine j_aload_n (pc := 47) dX12_holds_47 rfl ?_
        refine j_iload_n (pc := 48) dX12_holds_48 rfl ?_
        obtain ⟨r12, h11, eh11, H⟩ := bd_x H
        refine j_callV (pc := 49) dX12_holds_49 mlX12_207 wyX12_isBalanced (tX12_isBalanced eh11) (by decide) rfl rfl rfl rfl (by simp [Value.category]) rfl ?_
        refine j_if_ne (pc := 52) (tgt := 90) dX12_holds_52 (by decide) (fun c13 => ?_) (fun c13 => ?_)
        · rw [if_neg c13] at H
          refine Jx.sub (L' := [some (.ref 0), some (.int v1), some (.int v2), some (.int v3), some (.int v4)]) (⟨rfl, ⟨rfl, ⟨rfl, ⟨rfl, ⟨rfl, trivial⟩⟩⟩⟩⟩) ?_
          exact jX12_holds_90 _ ih v1 v2 v3 v4 h11 H
        · rw [if_pos c13] at H
          refine j_iload (pc := 55) dX12_holds_55 rfl ?_
          refine j_istore_n (pc := 57) (L' := [some (.ref 0), some (.int v1), some (.int v2), some (.int v4), some (.int v4)]) dX12_holds_57 (by decide) rfl ?_
          refine j_aload_n (pc := 58) dX12_holds_58 rfl ?_
          refine j_iconst (pc := 59) (v := 0) dX12_holds_59 (by decide) ?_
          obtain ⟨h14, eh14, H⟩ := nm_x H
          refine j_putI (pc := 60) dX12_holds_60 fpX12_136 rfl h14 eh14 ?_
          refine j_aload_n (pc := 63) dX12_holds_63 rfl ?_
          refine j_aload_n (pc := 64) dX12_holds_64 rfl ?_
          refine j_iload_n (pc := 65) dX12_holds_65 rfl ?_
          obtain ⟨r16, h15, eh15, H⟩ := bd_x H
          refine j_callV (pc := 66) dX12_holds_66 mlX12_198 wyX12_heavyAt (tX12_heavyAt eh15) (by decide) rfl rfl rfl rfl (by simp [Value.category]) rfl ?_
          obtain ⟨h17, eh17, H⟩ := bv_x H
          refine j_callV (pc := 69) dX12_holds_69 mlX12_210 wyX12_tell (tX12_tell eh17) (by decide) rfl rfl rfl rfl (by simp [Value.category]) rfl ?_
          refine j_aload_n (pc := 72) dX12_holds_72 rfl ?_
          refine j_aload_n (pc := 73) dX12_holds_73 rfl ?_
          refine j_iconst (pc := 74) (v := 0) dX12_holds_74 (by decide) ?_
          obtain ⟨r19, h18, eh18, H⟩ := bd_x H
          refine j_callV (pc := 75) dX12_holds_75 mlX12_204 wyX12_momentOf (tX12_momentOf eh18) (by decide) rfl rfl rfl rfl (by simp [Value.category]) rfl ?_
          obtain ⟨h20, eh20, H⟩ := bv_x H
          refine j_callV (pc := 78) dX12_holds_78 mlX12_210 wyX12_tell (tX12_tell eh20) (by decide) rfl rfl rfl rfl (by simp [Value.category]) rfl ?_
          refine j_aload_n (pc := 81) dX12_holds_81 rfl ?_
          refine j_aload_n (pc := 82) dX12_holds_82 rfl ?_
          refine j_iconst (pc := 83) (v := 1) dX12_holds_83 (by decide) ?_
          obtain ⟨r22, h21, eh21, H⟩ := bd_x H
          refine j_callV (pc := 84) dX12_holds_84 mlX12_204 wyX12_momentOf (tX12_momentOf eh21) (by decide) rfl rfl rfl rfl (by simp [Value.category]) rfl ?_
          obtain ⟨h23, eh23, H⟩ := bv_x H
          refine j_callV (pc := 87) dX12_holds_87 mlX12_210 wyX12_tell (tX12_tell eh23) (by decide) rfl rfl rfl rfl (by simp [Value.category]) rfl ?_
          refine Jx.sub (L' := [some (.ref 0), some (.int v1), some (.int v2), some (.int v4), some (.int v4)]) (⟨rfl, ⟨rfl, ⟨rfl, ⟨rfl, ⟨rfl, trivial⟩⟩⟩⟩⟩) ?_
          exact jX12_holds_90 _ ih v1 v2 v4 v4 h23 H
noncomputable def fX12_holds (p1 : Int32) (h : HS) : Option (Int32 × HS) := nm (pI h 0 22 (0 : Int32)) (fun h1 => bd (fX12_isDepth p1 h1) (fun r3 h2 => if r3 = 0 then (some ((-1 : Int32), h2)) else (nm ((gI h2 0 16)) (fun v2_5 => bv (fX12_push h2) (fun h6 => fX12_holds_29 FU p1 v2_5 (-2 : Int32) (0 : Int32) h6)))))
set_option maxRecDepth 100000 in
theorem tX12_holds {p1 : Int32} {r : Int32} {h h0 : HS} (H : fX12_holds p1 h = some (r, h0)) : Cn skM yX12_holds cX12_holds 5 (some .int) 225 [.ref 0, .int p1] h (some (.int r)) h0 := by
  refine Cn_of (L := [some (.ref 0), some (.int p1), none, none, none]) (by decide +kernel) (by simp [lg_sl, Value.category]) (fun ad => by simp [lg_sl, tv, Value.category]) (⟨rfl, ⟨rfl, trivial⟩⟩) ?_
  unfold fX12_holds at H
  refine j_aload_n (pc := 0) dX12_holds_0 rfl ?_
  refine j_iconst (pc := 1) (v := 0) dX12_holds_1 (by decide) ?_
  obtain ⟨h1, eh1, H⟩ := nm_x H
  refine j_putI (pc := 2) dX12_holds_2 fpX12_133 rfl h1 eh1 ?_
  refine j_iload_n (pc := 5) dX12_holds_5 rfl ?_
  obtain ⟨r3, h2, eh2, H⟩ := bd_x H
  refine j_callS (pc := 6) dX12_holds_6 mlX12_178 wyX12_isDepth (tX12_isDepth eh2) (by decide) rfl (by simp [Value.category]) rfl ?_
  refine j_if_ne (pc := 9) (tgt := 14) dX12_holds_9 (by decide) (fun c4 => ?_) (fun c4 => ?_)
  · rw [if_neg c4] at H
    refine j_aload_n (pc := 14) dX12_holds_14 rfl ?_
    refine j_getI (pc := 15) dX12_holds_15 flX12_262 rfl ?_
    obtain ⟨v2_5, ev2_5, H⟩ := nm_x H
    refine j_topi ev2_5 ?_
    refine j_istore_n (pc := 18) (L' := [some (.ref 0), some (.int p1), some (.int v2_5), none, none]) dX12_holds_18 (by decide) rfl ?_
    refine j_bipush (pc := 19) (v := -2) dX12_holds_19 (by decide) ?_
    refine j_istore_n (pc := 21) (L' := [some (.ref 0), some (.int p1), some (.int v2_5), some (.int (-2 : Int32)), none]) dX12_holds_21 (by decide) rfl ?_
    refine j_aload_n (pc := 22) dX12_holds_22 rfl ?_
    obtain ⟨h6, eh6, H⟩ := bv_x H
    refine j_callV (pc := 23) dX12_holds_23 mlX12_292 wyX12_push (tX12_push eh6) (by decide) rfl rfl rfl rfl (by simp [Value.category]) rfl ?_
    refine j_iconst (pc := 26) (v := 0) dX12_holds_26 (by decide) ?_
    refine j_istore (pc := 27) (L' := [some (.ref 0), some (.int p1), some (.int v2_5), some (.int (-2 : Int32)), some (.int (0 : Int32))]) dX12_holds_27 (by decide) rfl ?_
    refine Jx.sub (L' := [some (.ref 0), some (.int p1), some (.int v2_5), some (.int (-2 : Int32)), some (.int (0 : Int32))]) (⟨rfl, ⟨rfl, ⟨rfl, ⟨rfl, ⟨rfl, trivial⟩⟩⟩⟩⟩) ?_
    exact jX12_holds_29 FU p1 v2_5 (-2 : Int32) (0 : Int32) h6 H
  · rw [if_pos c4] at H
    refine j_iconst (pc := 12) (v := -1) dX12_holds_12 (by decide) ?_
    exact j_ireturn (pc := 13) dX12_holds_13 rfl (ri_1 H) (ri_2 H)

noncomputable def fX12_liar_175 (k25 : Int32 → Int32 → Int32 → Int32 → Int32 → Int32 → HS → Option (Int32 × HS)) (v1 : Int32) (v2 : Int32) (v3 : Int32) (v4 : Int32) (v6 : Int32) (s1 : Int32) (s0 : Int32) (h : HS) : Option (Int32 × HS) := nm ((s0 ||| s1)) (fun v5_27 => nm (v6 + (1 : Int32)) (fun v6_28 => k25 v1 v2 v3 v4 v5_27 v6_28 h))
set_option maxRecDepth 100000 in
theorem jX12_liar_175 {r : Int32} {h0 : HS} (k25 : Int32 → Int32 → Int32 → Int32 → Int32 → Int32 → HS → Option (Int32 × HS)) (hk25 : ∀ (v1 : Int32) (v2 : Int32) (v3 : Int32) (v4 : Int32) (v5 : Int32) (v6 : Int32) (h : HS), k25 v1 v2 v3 v4 v5 v6 h = some (r, h0) → Jx skM RX12 cX12_liar 12 (some .int) 3 (some (.int r)) h0 25 [some (.ref 0), some (.int v1), some (.int v2), some (.int v3), some (.int v4), some (.int v5), some (.int v6), none, none, none, none, none] [] h) (v1 : Int32) (v2 : Int32) (v3 : Int32) (v4 : Int32) (v6 : Int32) (s1 : Int32) (s0 : Int32) (h : HS) (H : fX12_liar_175 k25 v1 v2 v3 v4 v6 s1 s0 h = some (r, h0)) : Jx skM RX12 cX12_liar 12 (some .int) 3 (some (.int r)) h0 175 [some (.ref 0), some (.int v1), some (.int v2), some (.int v3), some (.int v4), none, some (.int v6), none, none, none, none, none] [.int s1, .int s0] h := by
  unfold fX12_liar_175 at H
  refine j_ior (pc := 175) dX12_liar_175 ?_
  obtain ⟨v5_27, ev5_27, H⟩ := nm_x H
  refine j_topi ev5_27 ?_
  refine j_istore (pc := 176) (L' := [some (.ref 0), some (.int v1), some (.int v2), some (.int v3), some (.int v4), some (.int v5_27), some (.int v6), none, none, none, none, none]) dX12_liar_176 (by decide) rfl ?_
  obtain ⟨v6_28, ev6_28, H⟩ := nm_x H
  refine j_iinc (pc := 178) (L' := [some (.ref 0), some (.int v1), some (.int v2), some (.int v3), some (.int v4), some (.int v5_27), some (.int v6_28), none, none, none, none, none]) (w := 1) dX12_liar_178 rfl (by decide) (by decide) v6_28 ev6_28 rfl ?_
  refine j_goto (pc := 181) (tgt := 25) dX12_liar_181 (by decide) ?_
  refine Jx.sub (L' := [some (.ref 0), some (.int v1), some (.int v2), some (.int v3), some (.int v4), some (.int v5_27), some (.int v6_28), none, none, none, none, none]) (⟨rfl, ⟨rfl, ⟨rfl, ⟨rfl, ⟨rfl, ⟨rfl, ⟨rfl, trivial⟩⟩⟩⟩⟩⟩⟩) ?_
  exact hk25 v1 v2 v3 v4 v5_27 v6_28 h H
noncomputable def fX12_liar_157 (k25 : Int32 → Int32 → Int32 → Int32 → Int32 → Int32 → HS → Option (Int32 × HS)) (v1 : Int32) (v2 : Int32) (v3 : Int32) (v4 : Int32) (v5 : Int32) (v6 : Int32) (v11 : Int32) (s1 : Int32) (h : HS) : Option (Int32 × HS) := bv (fX12_tell s1 h) (fun h25 => if v11 = 0 then (fX12_liar_175 k25 v1 v2 v3 v4 v6 (0 : Int32) v5 h25) else (fX12_liar_175 k25 v1 v2 v3 v4 v6 (((1 : Int32) <<< (v6 &&& 31))) v5 h25))
set_option maxRecDepth 100000 in
theorem jX12_liar_157 {r : Int32} {h0 : HS} (k25 : Int32 → Int32 → Int32 → Int32 → Int32 → Int32 → HS → Option (Int32 × HS)) (hk25 : ∀ (v1 : Int32) (v2 : Int32) (v3 : Int32) (v4 : Int32) (v5 : Int32) (v6 : Int32) (h : HS), k25 v1 v2 v3 v4 v5 v6 h = some (r, h0) → Jx skM RX12 cX12_liar 12 (some .int) 3 (some (.int r)) h0 25 [some (.ref 0), some (.int v1), some (.int v2), some (.int v3), some (.int v4), some (.int v5), some (.int v6), none, none, none, none, none] [] h) (v1 : Int32) (v2 : Int32) (v3 : Int32) (v4 : Int32) (v5 : Int32) (v6 : Int32) (v11 : Int32) (s1 : Int32) (h : HS) (H : fX12_liar_157 k25 v1 v2 v3 v4 v5 v6 v11 s1 h = some (r, h0)) : Jx skM RX12 cX12_liar 12 (some .int) 3 (some (.int r)) h0 157 [some (.ref 0), some (.int v1), some (.int v2), some (.int v3), some (.int v4), some (.int v5), some (.int v6), none, none, none, none, some (.int v11)] [.int s1, .ref 0] h := by
  unfold fX12_liar_157 at H
  obtain ⟨h25, eh25, H⟩ := bv_x H
  refine j_callV (pc := 157) dX12_liar_157 mlX12_210 wyX12_tell (tX12_tell eh25) (by decide) rfl rfl rfl rfl (by simp [Value.category]) rfl ?_
  refine j_iload (pc := 160) dX12_liar_160 rfl ?_
  refine j_iload (pc := 162) dX12_liar_162 rfl ?_
  refine j_if_eq (pc := 164) (tgt := 174) dX12_liar_164 (by decide) (fun c26 => ?_) (fun c26 => ?_)
  · rw [if_pos c26] at H
    refine j_iconst (pc := 174) (v := 0) dX12_liar_174 (by decide) ?_
    refine Jx.sub (L' := [some (.ref 0), some (.int v1), some (.int v2), some (.int v3), some (.int v4), none, some (.int v6), none, none, none, none, none]) (⟨rfl, ⟨rfl, ⟨rfl, ⟨rfl, ⟨rfl, ⟨rfl, trivial⟩⟩⟩⟩⟩⟩) ?_
    exact jX12_liar_175 _ hk25 v1 v2 v3 v4 v6 (0 : Int32) v5 h25 H
  · rw [if_neg c26] at H
    refine j_iconst (pc := 167) (v := 1) dX12_liar_167 (by decide) ?_
    refine j_iload (pc := 168) dX12_liar_168 rfl ?_
    refine j_ishl (pc := 170) dX12_liar_170 ?_
    refine j_goto (pc := 171) (tgt := 175) dX12_liar_171 (by decide) ?_
    refine Jx.sub (L' := [some (.ref 0), some (.int v1), some (.int v2), some (.int v3), some (.int v4), none, some (.int v6), none, none, none, none, none]) (⟨rfl, ⟨rfl, ⟨rfl, ⟨rfl, ⟨rfl, ⟨rfl, trivial⟩⟩⟩⟩⟩⟩) ?_
    exact jX12_liar_175 _ hk25 v1 v2 v3 v4 v6 (((1 : Int32) <<< (v6 &&& 31))) v5 h25 H
noncomputable def fX12_liar_142 (k25 : Int32 → Int32 → Int32 → Int32 → Int32 → Int32 → HS → Option (Int32 × HS)) (v1 : Int32) (v2 : Int32) (v3 : Int32) (v4 : Int32) (v5 : Int32) (v6 : Int32) (v7 : Int64) (s0 : Int32) (h : HS) : Option (Int32 × HS) := if s0 = 0 then (fX12_liar_157 k25 v1 v2 v3 v4 v5 v6 s0 (-1 : Int32) h) else (fX12_liar_157 k25 v1 v2 v3 v4 v5 v6 s0 ((v7.toInt32)) h)
set_option maxRecDepth 100000 in
theorem jX12_liar_142 {r : Int32} {h0 : HS} (k25 : Int32 → Int32 → Int32 → Int32 → Int32 → Int32 → HS → Option (Int32 × HS)) (hk25 : ∀ (v1 : Int32) (v2 : Int32) (v3 : Int32) (v4 : Int32) (v5 : Int32) (v6 : Int32) (h : HS), k25 v1 v2 v3 v4 v5 v6 h = some (r, h0) → Jx skM RX12 cX12_liar 12 (some .int) 3 (some (.int r)) h0 25 [some (.ref 0), some (.int v1), some (.int v2), some (.int v3), some (.int v4), some (.int v5), some (.int v6), none, none, none, none, none] [] h) (v1 : Int32) (v2 : Int32) (v3 : Int32) (v4 : Int32) (v5 : Int32) (v6 : Int32) (v7 : Int64) (s0 : Int32) (h : HS) (H : fX12_liar_142 k25 v1 v2 v3 v4 v5 v6 v7 s0 h = some (r, h0)) : Jx skM RX12 cX12_liar 12 (some .int) 3 (some (.int r)) h0 142 [some (.ref 0), some (.int v1), some (.int v2), some (.int v3), some (.int v4), some (.int v5), some (.int v6), some (.long v7), none, none, none, none] [.int s0] h := by
  unfold fX12_liar_142 at H
  refine j_istore (pc := 142) (L' := [some (.ref 0), some (.int v1), some (.int v2), some (.int v3), some (.int v4), some (.int v5), some (.int v6), some (.long v7), none, none, none, some (.int s0)]) dX12_liar_142 (by decide) rfl ?_
  refine j_aload_n (pc := 144) dX12_liar_144 rfl ?_
  refine j_iload (pc := 145) dX12_liar_145 rfl ?_
  refine j_if_eq (pc := 147) (tgt := 156) dX12_liar_147 (by decide) (fun c24 => ?_) (fun c24 => ?_)
  · rw [if_pos c24] at H
    refine j_iconst (pc := 156) (v := -1) dX12_liar_156 (by decide) ?_
    refine Jx.sub (L' := [some (.ref 0), some (.int v1), some (.int v2), some (.int v3), some (.int v4), some (.int v5), some (.int v6), none, none, none, none, some (.int s0)]) (⟨rfl, ⟨rfl, ⟨rfl, ⟨rfl, ⟨rfl, ⟨rfl, ⟨rfl, ⟨rfl, trivial⟩⟩⟩⟩⟩⟩⟩⟩) ?_
    exact jX12_liar_157 _ hk25 v1 v2 v3 v4 v5 v6 s0 (-1 : Int32) h H
  · rw [if_neg c24] at H
    refine j_lload (pc := 150) dX12_liar_150 rfl ?_
    refine j_l2i (pc := 152) dX12_liar_152 ?_
    refine j_goto (pc := 153) (tgt := 157) dX12_liar_153 (by decide) ?_
    refine Jx.sub (L' := [some (.ref 0), some (.int v1), some (.int v2), some (.int v3), some (.int v4), some (.int v5), some (.int v6), none, none, none, none, some (.int s0)]) (⟨rfl, ⟨rfl, ⟨rfl, ⟨rfl, ⟨rfl, ⟨rfl, ⟨rfl, ⟨rfl, trivial⟩⟩⟩⟩⟩⟩⟩⟩) ?_
    exact jX12_liar_157 _ hk25 v1 v2 v3 v4 v5 v6 s0 ((v7.toInt32)) h H
noncomputable def fX12_liar_141 (k25 : Int32 → Int32 → Int32 → Int32 → Int32 → Int32 → HS → Option (Int32 × HS)) (v1 : Int32) (v2 : Int32) (v3 : Int32) (v4 : Int32) (v5 : Int32) (v6 : Int32) (v7 : Int64) (h : HS) : Option (Int32 × HS) := fX12_liar_142 k25 v1 v2 v3 v4 v5 v6 v7 (0 : Int32) h
set_option maxRecDepth 100000 in
theorem jX12_liar_141 {r : Int32} {h0 : HS} (k25 : Int32 → Int32 → Int32 → Int32 → Int32 → Int32 → HS → Option (Int32 × HS)) (hk25 : ∀ (v1 : Int32) (v2 : Int32) (v3 : Int32) (v4 : Int32) (v5 : Int32) (v6 : Int32) (h : HS), k25 v1 v2 v3 v4 v5 v6 h = some (r, h0) → Jx skM RX12 cX12_liar 12 (some .int) 3 (some (.int r)) h0 25 [some (.ref 0), some (.int v1), some (.int v2), some (.int v3), some (.int v4), some (.int v5), some (.int v6), none, none, none, none, none] [] h) (v1 : Int32) (v2 : Int32) (v3 : Int32) (v4 : Int32) (v5 : Int32) (v6 : Int32) (v7 : Int64) (h : HS) (H : fX12_liar_141 k25 v1 v2 v3 v4 v5 v6 v7 h = some (r, h0)) : Jx skM RX12 cX12_liar 12 (some .int) 3 (some (.int r)) h0 141 [some (.ref 0), some (.int v1), some (.int v2), some (.int v3), some (.int v4), some (.int v5), some (.int v6), some (.long v7), none, none, none, none] [] h := by
  unfold fX12_liar_141 at H
  refine j_iconst (pc := 141) (v := 0) dX12_liar_141 (by decide) ?_
  refine Jx.sub (L' := [some (.ref 0), some (.int v1), some (.int v2), some (.int v3), some (.int v4), some (.int v5), some (.int v6), some (.long v7), none, none, none, none]) (⟨rfl, ⟨rfl, ⟨rfl, ⟨rfl, ⟨rfl, ⟨rfl, ⟨rfl, ⟨rfl, trivial⟩⟩⟩⟩⟩⟩⟩⟩) ?_
  exact jX12_liar_142 _ hk25 v1 v2 v3 v4 v5 v6 v7 (0 : Int32) h H
noncomputable def fX12_liar_25 : Nat → Int32 → Int32 → Int32 → Int32 → Int32 → Int32 → HS → Option (Int32 × HS)
  | 0, _, _, _, _, _, _, _ => none
  | n + 1, v1, v2, v3, v4, v5, v6, h => if (gI h 0 0) ≤ v6 then (some (v5, h)) else (ck (inb v6 15) (bd (fX12_heavyAt v1 h) (fun r9 h8 => nm (((((gI h 5 v6.toNatClampNeg).toInt64) + (v2.toInt64)) - (r9.toInt64))) (fun v7_10 => ck (inb v6 15) (nm ((v7_10 - ((gI h8 5 v6.toNatClampNeg).toInt64))) (fun v9_12 => if (lg_cmp v7_10 (0 : Int64)) < 0 then (fX12_liar_141 (fX12_liar_25 n) v1 v2 v3 v4 v5 v6 v7_10 h8) else (ck (inb v6 15) (if 0 < (lg_cmp v7_10 ((gI h8 4 v6.toNatClampNeg).toInt64)) then (fX12_liar_141 (fX12_liar_25 n) v1 v2 v3 v4 v5 v6 v7_10 h8) else (bd (fX12_momentOf (0 : Int32) h8) (fun r17 h16 => ck (inb v6 15) (if (lg_cmp ((r17.toInt64) + (((gI h16 2 v6.toNatClampNeg).toInt64) * v9_12)) (v3.toInt64)) = 0 then (bd (fX12_momentOf (1 : Int32) h16) (fun r21 h20 => ck (inb v6 15) (if (lg_cmp ((r21.toInt64) + (((gI h20 3 v6.toNatClampNeg).toInt64) * v9_12)) (v4.toInt64)) = 0 then (fX12_liar_142 (fX12_liar_25 n) v1 v2 v3 v4 v5 v6 v7_10 (1 : Int32) h20) else (fX12_liar_141 (fX12_liar_25 n) v1 v2 v3 v4 v5 v6 v7_10 h20)))) else (fX12_liar_141 (fX12_liar_25 n) v1 v2 v3 v4 v5 v6 v7_10 h16))))))))))))
set_option maxRecDepth 100000 in
theorem jX12_liar_25 {r : Int32} {h0 : HS} : ∀ (n : Nat) (v1 : Int32) (v2 : Int32) (v3 : Int32) (v4 : Int32) (v5 : Int32) (v6 : Int32) (h : HS), fX12_liar_25 n v1 v2 v3 v4 v5 v6 h = some (r, h0) → Jx skM RX12 cX12_liar 12 (some .int) 3 (some (.int r)) h0 25 [some (.ref 0), some (.int v1), some (.int v2), some (.int v3), some (.int v4), some (.int v5), some (.int v6), none, none, none, none, none] [] h := by
  intro n
  induction n with
  | zero => intro v1 v2 v3 v4 v5 v6  h H; cases H
  | succ n ih =>
    intro v1 v2 v3 v4 v5 v6  h H
    rw [fX12_liar_25] at H
    refine j_iload (pc := 25) dX12_liar_25 rfl ?_
    refine j_aload_n (pc := 27) dX12_liar_27 rfl ?_
    refine j_getI (pc := 28) dX12_liar_28 flX12_139 rfl ?_
    refine j_icmp_ge (pc := 31) (tgt := 184) dX12_liar_31 (by decide) (fun c6 => ?_) (fun c6 => ?_)
    · rw [if_pos c6] at H
      refine j_iload (pc := 184) dX12_liar_184 rfl ?_
      exact j_ireturn (pc := 186) dX12_liar_186 rfl (ri_1 H) (ri_2 H)
    · rw [if_neg c6] at H
      refine j_aload_n (pc := 34) dX12_liar_34 rfl ?_
      refine j_getR (pc := 35) (b := 5) dX12_liar_35 flX12_22 rfl ?_
      refine j_iload (pc := 38) dX12_liar_38 rfl ?_
      obtain ⟨b7, H⟩ := ck_x H
      refine j_iaload (pc := 40) dX12_liar_40 rfl b7 rfl ?_
      refine j_i2l (pc := 41) dX12_liar_41 ?_
      refine j_iload_n (pc := 42) dX12_liar_42 rfl ?_
      refine j_i2l (pc := 43) dX12_liar_43 ?_
      refine j_ladd (pc := 44) dX12_liar_44 ?_
      refine j_aload_n (pc := 45) dX12_liar_45 rfl ?_
      refine j_iload_n (pc := 46) dX12_liar_46 rfl ?_
      obtain ⟨r9, h8, eh8, H⟩ := bd_x H
      refine j_callV (pc := 47) dX12_liar_47 mlX12_198 wyX12_heavyAt (tX12_heavyAt eh8) (by decide) rfl rfl rfl rfl (by simp [Value.category]) rfl ?_
      refine j_i2l (pc := 50) dX12_liar_50 ?_
      refine j_lsub (pc := 51) dX12_liar_51 ?_
      obtain ⟨v7_10, ev7_10, H⟩ := nm_x H
      refine j_topl ev7_10 ?_
      refine j_lstore (pc := 52) (L' := [some (.ref 0), some (.int v1), some (.int v2), some (.int v3), some (.int v4), some (.int v5), some (.int v6), some (.long v7_10), none, none, none, none]) dX12_liar_52 (by decide) rfl ?_
      refine j_lload (pc := 54) dX12_liar_54 rfl ?_
      refine j_aload_n (pc := 56) dX12_liar_56 rfl ?_
      refine j_getR (pc := 57) (b := 5) dX12_liar_57 flX12_22 rfl ?_
      refine j_iload (pc := 60) dX12_liar_60 rfl ?_
      obtain ⟨b11, H⟩ := ck_x H
      refine j_iaload (pc := 62) dX12_liar_62 rfl b11 rfl ?_
      refine j_i2l (pc := 63) dX12_liar_63 ?_
      refine j_lsub (pc := 64) dX12_liar_64 ?_
      obtain ⟨v9_12, ev9_12, H⟩ := nm_x H
      refine j_topl ev9_12 ?_
      refine j_lstore (pc := 65) (L' := [some (.ref 0), some (.int v1), some (.int v2), some (.int v3), some (.int v4), some (.int v5), some (.int v6), some (.long v7_10), none, some (.long v9_12), none, none]) dX12_liar_65 (by decide) rfl ?_
      refine j_lload (pc := 67) dX12_liar_67 rfl ?_
      refine j_lconst (pc := 69) (v := 0) dX12_liar_69 (by decide) ?_
      refine j_lcmp (pc := 70) dX12_liar_70 ?_
      refine j_if_lt (pc := 71) (tgt := 141) dX12_liar_71 (by decide) (fun c13 => ?_) (fun c13 => ?_)
      · rw [if_pos c13] at H
        refine Jx.sub (L' := [some (.ref 0), some (.int v1), some (.int v2), some (.int v3), some (.int v4), some (.int v5), some (.int v6), some (.long v7_10), none, none, none, none]) (⟨rfl, ⟨rfl, ⟨rfl, ⟨rfl, ⟨rfl, ⟨rfl, ⟨rfl, ⟨rfl, trivial⟩⟩⟩⟩⟩⟩⟩⟩) ?_
        exact jX12_liar_141 _ ih v1 v2 v3 v4 v5 v6 v7_10 h8 H
      · rw [if_neg c13] at H
        refine j_lload (pc := 74) dX12_liar_74 rfl ?_
        refine j_aload_n (pc := 76) dX12_liar_76 rfl ?_
        refine j_getR (pc := 77) (b := 4) dX12_liar_77 flX12_19 rfl ?_
        refine j_iload (pc := 80) dX12_liar_80 rfl ?_
        obtain ⟨b14, H⟩ := ck_x H
        refine j_iaload (pc := 82) dX12_liar_82 rfl b14 rfl ?_
        refine j_i2l (pc := 83) dX12_liar_83 ?_
        refine j_lcmp (pc := 84) dX12_liar_84 ?_
        refine j_if_gt (pc := 85) (tgt := 141) dX12_liar_85 (by decide) (fun c15 => ?_) (fun c15 => ?_)
        · rw [if_pos c15] at H
          refine Jx.sub (L' := [some (.ref 0), some (.int v1), some (.int v2), some (.int v3), some (.int v4), some (.int v5), some (.int v6), some (.long v7_10), none, none, none, none]) (⟨rfl, ⟨rfl, ⟨rfl, ⟨rfl, ⟨rfl, ⟨rfl, ⟨rfl, ⟨rfl, trivial⟩⟩⟩⟩⟩⟩⟩⟩) ?_
          exact jX12_liar_141 _ ih v1 v2 v3 v4 v5 v6 v7_10 h8 H
        · rw [if_neg c15] at H
          refine j_aload_n (pc := 88) dX12_liar_88 rfl ?_
          refine j_iconst (pc := 89) (v := 0) dX12_liar_89 (by decide) ?_
          obtain ⟨r17, h16, eh16, H⟩ := bd_x H
          refine j_callV (pc := 90) dX12_liar_90 mlX12_204 wyX12_momentOf (tX12_momentOf eh16) (by decide) rfl rfl rfl rfl (by simp [Value.category]) rfl ?_
          refine j_i2l (pc := 93) dX12_liar_93 ?_
          refine j_aload_n (pc := 94) dX12_liar_94 rfl ?_
          refine j_getR (pc := 95) (b := 2) dX12_liar_95 flX12_13 rfl ?_
          refine j_iload (pc := 98) dX12_liar_98 rfl ?_
          obtain ⟨b18, H⟩ := ck_x H
          refine j_iaload (pc := 100) dX12_liar_100 rfl b18 rfl ?_
          refine j_i2l (pc := 101) dX12_liar_101 ?_
          refine j_lload (pc := 102) dX12_liar_102 rfl ?_
          refine j_lmul (pc := 104) dX12_liar_104 ?_
          refine j_ladd (pc := 105) dX12_liar_105 ?_
          refine j_iload_n (pc := 106) dX12_liar_106 rfl ?_
          refine j_i2l (pc := 107) dX12_liar_107 ?_
          refine j_lcmp (pc := 108) dX12_liar_108 ?_
          refine j_if_ne (pc := 109) (tgt := 141) dX12_liar_109 (by decide) (fun c19 => ?_) (fun c19 => ?_)
          · rw [if_neg c19] at H
            refine Jx.sub (L' := [some (.ref 0), some (.int v1), some (.int v2), some (.int v3), some (.int v4), some (.int v5), some (.int v6), some (.long v7_10), none, none, none, none]) (⟨rfl, ⟨rfl, ⟨rfl, ⟨rfl, ⟨rfl, ⟨rfl, ⟨rfl, ⟨rfl, trivial⟩⟩⟩⟩⟩⟩⟩⟩) ?_
            exact jX12_liar_141 _ ih v1 v2 v3 v4 v5 v6 v7_10 h16 H
          · rw [if_pos c19] at H
            refine j_aload_n (pc := 112) dX12_liar_112 rfl ?_
            refine j_iconst (pc := 113) (v := 1) dX12_liar_113 (by decide) ?_
            obtain ⟨r21, h20, eh20, H⟩ := bd_x H
            refine j_callV (pc := 114) dX12_liar_114 mlX12_204 wyX12_momentOf (tX12_momentOf eh20) (by decide) rfl rfl rfl rfl (by simp [Value.category]) rfl ?_
            refine j_i2l (pc := 117) dX12_liar_117 ?_
            refine j_aload_n (pc := 118) dX12_liar_118 rfl ?_
            refine j_getR (pc := 119) (b := 3) dX12_liar_119 flX12_16 rfl ?_
            refine j_iload (pc := 122) dX12_liar_122 rfl ?_
            obtain ⟨b22, H⟩ := ck_x H
            refine j_iaload (pc := 124) dX12_liar_124 rfl b22 rfl ?_
            refine j_i2l (pc := 125) dX12_liar_125 ?_
            refine j_lload (pc := 126) dX12_liar_126 rfl ?_
            refine j_lmul (pc := 128) dX12_liar_128 ?_
            refine j_ladd (pc := 129) dX12_liar_129 ?_
            refine j_iload (pc := 130) dX12_liar_130 rfl ?_
            refine j_i2l (pc := 132) dX12_liar_132 ?_
            refine j_lcmp (pc := 133) dX12_liar_133 ?_
            refine j_if_ne (pc := 134) (tgt := 141) dX12_liar_134 (by decide) (fun c23 => ?_) (fun c23 => ?_)
            · rw [if_neg c23] at H
              refine Jx.sub (L' := [some (.ref 0), some (.int v1), some (.int v2), some (.int v3), some (.int v4), some (.int v5), some (.int v6), some (.long v7_10), none, none, none, none]) (⟨rfl, ⟨rfl, ⟨rfl, ⟨rfl, ⟨rfl, ⟨rfl, ⟨rfl, ⟨rfl, trivial⟩⟩⟩⟩⟩⟩⟩⟩) ?_
              exact jX12_liar_141 _ ih v1 v2 v3 v4 v5 v6 v7_10 h20 H
            · rw [if_pos c23] at H
              refine j_iconst (pc := 137) (v := 1) dX12_liar_137 (by decide) ?_
              refine j_goto (pc := 138) (tgt := 142) dX12_liar_138 (by decide) ?_
              refine Jx.sub (L' := [some (.ref 0), some (.int v1), some (.int v2), some (.int v3), some (.int v4), some (.int v5), some (.int v6), some (.long v7_10), none, none, none, none]) (⟨rfl, ⟨rfl, ⟨rfl, ⟨rfl, ⟨rfl, ⟨rfl, ⟨rfl, ⟨rfl, trivial⟩⟩⟩⟩⟩⟩⟩⟩) ?_
              exact jX12_liar_142 _ ih v1 v2 v3 v4 v5 v6 v7_10 (1 : Int32) h20 H
noncomputable def fX12_liar (p1 : Int32) (p2 : Int32) (p3 : Int32) (p4 : Int32) (h : HS) : Option (Int32 × HS) := nm (pI h 0 22 (0 : Int32)) (fun h1 => bd (fX12_isDepth p1 h1) (fun r3 h2 => if r3 = 0 then (some ((-1 : Int32), h2)) else (nm (pI h2 0 21 (0 : Int32)) (fun h5 => fX12_liar_25 FU p1 p2 p3 p4 (0 : Int32) (0 : Int32) h5))))
set_option maxRecDepth 100000 in
theorem tX12_liar {p1 : Int32} {p2 : Int32} {p3 : Int32} {p4 : Int32} {r : Int32} {h h0 : HS} (H : fX12_liar p1 p2 p3 p4 h = some (r, h0)) : Cn skM yX12_liar cX12_liar 12 (some .int) 3 [.ref 0, .int p1, .int p2, .int p3, .int p4] h (some (.int r)) h0 := by
  refine Cn_of (L := [some (.ref 0), some (.int p1), some (.int p2), some (.int p3), some (.int p4), none, none, none, none, none, none, none]) (by decide +kernel) (by simp [lg_sl, Value.category]) (fun ad => by simp [lg_sl, tv, Value.category]) (⟨rfl, ⟨rfl, ⟨rfl, ⟨rfl, ⟨rfl, trivial⟩⟩⟩⟩⟩) ?_
  unfold fX12_liar at H
  refine j_aload_n (pc := 0) dX12_liar_0 rfl ?_
  refine j_iconst (pc := 1) (v := 0) dX12_liar_1 (by decide) ?_
  obtain ⟨h1, eh1, H⟩ := nm_x H
  refine j_putI (pc := 2) dX12_liar_2 fpX12_133 rfl h1 eh1 ?_
  refine j_iload_n (pc := 5) dX12_liar_5 rfl ?_
  obtain ⟨r3, h2, eh2, H⟩ := bd_x H
  refine j_callS (pc := 6) dX12_liar_6 mlX12_178 wyX12_isDepth (tX12_isDepth eh2) (by decide) rfl (by simp [Value.category]) rfl ?_
  refine j_if_ne (pc := 9) (tgt := 14) dX12_liar_9 (by decide) (fun c4 => ?_) (fun c4 => ?_)
  · rw [if_neg c4] at H
    refine j_iconst (pc := 14) (v := 0) dX12_liar_14 (by decide) ?_
    refine j_istore (pc := 15) (L' := [some (.ref 0), some (.int p1), some (.int p2), some (.int p3), some (.int p4), some (.int (0 : Int32)), none, none, none, none, none, none]) dX12_liar_15 (by decide) rfl ?_
    refine j_aload_n (pc := 17) dX12_liar_17 rfl ?_
    refine j_iconst (pc := 18) (v := 0) dX12_liar_18 (by decide) ?_
    obtain ⟨h5, eh5, H⟩ := nm_x H
    refine j_putI (pc := 19) dX12_liar_19 fpX12_136 rfl h5 eh5 ?_
    refine j_iconst (pc := 22) (v := 0) dX12_liar_22 (by decide) ?_
    refine j_istore (pc := 23) (L' := [some (.ref 0), some (.int p1), some (.int p2), some (.int p3), some (.int p4), some (.int (0 : Int32)), some (.int (0 : Int32)), none, none, none, none, none]) dX12_liar_23 (by decide) rfl ?_
    refine Jx.sub (L' := [some (.ref 0), some (.int p1), some (.int p2), some (.int p3), some (.int p4), some (.int (0 : Int32)), some (.int (0 : Int32)), none, none, none, none, none]) (⟨rfl, ⟨rfl, ⟨rfl, ⟨rfl, ⟨rfl, ⟨rfl, ⟨rfl, trivial⟩⟩⟩⟩⟩⟩⟩) ?_
    exact jX12_liar_25 FU p1 p2 p3 p4 (0 : Int32) (0 : Int32) h5 H
  · rw [if_pos c4] at H
    refine j_iconst (pc := 12) (v := -1) dX12_liar_12 (by decide) ?_
    exact j_ireturn (pc := 13) dX12_liar_13 rfl (ri_1 H) (ri_2 H)

noncomputable def fX12_two_306 (k59 : Int64 → Int64 → Int64 → Int32 → Int32 → HS → Option (Int32 × HS)) (k74 : Int64 → Int64 → Int64 → Int32 → Int32 → Int32 → HS → Option (Int32 × HS)) (v5 : Int64) (v7 : Int64) (v9 : Int64) (v12 : Int32) (v13 : Int32) (s1 : Int32) (s0 : Int32) (h : HS) : Option (Int32 × HS) := nm ((s0 + s1)) (fun v11_53 => nm (v13 + (1 : Int32)) (fun v13_54 => k74 v5 v7 v9 v11_53 v12 v13_54 h))
set_option maxRecDepth 100000 in
theorem jX12_two_306 {r : Int32} {h0 : HS} (k59 : Int64 → Int64 → Int64 → Int32 → Int32 → HS → Option (Int32 × HS)) (k74 : Int64 → Int64 → Int64 → Int32 → Int32 → Int32 → HS → Option (Int32 × HS)) (hk59 : ∀ (v5 : Int64) (v7 : Int64) (v9 : Int64) (v11 : Int32) (v12 : Int32) (h : HS), k59 v5 v7 v9 v11 v12 h = some (r, h0) → Jx skM RX12 cX12_two 20 (some .int) 3 (some (.int r)) h0 59 [some (.ref 0), none, none, none, none, some (.long v5), none, some (.long v7), none, some (.long v9), none, some (.int v11), some (.int v12), none, none, none, none, none, none, none] [] h) (hk74 : ∀ (v5 : Int64) (v7 : Int64) (v9 : Int64) (v11 : Int32) (v12 : Int32) (v13 : Int32) (h : HS), k74 v5 v7 v9 v11 v12 v13 h = some (r, h0) → Jx skM RX12 cX12_two 20 (some .int) 3 (some (.int r)) h0 74 [some (.ref 0), none, none, none, none, some (.long v5), none, some (.long v7), none, some (.long v9), none, some (.int v11), some (.int v12), some (.int v13), none, none, none, none, none, none] [] h) (v5 : Int64) (v7 : Int64) (v9 : Int64) (v12 : Int32) (v13 : Int32) (s1 : Int32) (s0 : Int32) (h : HS) (H : fX12_two_306 k59 k74 v5 v7 v9 v12 v13 s1 s0 h = some (r, h0)) : Jx skM RX12 cX12_two 20 (some .int) 3 (some (.int r)) h0 306 [some (.ref 0), none, none, none, none, some (.long v5), none, some (.long v7), none, some (.long v9), none, none, some (.int v12), some (.int v13), none, none, none, none, none, none] [.int s1, .int s0] h := by
  unfold fX12_two_306 at H
  refine j_iadd (pc := 306) dX12_two_306 ?_
  obtain ⟨v11_53, ev11_53, H⟩ := nm_x H
  refine j_topi ev11_53 ?_
  refine j_istore (pc := 307) (L' := [some (.ref 0), none, none, none, none, some (.long v5), none, some (.long v7), none, some (.long v9), none, some (.int v11_53), some (.int v12), some (.int v13), none, none, none, none, none, none]) dX12_two_307 (by decide) rfl ?_
  obtain ⟨v13_54, ev13_54, H⟩ := nm_x H
  refine j_iinc (pc := 309) (L' := [some (.ref 0), none, none, none, none, some (.long v5), none, some (.long v7), none, some (.long v9), none, some (.int v11_53), some (.int v12), some (.int v13_54), none, none, none, none, none, none]) (w := 1) dX12_two_309 rfl (by decide) (by decide) v13_54 ev13_54 rfl ?_
  refine j_goto (pc := 312) (tgt := 74) dX12_two_312 (by decide) ?_
  refine Jx.sub (L' := [some (.ref 0), none, none, none, none, some (.long v5), none, some (.long v7), none, some (.long v9), none, some (.int v11_53), some (.int v12), some (.int v13_54), none, none, none, none, none, none]) (⟨rfl, ⟨rfl, ⟨rfl, ⟨rfl, ⟨rfl, ⟨rfl, ⟨rfl, trivial⟩⟩⟩⟩⟩⟩⟩) ?_
  exact hk74 v5 v7 v9 v11_53 v12 v13_54 h H
noncomputable def fX12_two_294 (k59 : Int64 → Int64 → Int64 → Int32 → Int32 → HS → Option (Int32 × HS)) (k74 : Int64 → Int64 → Int64 → Int32 → Int32 → Int32 → HS → Option (Int32 × HS)) (v5 : Int64) (v7 : Int64) (v9 : Int64) (v11 : Int32) (v12 : Int32) (v13 : Int32) (v14 : Int32) (h : HS) : Option (Int32 × HS) := if v14 = 0 then (fX12_two_306 k59 k74 v5 v7 v9 v12 v13 (0 : Int32) v11 h) else (fX12_two_306 k59 k74 v5 v7 v9 v12 v13 (1 : Int32) v11 h)
set_option maxRecDepth 100000 in
theorem jX12_two_294 {r : Int32} {h0 : HS} (k59 : Int64 → Int64 → Int64 → Int32 → Int32 → HS → Option (Int32 × HS)) (k74 : Int64 → Int64 → Int64 → Int32 → Int32 → Int32 → HS → Option (Int32 × HS)) (hk59 : ∀ (v5 : Int64) (v7 : Int64) (v9 : Int64) (v11 : Int32) (v12 : Int32) (h : HS), k59 v5 v7 v9 v11 v12 h = some (r, h0) → Jx skM RX12 cX12_two 20 (some .int) 3 (some (.int r)) h0 59 [some (.ref 0), none, none, none, none, some (.long v5), none, some (.long v7), none, some (.long v9), none, some (.int v11), some (.int v12), none, none, none, none, none, none, none] [] h) (hk74 : ∀ (v5 : Int64) (v7 : Int64) (v9 : Int64) (v11 : Int32) (v12 : Int32) (v13 : Int32) (h : HS), k74 v5 v7 v9 v11 v12 v13 h = some (r, h0) → Jx skM RX12 cX12_two 20 (some .int) 3 (some (.int r)) h0 74 [some (.ref 0), none, none, none, none, some (.long v5), none, some (.long v7), none, some (.long v9), none, some (.int v11), some (.int v12), some (.int v13), none, none, none, none, none, none] [] h) (v5 : Int64) (v7 : Int64) (v9 : Int64) (v11 : Int32) (v12 : Int32) (v13 : Int32) (v14 : Int32) (h : HS) (H : fX12_two_294 k59 k74 v5 v7 v9 v11 v12 v13 v14 h = some (r, h0)) : Jx skM RX12 cX12_two 20 (some .int) 3 (some (.int r)) h0 294 [some (.ref 0), none, none, none, none, some (.long v5), none, some (.long v7), none, some (.long v9), none, some (.int v11), some (.int v12), some (.int v13), some (.int v14), none, none, none, none, none] [] h := by
  unfold fX12_two_294 at H
  refine j_iload (pc := 294) dX12_two_294 rfl ?_
  refine j_iload (pc := 296) dX12_two_296 rfl ?_
  refine j_if_eq (pc := 298) (tgt := 305) dX12_two_298 (by decide) (fun c52 => ?_) (fun c52 => ?_)
  · rw [if_pos c52] at H
    refine j_iconst (pc := 305) (v := 0) dX12_two_305 (by decide) ?_
    refine Jx.sub (L' := [some (.ref 0), none, none, none, none, some (.long v5), none, some (.long v7), none, some (.long v9), none, none, some (.int v12), some (.int v13), none, none, none, none, none, none]) (⟨rfl, ⟨rfl, ⟨rfl, ⟨rfl, ⟨rfl, ⟨rfl, trivial⟩⟩⟩⟩⟩⟩) ?_
    exact jX12_two_306 _ _ hk59 hk74 v5 v7 v9 v12 v13 (0 : Int32) v11 h H
  · rw [if_neg c52] at H
    refine j_iconst (pc := 301) (v := 1) dX12_two_301 (by decide) ?_
    refine j_goto (pc := 302) (tgt := 306) dX12_two_302 (by decide) ?_
    refine Jx.sub (L' := [some (.ref 0), none, none, none, none, some (.long v5), none, some (.long v7), none, some (.long v9), none, none, some (.int v12), some (.int v13), none, none, none, none, none, none]) (⟨rfl, ⟨rfl, ⟨rfl, ⟨rfl, ⟨rfl, ⟨rfl, trivial⟩⟩⟩⟩⟩⟩) ?_
    exact jX12_two_306 _ _ hk59 hk74 v5 v7 v9 v12 v13 (1 : Int32) v11 h H
noncomputable def fX12_two_89 (k59 : Int64 → Int64 → Int64 → Int32 → Int32 → HS → Option (Int32 × HS)) (k74 : Int64 → Int64 → Int64 → Int32 → Int32 → Int32 → HS → Option (Int32 × HS)) : Nat → Int64 → Int64 → Int64 → Int32 → Int32 → Int32 → Int32 → Int32 → HS → Option (Int32 × HS)
  | 0, _, _, _, _, _, _, _, _, _ => none
  | n + 1, v5, v7, v9, v11, v12, v13, v14, v15, h => ck (inb v12 15) (if (gI h 4 v12.toNatClampNeg) < v15 then (fX12_two_294 k59 k74 v5 v7 v9 v11 v12 v13 v14 h) else (if v14 = 0 then (ck (inb v12 15) (nm (((v15 - (gI h 5 v12.toNatClampNeg)).toInt64)) (fun v16_23 => nm ((v5 - v16_23)) (fun v18_24 => if (lg_cmp v16_23 (0 : Int64)) = 0 then (nm (v15 + (1 : Int32)) (fun v15_26 => fX12_two_89 k59 k74 n v5 v7 v9 v11 v12 v13 v14 v15_26 h)) else (if (lg_cmp v18_24 (0 : Int64)) = 0 then (nm (v15 + (1 : Int32)) (fun v15_28 => fX12_two_89 k59 k74 n v5 v7 v9 v11 v12 v13 v14 v15_28 h)) else (ck (inb v13 15) (if (lg_cmp (((gI h 5 v13.toNatClampNeg).toInt64) + v18_24) (0 : Int64)) < 0 then (nm (v15 + (1 : Int32)) (fun v15_31 => fX12_two_89 k59 k74 n v5 v7 v9 v11 v12 v13 v14 v15_31 h)) else (ck (inb v13 15) (ck (inb v13 15) (if (lg_cmp (((gI h 5 v13.toNatClampNeg).toInt64) + v18_24) ((gI h 4 v13.toNatClampNeg).toInt64)) ≤ 0 then (ck (inb v12 15) (ck (inb v13 15) (if (lg_cmp ((((gI h 2 v12.toNatClampNeg).toInt64) * v16_23) + (((gI h 2 v13.toNatClampNeg).toInt64) * v18_24)) v7) = 0 then (ck (inb v12 15) (ck (inb v13 15) (if (lg_cmp ((((gI h 3 v12.toNatClampNeg).toInt64) * v16_23) + (((gI h 3 v13.toNatClampNeg).toInt64) * v18_24)) v9) = 0 then (if v11 ≤ 0 then (bv (fX12_tell v12 h) (fun h43 => bv (fX12_tell v13 h43) (fun h44 => bv (fX12_tell v15 h44) (fun h45 => ck (inb v13 15) (bv (fX12_tell (((((gI h45 5 v13.toNatClampNeg).toInt64) + v18_24).toInt32)) h45) (fun h47 => nm (v15 + (1 : Int32)) (fun v15_48 => fX12_two_89 k59 k74 n v5 v7 v9 v11 v12 v13 (1 : Int32) v15_48 h47))))))) else (nm (v15 + (1 : Int32)) (fun v15_49 => fX12_two_89 k59 k74 n v5 v7 v9 v11 v12 v13 (1 : Int32) v15_49 h))) else (nm (v15 + (1 : Int32)) (fun v15_50 => fX12_two_89 k59 k74 n v5 v7 v9 v11 v12 v13 v14 v15_50 h))))) else (nm (v15 + (1 : Int32)) (fun v15_38 => fX12_two_89 k59 k74 n v5 v7 v9 v11 v12 v13 v14 v15_38 h))))) else (nm (v15 + (1 : Int32)) (fun v15_51 => fX12_two_89 k59 k74 n v5 v7 v9 v11 v12 v13 v14 v15_51 h)))))))))))) else (fX12_two_294 k59 k74 v5 v7 v9 v11 v12 v13 v14 h)))
set_option maxRecDepth 100000 in
theorem jX12_two_89 {r : Int32} {h0 : HS} (k59 : Int64 → Int64 → Int64 → Int32 → Int32 → HS → Option (Int32 × HS)) (k74 : Int64 → Int64 → Int64 → Int32 → Int32 → Int32 → HS → Option (Int32 × HS)) (hk59 : ∀ (v5 : Int64) (v7 : Int64) (v9 : Int64) (v11 : Int32) (v12 : Int32) (h : HS), k59 v5 v7 v9 v11 v12 h = some (r, h0) → Jx skM RX12 cX12_two 20 (some .int) 3 (some (.int r)) h0 59 [some (.ref 0), none, none, none, none, some (.long v5), none, some (.long v7), none, some (.long v9), none, some (.int v11), some (.int v12), none, none, none, none, none, none, none] [] h) (hk74 : ∀ (v5 : Int64) (v7 : Int64) (v9 : Int64) (v11 : Int32) (v12 : Int32) (v13 : Int32) (h : HS), k74 v5 v7 v9 v11 v12 v13 h = some (r, h0) → Jx skM RX12 cX12_two 20 (some .int) 3 (some (.int r)) h0 74 [some (.ref 0), none, none, none, none, some (.long v5), none, some (.long v7), none, some (.long v9), none, some (.int v11), some (.int v12), some (.int v13), none, none, none, none, none, none] [] h) : ∀ (n : Nat) (v5 : Int64) (v7 : Int64) (v9 : Int64) (v11 : Int32) (v12 : Int32) (v13 : Int32) (v14 : Int32) (v15 : Int32) (h : HS), fX12_two_89 k59 k74 n v5 v7 v9 v11 v12 v13 v14 v15 h = some (r, h0) → Jx skM RX12 cX12_two 20 (some .int) 3 (some (.int r)) h0 89 [some (.ref 0), none, none, none, none, some (.long v5), none, some (.long v7), none, some (.long v9), none, some (.int v11), some (.int v12), some (.int v13), some (.int v14), some (.int v15), none, none, none, none] [] h := by
  intro n
  induction n with
  | zero => intro v5 v7 v9 v11 v12 v13 v14 v15  h H; cases H
  | succ n ih =>
    intro v5 v7 v9 v11 v12 v13 v14 v15  h H
    rw [fX12_two_89] at H
    refine j_iload (pc := 89) dX12_two_89 rfl ?_
    refine j_aload_n (pc := 91) dX12_two_91 rfl ?_
    refine j_getR (pc := 92) (b := 4) dX12_two_92 flX12_19 rfl ?_
    refine j_iload (pc := 95) dX12_two_95 rfl ?_
    obtain ⟨b19, H⟩ := ck_x H
    refine j_iaload (pc := 97) dX12_two_97 rfl b19 rfl ?_
    refine j_icmp_gt (pc := 98) (tgt := 294) dX12_two_98 (by decide) (fun c20 => ?_) (fun c20 => ?_)
    · rw [if_pos c20] at H
      refine Jx.sub (L' := [some (.ref 0), none, none, none, none, some (.long v5), none, some (.long v7), none, some (.long v9), none, some (.int v11), some (.int v12), some (.int v13), some (.int v14), none, none, none, none, none]) (⟨rfl, ⟨rfl, ⟨rfl, ⟨rfl, ⟨rfl, ⟨rfl, ⟨rfl, ⟨rfl, trivial⟩⟩⟩⟩⟩⟩⟩⟩) ?_
      exact jX12_two_294 _ _ hk59 hk74 v5 v7 v9 v11 v12 v13 v14 h H
    · rw [if_neg c20] at H
      refine j_iload (pc := 101) dX12_two_101 rfl ?_
      refine j_if_ne (pc := 103) (tgt := 294) dX12_two_103 (by decide) (fun c21 => ?_) (fun c21 => ?_)
      · rw [if_neg c21] at H
        refine Jx.sub (L' := [some (.ref 0), none, none, none, none, some (.long v5), none, some (.long v7), none, some (.long v9), none, some (.int v11), some (.int v12), some (.int v13), some (.int v14), none, none, none, none, none]) (⟨rfl, ⟨rfl, ⟨rfl, ⟨rfl, ⟨rfl, ⟨rfl, ⟨rfl, ⟨rfl, trivial⟩⟩⟩⟩⟩⟩⟩⟩) ?_
        exact jX12_two_294 _ _ hk59 hk74 v5 v7 v9 v11 v12 v13 v14 h H
      · rw [if_pos c21] at H
        refine j_iload (pc := 106) dX12_two_106 rfl ?_
        refine j_aload_n (pc := 108) dX12_two_108 rfl ?_
        refine j_getR (pc := 109) (b := 5) dX12_two_109 flX12_22 rfl ?_
        refine j_iload (pc := 112) dX12_two_112 rfl ?_
        obtain ⟨b22, H⟩ := ck_x H
        refine j_iaload (pc := 114) dX12_two_114 rfl b22 rfl ?_
        refine j_isub (pc := 115) dX12_two_115 ?_
        refine j_i2l (pc := 116) dX12_two_116 ?_
        obtain ⟨v16_23, ev16_23, H⟩ := nm_x H
        refine j_topl ev16_23 ?_
        refine j_lstore (pc := 117) (L' := [some (.ref 0), none, none, none, none, some (.long v5), none, some (.long v7), none, some (.long v9), none, some (.int v11), some (.int v12), some (.int v13), some (.int v14), some (.int v15), some (.long v16_23), none, none, none]) dX12_two_117 (by decide) rfl ?_
        refine j_lload (pc := 119) dX12_two_119 rfl ?_
        refine j_lload (pc := 121) dX12_two_121 rfl ?_
        refine j_lsub (pc := 123) dX12_two_123 ?_
        obtain ⟨v18_24, ev18_24, H⟩ := nm_x H
        refine j_topl ev18_24 ?_
        refine j_lstore (pc := 124) (L' := [some (.ref 0), none, none, none, none, some (.long v5), none, some (.long v7), none, some (.long v9), none, some (.int v11), some (.int v12), some (.int v13), some (.int v14), some (.int v15), some (.long v16_23), none, some (.long v18_24), none]) dX12_two_124 (by decide) rfl ?_
        refine j_lload (pc := 126) dX12_two_126 rfl ?_
        refine j_lconst (pc := 128) (v := 0) dX12_two_128 (by decide) ?_
        refine j_lcmp (pc := 129) dX12_two_129 ?_
        refine j_if_eq (pc := 130) (tgt := 288) dX12_two_130 (by decide) (fun c25 => ?_) (fun c25 => ?_)
        · rw [if_pos c25] at H
          obtain ⟨v15_26, ev15_26, H⟩ := nm_x H
          refine j_iinc (pc := 288) (L' := [some (.ref 0), none, none, none, none, some (.long v5), none, some (.long v7), none, some (.long v9), none, some (.int v11), some (.int v12), some (.int v13), some (.int v14), some (.int v15_26), some (.long v16_23), none, some (.long v18_24), none]) (w := 1) dX12_two_288 rfl (by decide) (by decide) v15_26 ev15_26 rfl ?_
          refine j_goto (pc := 291) (tgt := 89) dX12_two_291 (by decide) ?_
          refine Jx.sub (L' := [some (.ref 0), none, none, none, none, some (.long v5), none, some (.long v7), none, some (.long v9), none, some (.int v11), some (.int v12), some (.int v13), some (.int v14), some (.int v15_26), none, none, none, none]) (⟨rfl, ⟨rfl, ⟨rfl, ⟨rfl, ⟨rfl, ⟨rfl, ⟨rfl, ⟨rfl, ⟨rfl, trivial⟩⟩⟩⟩⟩⟩⟩⟩⟩) ?_
          exact ih v5 v7 v9 v11 v12 v13 v14 v15_26 h H
        · rw [if_neg c25] at H
          refine j_lload (pc := 133) dX12_two_133 rfl ?_
          refine j_lconst (pc := 135) (v := 0) dX12_two_135 (by decide) ?_
          refine j_lcmp (pc := 136) dX12_two_136 ?_
          refine j_if_eq (pc := 137) (tgt := 288) dX12_two_137 (by decide) (fun c27 => ?_) (fun c27 => ?_)
          · rw [if_pos c27] at H
            obtain ⟨v15_28, ev15_28, H⟩ := nm_x H
            refine j_iinc (pc := 288) (L' := [some (.ref 0), none, none, none, none, some (.long v5), none, some (.long v7), none, some (.long v9), none, some (.int v11), some (.int v12), some (.int v13), some (.int v14), some (.int v15_28), some (.long v16_23), none, some (.long v18_24), none]) (w := 1) dX12_two_288 rfl (by decide) (by decide) v15_28 ev15_28 rfl ?_
            refine j_goto (pc := 291) (tgt := 89) dX12_two_291 (by decide) ?_
            refine Jx.sub (L' := [some (.ref 0), none, none, none, none, some (.long v5), none, some (.long v7), none, some (.long v9), none, some (.int v11), some (.int v12), some (.int v13), some (.int v14), some (.int v15_28), none, none, none, none]) (⟨rfl, ⟨rfl, ⟨rfl, ⟨rfl, ⟨rfl, ⟨rfl, ⟨rfl, ⟨rfl, ⟨rfl, trivial⟩⟩⟩⟩⟩⟩⟩⟩⟩) ?_
            exact ih v5 v7 v9 v11 v12 v13 v14 v15_28 h H
          · rw [if_neg c27] at H
            refine j_aload_n (pc := 140) dX12_two_140 rfl ?_
            refine j_getR (pc := 141) (b := 5) dX12_two_141 flX12_22 rfl ?_
            refine j_iload (pc := 144) dX12_two_144 rfl ?_
            obtain ⟨b29, H⟩ := ck_x H
            refine j_iaload (pc := 146) dX12_two_146 rfl b29 rfl ?_
            refine j_i2l (pc := 147) dX12_two_147 ?_
            refine j_lload (pc := 148) dX12_two_148 rfl ?_
            refine j_ladd (pc := 150) dX12_two_150 ?_
            refine j_lconst (pc := 151) (v := 0) dX12_two_151 (by decide) ?_
            refine j_lcmp (pc := 152) dX12_two_152 ?_
            refine j_if_lt (pc := 153) (tgt := 288) dX12_two_153 (by decide) (fun c30 => ?_) (fun c30 => ?_)
            · rw [if_pos c30] at H
              obtain ⟨v15_31, ev15_31, H⟩ := nm_x H
              refine j_iinc (pc := 288) (L' := [some (.ref 0), none, none, none, none, some (.long v5), none, some (.long v7), none, some (.long v9), none, some (.int v11), some (.int v12), some (.int v13), some (.int v14), some (.int v15_31), some (.long v16_23), none, some (.long v18_24), none]) (w := 1) dX12_two_288 rfl (by decide) (by decide) v15_31 ev15_31 rfl ?_
              refine j_goto (pc := 291) (tgt := 89) dX12_two_291 (by decide) ?_
              refine Jx.sub (L' := [some (.ref 0), none, none, none, none, some (.long v5), none, some (.long v7), none, some (.long v9), none, some (.int v11), some (.int v12), some (.int v13), some (.int v14), some (.int v15_31), none, none, none, none]) (⟨rfl, ⟨rfl, ⟨rfl, ⟨rfl, ⟨rfl, ⟨rfl, ⟨rfl, ⟨rfl, ⟨rfl, trivial⟩⟩⟩⟩⟩⟩⟩⟩⟩) ?_
              exact ih v5 v7 v9 v11 v12 v13 v14 v15_31 h H
            · rw [if_neg c30] at H
              refine j_aload_n (pc := 156) dX12_two_156 rfl ?_
              refine j_getR (pc := 157) (b := 5) dX12_two_157 flX12_22 rfl ?_
              refine j_iload (pc := 160) dX12_two_160 rfl ?_
              obtain ⟨b32, H⟩ := ck_x H
              refine j_iaload (pc := 162) dX12_two_162 rfl b32 rfl ?_
              refine j_i2l (pc := 163) dX12_two_163 ?_
              refine j_lload (pc := 164) dX12_two_164 rfl ?_
              refine j_ladd (pc := 166) dX12_two_166 ?_
              refine j_aload_n (pc := 167) dX12_two_167 rfl ?_
              refine j_getR (pc := 168) (b := 4) dX12_two_168 flX12_19 rfl ?_
              refine j_iload (pc := 171) dX12_two_171 rfl ?_
              obtain ⟨b33, H⟩ := ck_x H
              refine j_iaload (pc := 173) dX12_two_173 rfl b33 rfl ?_
              refine j_i2l (pc := 174) dX12_two_174 ?_
              refine j_lcmp (pc := 175) dX12_two_175 ?_
              refine j_if_le (pc := 176) (tgt := 182) dX12_two_176 (by decide) (fun c34 => ?_) (fun c34 => ?_)
              · rw [if_pos c34] at H
                refine j_aload_n (pc := 182) dX12_two_182 rfl ?_
                refine j_getR (pc := 183) (b := 2) dX12_two_183 flX12_13 rfl ?_
                refine j_iload (pc := 186) dX12_two_186 rfl ?_
                obtain ⟨b35, H⟩ := ck_x H
                refine j_iaload (pc := 188) dX12_two_188 rfl b35 rfl ?_
                refine j_i2l (pc := 189) dX12_two_189 ?_
                refine j_lload (pc := 190) dX12_two_190 rfl ?_
                refine j_lmul (pc := 192) dX12_two_192 ?_
                refine j_aload_n (pc := 193) dX12_two_193 rfl ?_
                refine j_getR (pc := 194) (b := 2) dX12_two_194 flX12_13 rfl ?_
                refine j_iload (pc := 197) dX12_two_197 rfl ?_
                obtain ⟨b36, H⟩ := ck_x H
                refine j_iaload (pc := 199) dX12_two_199 rfl b36 rfl ?_
                refine j_i2l (pc := 200) dX12_two_200 ?_
                refine j_lload (pc := 201) dX12_two_201 rfl ?_
                refine j_lmul (pc := 203) dX12_two_203 ?_
                refine j_ladd (pc := 204) dX12_two_204 ?_
                refine j_lload (pc := 205) dX12_two_205 rfl ?_
                refine j_lcmp (pc := 207) dX12_two_207 ?_
                refine j_if_ne (pc := 208) (tgt := 288) dX12_two_208 (by decide) (fun c37 => ?_) (fun c37 => ?_)
                · rw [if_neg c37] at H
                  obtain ⟨v15_38, ev15_38, H⟩ := nm_x H
                  refine j_iinc (pc := 288) (L' := [some (.ref 0), none, none, none, none, some (.long v5), none, some (.long v7), none, some (.long v9), none, some (.int v11), some (.int v12), some (.int v13), some (.int v14), some (.int v15_38), some (.long v16_23), none, some (.long v18_24), none]) (w := 1) dX12_two_288 rfl (by decide) (by decide) v15_38 ev15_38 rfl ?_
                  refine j_goto (pc := 291) (tgt := 89) dX12_two_291 (by decide) ?_
                  refine Jx.sub (L' := [some (.ref 0), none, none, none, none, some (.long v5), none, some (.long v7), none, some (.long v9), none, some (.int v11), some (.int v12), some (.int v13), some (.int v14), some (.int v15_38), none, none, none, none]) (⟨rfl, ⟨rfl, ⟨rfl, ⟨rfl, ⟨rfl, ⟨rfl, ⟨rfl, ⟨rfl, ⟨rfl, trivial⟩⟩⟩⟩⟩⟩⟩⟩⟩) ?_
                  exact ih v5 v7 v9 v11 v12 v13 v14 v15_38 h H
                · rw [if_pos c37] at H
                  refine j_aload_n (pc := 211) dX12_two_211 rfl ?_
                  refine j_getR (pc := 212) (b := 3) dX12_two_212 flX12_16 rfl ?_
                  refine j_iload (pc := 215) dX12_two_215 rfl ?_
                  obtain ⟨b39, H⟩ := ck_x H
                  refine j_iaload (pc := 217) dX12_two_217 rfl b39 rfl ?_
                  refine j_i2l (pc := 218) dX12_two_218 ?_
                  refine j_lload (pc := 219) dX12_two_219 rfl ?_
                  refine j_lmul (pc := 221) dX12_two_221 ?_
                  refine j_aload_n (pc := 222) dX12_two_222 rfl ?_
                  refine j_getR (pc := 223) (b := 3) dX12_two_223 flX12_16 rfl ?_
                  refine j_iload (pc := 226) dX12_two_226 rfl ?_
                  obtain ⟨b40, H⟩ := ck_x H
                  refine j_iaload (pc := 228) dX12_two_228 rfl b40 rfl ?_
                  refine j_i2l (pc := 229) dX12_two_229 ?_
                  refine j_lload (pc := 230) dX12_two_230 rfl ?_
                  refine j_lmul (pc := 232) dX12_two_232 ?_
                  refine j_ladd (pc := 233) dX12_two_233 ?_
                  refine j_lload (pc := 234) dX12_two_234 rfl ?_
                  refine j_lcmp (pc := 236) dX12_two_236 ?_
                  refine j_if_eq (pc := 237) (tgt := 243) dX12_two_237 (by decide) (fun c41 => ?_) (fun c41 => ?_)
                  · rw [if_pos c41] at H
                    refine j_iconst (pc := 243) (v := 1) dX12_two_243 (by decide) ?_
                    refine j_istore (pc := 244) (L' := [some (.ref 0), none, none, none, none, some (.long v5), none, some (.long v7), none, some (.long v9), none, some (.int v11), some (.int v12), some (.int v13), some (.int (1 : Int32)), some (.int v15), some (.long v16_23), none, some (.long v18_24), none]) dX12_two_244 (by decide) rfl ?_
                    refine j_iload (pc := 246) dX12_two_246 rfl ?_
                    refine j_if_le (pc := 248) (tgt := 254) dX12_two_248 (by decide) (fun c42 => ?_) (fun c42 => ?_)
                    · rw [if_pos c42] at H
                      refine j_aload_n (pc := 254) dX12_two_254 rfl ?_
                      refine j_iload (pc := 255) dX12_two_255 rfl ?_
                      obtain ⟨h43, eh43, H⟩ := bv_x H
                      refine j_callV (pc := 257) dX12_two_257 mlX12_210 wyX12_tell (tX12_tell eh43) (by decide) rfl rfl rfl rfl (by simp [Value.category]) rfl ?_
                      refine j_aload_n (pc := 260) dX12_two_260 rfl ?_
                      refine j_iload (pc := 261) dX12_two_261 rfl ?_
                      obtain ⟨h44, eh44, H⟩ := bv_x H
                      refine j_callV (pc := 263) dX12_two_263 mlX12_210 wyX12_tell (tX12_tell eh44) (by decide) rfl rfl rfl rfl (by simp [Value.category]) rfl ?_
                      refine j_aload_n (pc := 266) dX12_two_266 rfl ?_
                      refine j_iload (pc := 267) dX12_two_267 rfl ?_
                      obtain ⟨h45, eh45, H⟩ := bv_x H
                      refine j_callV (pc := 269) dX12_two_269 mlX12_210 wyX12_tell (tX12_tell eh45) (by decide) rfl rfl rfl rfl (by simp [Value.category]) rfl ?_
                      refine j_aload_n (pc := 272) dX12_two_272 rfl ?_
                      refine j_aload_n (pc := 273) dX12_two_273 rfl ?_
                      refine j_getR (pc := 274) (b := 5) dX12_two_274 flX12_22 rfl ?_
                      refine j_iload (pc := 277) dX12_two_277 rfl ?_
                      obtain ⟨b46, H⟩ := ck_x H
                      refine j_iaload (pc := 279) dX12_two_279 rfl b46 rfl ?_
                      refine j_i2l (pc := 280) dX12_two_280 ?_
                      refine j_lload (pc := 281) dX12_two_281 rfl ?_
                      refine j_ladd (pc := 283) dX12_two_283 ?_
                      refine j_l2i (pc := 284) dX12_two_284 ?_
                      obtain ⟨h47, eh47, H⟩ := bv_x H
                      refine j_callV (pc := 285) dX12_two_285 mlX12_210 wyX12_tell (tX12_tell eh47) (by decide) rfl rfl rfl rfl (by simp [Value.category]) rfl ?_
                      obtain ⟨v15_48, ev15_48, H⟩ := nm_x H
                      refine j_iinc (pc := 288) (L' := [some (.ref 0), none, none, none, none, some (.long v5), none, some (.long v7), none, some (.long v9), none, some (.int v11), some (.int v12), some (.int v13), some (.int (1 : Int32)), some (.int v15_48), some (.long v16_23), none, some (.long v18_24), none]) (w := 1) dX12_two_288 rfl (by decide) (by decide) v15_48 ev15_48 rfl ?_
                      refine j_goto (pc := 291) (tgt := 89) dX12_two_291 (by decide) ?_
                      refine Jx.sub (L' := [some (.ref 0), none, none, none, none, some (.long v5), none, some (.long v7), none, some (.long v9), none, some (.int v11), some (.int v12), some (.int v13), some (.int (1 : Int32)), some (.int v15_48), none, none, none, none]) (⟨rfl, ⟨rfl, ⟨rfl, ⟨rfl, ⟨rfl, ⟨rfl, ⟨rfl, ⟨rfl, ⟨rfl, trivial⟩⟩⟩⟩⟩⟩⟩⟩⟩) ?_
                      exact ih v5 v7 v9 v11 v12 v13 (1 : Int32) v15_48 h47 H
                    · rw [if_neg c42] at H
                      refine j_goto (pc := 251) (tgt := 288) dX12_two_251 (by decide) ?_
                      obtain ⟨v15_49, ev15_49, H⟩ := nm_x H
                      refine j_iinc (pc := 288) (L' := [some (.ref 0), none, none, none, none, some (.long v5), none, some (.long v7), none, some (.long v9), none, some (.int v11), some (.int v12), some (.int v13), some (.int (1 : Int32)), some (.int v15_49), some (.long v16_23), none, some (.long v18_24), none]) (w := 1) dX12_two_288 rfl (by decide) (by decide) v15_49 ev15_49 rfl ?_
                      refine j_goto (pc := 291) (tgt := 89) dX12_two_291 (by decide) ?_
                      refine Jx.sub (L' := [some (.ref 0), none, none, none, none, some (.long v5), none, some (.long v7), none, some (.long v9), none, some (.int v11), some (.int v12), some (.int v13), some (.int (1 : Int32)), some (.int v15_49), none, none, none, none]) (⟨rfl, ⟨rfl, ⟨rfl, ⟨rfl, ⟨rfl, ⟨rfl, ⟨rfl, ⟨rfl, ⟨rfl, trivial⟩⟩⟩⟩⟩⟩⟩⟩⟩) ?_
                      exact ih v5 v7 v9 v11 v12 v13 (1 : Int32) v15_49 h H
                  · rw [if_neg c41] at H
                    refine j_goto (pc := 240) (tgt := 288) dX12_two_240 (by decide) ?_
                    obtain ⟨v15_50, ev15_50, H⟩ := nm_x H
                    refine j_iinc (pc := 288) (L' := [some (.ref 0), none, none, none, none, some (.long v5), none, some (.long v7), none, some (.long v9), none, some (.int v11), some (.int v12), some (.int v13), some (.int v14), some (.int v15_50), some (.long v16_23), none, some (.long v18_24), none]) (w := 1) dX12_two_288 rfl (by decide) (by decide) v15_50 ev15_50 rfl ?_
                    refine j_goto (pc := 291) (tgt := 89) dX12_two_291 (by decide) ?_
                    refine Jx.sub (L' := [some (.ref 0), none, none, none, none, some (.long v5), none, some (.long v7), none, some (.long v9), none, some (.int v11), some (.int v12), some (.int v13), some (.int v14), some (.int v15_50), none, none, none, none]) (⟨rfl, ⟨rfl, ⟨rfl, ⟨rfl, ⟨rfl, ⟨rfl, ⟨rfl, ⟨rfl, ⟨rfl, trivial⟩⟩⟩⟩⟩⟩⟩⟩⟩) ?_
                    exact ih v5 v7 v9 v11 v12 v13 v14 v15_50 h H
              · rw [if_neg c34] at H
                refine j_goto (pc := 179) (tgt := 288) dX12_two_179 (by decide) ?_
                obtain ⟨v15_51, ev15_51, H⟩ := nm_x H
                refine j_iinc (pc := 288) (L' := [some (.ref 0), none, none, none, none, some (.long v5), none, some (.long v7), none, some (.long v9), none, some (.int v11), some (.int v12), some (.int v13), some (.int v14), some (.int v15_51), some (.long v16_23), none, some (.long v18_24), none]) (w := 1) dX12_two_288 rfl (by decide) (by decide) v15_51 ev15_51 rfl ?_
                refine j_goto (pc := 291) (tgt := 89) dX12_two_291 (by decide) ?_
                refine Jx.sub (L' := [some (.ref 0), none, none, none, none, some (.long v5), none, some (.long v7), none, some (.long v9), none, some (.int v11), some (.int v12), some (.int v13), some (.int v14), some (.int v15_51), none, none, none, none]) (⟨rfl, ⟨rfl, ⟨rfl, ⟨rfl, ⟨rfl, ⟨rfl, ⟨rfl, ⟨rfl, ⟨rfl, trivial⟩⟩⟩⟩⟩⟩⟩⟩⟩) ?_
                exact ih v5 v7 v9 v11 v12 v13 v14 v15_51 h H
noncomputable def fX12_two_74 (k59 : Int64 → Int64 → Int64 → Int32 → Int32 → HS → Option (Int32 × HS)) : Nat → Int64 → Int64 → Int64 → Int32 → Int32 → Int32 → HS → Option (Int32 × HS)
  | 0, _, _, _, _, _, _, _ => none
  | n + 1, v5, v7, v9, v11, v12, v13, h => if (gI h 0 0) ≤ v13 then (nm (v12 + (1 : Int32)) (fun v12_18 => k59 v5 v7 v9 v11 v12_18 h)) else (fX12_two_89 k59 (fX12_two_74 k59 n) FU v5 v7 v9 v11 v12 v13 (0 : Int32) (0 : Int32) h)
set_option maxRecDepth 100000 in
theorem jX12_two_74 {r : Int32} {h0 : HS} (k59 : Int64 → Int64 → Int64 → Int32 → Int32 → HS → Option (Int32 × HS)) (hk59 : ∀ (v5 : Int64) (v7 : Int64) (v9 : Int64) (v11 : Int32) (v12 : Int32) (h : HS), k59 v5 v7 v9 v11 v12 h = some (r, h0) → Jx skM RX12 cX12_two 20 (some .int) 3 (some (.int r)) h0 59 [some (.ref 0), none, none, none, none, some (.long v5), none, some (.long v7), none, some (.long v9), none, some (.int v11), some (.int v12), none, none, none, none, none, none, none] [] h) : ∀ (n : Nat) (v5 : Int64) (v7 : Int64) (v9 : Int64) (v11 : Int32) (v12 : Int32) (v13 : Int32) (h : HS), fX12_two_74 k59 n v5 v7 v9 v11 v12 v13 h = some (r, h0) → Jx skM RX12 cX12_two 20 (some .int) 3 (some (.int r)) h0 74 [some (.ref 0), none, none, none, none, some (.long v5), none, some (.long v7), none, some (.long v9), none, some (.int v11), some (.int v12), some (.int v13), none, none, none, none, none, none] [] h := by
  intro n
  induction n with
  | zero => intro v5 v7 v9 v11 v12 v13  h H; cases H
  | succ n ih =>
    intro v5 v7 v9 v11 v12 v13  h H
    rw [fX12_two_74] at H
    refine j_iload (pc := 74) dX12_two_74 rfl ?_
    refine j_aload_n (pc := 76) dX12_two_76 rfl ?_
    refine j_getI (pc := 77) dX12_two_77 flX12_139 rfl ?_
    refine j_icmp_ge (pc := 80) (tgt := 315) dX12_two_80 (by decide) (fun c17 => ?_) (fun c17 => ?_)
    · rw [if_pos c17] at H
      obtain ⟨v12_18, ev12_18, H⟩ := nm_x H
      refine j_iinc (pc := 315) (L' := [some (.ref 0), none, none, none, none, some (.long v5), none, some (.long v7), none, some (.long v9), none, some (.int v11), some (.int v12_18), some (.int v13), none, none, none, none, none, none]) (w := 1) dX12_two_315 rfl (by decide) (by decide) v12_18 ev12_18 rfl ?_
      refine j_goto (pc := 318) (tgt := 59) dX12_two_318 (by decide) ?_
      refine Jx.sub (L' := [some (.ref 0), none, none, none, none, some (.long v5), none, some (.long v7), none, some (.long v9), none, some (.int v11), some (.int v12_18), none, none, none, none, none, none, none]) (⟨rfl, ⟨rfl, ⟨rfl, ⟨rfl, ⟨rfl, ⟨rfl, trivial⟩⟩⟩⟩⟩⟩) ?_
      exact hk59 v5 v7 v9 v11 v12_18 h H
    · rw [if_neg c17] at H
      refine j_iconst (pc := 83) (v := 0) dX12_two_83 (by decide) ?_
      refine j_istore (pc := 84) (L' := [some (.ref 0), none, none, none, none, some (.long v5), none, some (.long v7), none, some (.long v9), none, some (.int v11), some (.int v12), some (.int v13), some (.int (0 : Int32)), none, none, none, none, none]) dX12_two_84 (by decide) rfl ?_
      refine j_iconst (pc := 86) (v := 0) dX12_two_86 (by decide) ?_
      refine j_istore (pc := 87) (L' := [some (.ref 0), none, none, none, none, some (.long v5), none, some (.long v7), none, some (.long v9), none, some (.int v11), some (.int v12), some (.int v13), some (.int (0 : Int32)), some (.int (0 : Int32)), none, none, none, none]) dX12_two_87 (by decide) rfl ?_
      refine Jx.sub (L' := [some (.ref 0), none, none, none, none, some (.long v5), none, some (.long v7), none, some (.long v9), none, some (.int v11), some (.int v12), some (.int v13), some (.int (0 : Int32)), some (.int (0 : Int32)), none, none, none, none]) (⟨rfl, ⟨rfl, ⟨rfl, ⟨rfl, ⟨rfl, ⟨rfl, ⟨rfl, ⟨rfl, ⟨rfl, trivial⟩⟩⟩⟩⟩⟩⟩⟩⟩) ?_
      exact jX12_two_89 _ _ hk59 ih FU v5 v7 v9 v11 v12 v13 (0 : Int32) (0 : Int32) h H
noncomputable def fX12_two_59 : Nat → Int64 → Int64 → Int64 → Int32 → Int32 → HS → Option (Int32 × HS)
  | 0, _, _, _, _, _, _ => none
  | n + 1, v5, v7, v9, v11, v12, h => if (gI h 0 0) ≤ v12 then (some (v11, h)) else (nm ((v12 + (1 : Int32))) (fun v13_16 => fX12_two_74 (fX12_two_59 n) FU v5 v7 v9 v11 v12 v13_16 h))
set_option maxRecDepth 100000 in
theorem jX12_two_59 {r : Int32} {h0 : HS} : ∀ (n : Nat) (v5 : Int64) (v7 : Int64) (v9 : Int64) (v11 : Int32) (v12 : Int32) (h : HS), fX12_two_59 n v5 v7 v9 v11 v12 h = some (r, h0) → Jx skM RX12 cX12_two 20 (some .int) 3 (some (.int r)) h0 59 [some (.ref 0), none, none, none, none, some (.long v5), none, some (.long v7), none, some (.long v9), none, some (.int v11), some (.int v12), none, none, none, none, none, none, none] [] h := by
  intro n
  induction n with
  | zero => intro v5 v7 v9 v11 v12  h H; cases H
  | succ n ih =>
    intro v5 v7 v9 v11 v12  h H
    rw [fX12_two_59] at H
    refine j_iload (pc := 59) dX12_two_59 rfl ?_
    refine j_aload_n (pc := 61) dX12_two_61 rfl ?_
    refine j_getI (pc := 62) dX12_two_62 flX12_139 rfl ?_
    refine j_icmp_ge (pc := 65) (tgt := 321) dX12_two_65 (by decide) (fun c15 => ?_) (fun c15 => ?_)
    · rw [if_pos c15] at H
      refine j_iload (pc := 321) dX12_two_321 rfl ?_
      exact j_ireturn (pc := 323) dX12_two_323 rfl (ri_1 H) (ri_2 H)
    · rw [if_neg c15] at H
      refine j_iload (pc := 68) dX12_two_68 rfl ?_
      refine j_iconst (pc := 70) (v := 1) dX12_two_70 (by decide) ?_
      refine j_iadd (pc := 71) dX12_two_71 ?_
      obtain ⟨v13_16, ev13_16, H⟩ := nm_x H
      refine j_topi ev13_16 ?_
      refine j_istore (pc := 72) (L' := [some (.ref 0), none, none, none, none, some (.long v5), none, some (.long v7), none, some (.long v9), none, some (.int v11), some (.int v12), some (.int v13_16), none, none, none, none, none, none]) dX12_two_72 (by decide) rfl ?_
      refine Jx.sub (L' := [some (.ref 0), none, none, none, none, some (.long v5), none, some (.long v7), none, some (.long v9), none, some (.int v11), some (.int v12), some (.int v13_16), none, none, none, none, none, none]) (⟨rfl, ⟨rfl, ⟨rfl, ⟨rfl, ⟨rfl, ⟨rfl, ⟨rfl, trivial⟩⟩⟩⟩⟩⟩⟩) ?_
      exact jX12_two_74 _ ih FU v5 v7 v9 v11 v12 v13_16 h H
noncomputable def fX12_two (p1 : Int32) (p2 : Int32) (p3 : Int32) (p4 : Int32) (h : HS) : Option (Int32 × HS) := nm (pI h 0 22 (0 : Int32)) (fun h1 => bd (fX12_isDepth p1 h1) (fun r3 h2 => if r3 = 0 then (some ((-1 : Int32), h2)) else (bd (fX12_heavyAt p1 h2) (fun r6 h5 => nm (((p2.toInt64) - (r6.toInt64))) (fun v5_7 => bd (fX12_momentOf (0 : Int32) h5) (fun r9 h8 => nm (((p3.toInt64) - (r9.toInt64))) (fun v7_10 => bd (fX12_momentOf (1 : Int32) h8) (fun r12 h11 => nm (((p4.toInt64) - (r12.toInt64))) (fun v9_13 => nm (pI h11 0 21 (0 : Int32)) (fun h14 => fX12_two_59 FU v5_7 v7_10 v9_13 (0 : Int32) (0 : Int32) h14))))))))))
set_option maxRecDepth 100000 in
theorem tX12_two {p1 : Int32} {p2 : Int32} {p3 : Int32} {p4 : Int32} {r : Int32} {h h0 : HS} (H : fX12_two p1 p2 p3 p4 h = some (r, h0)) : Cn skM yX12_two cX12_two 20 (some .int) 3 [.ref 0, .int p1, .int p2, .int p3, .int p4] h (some (.int r)) h0 := by
  refine Cn_of (L := [some (.ref 0), some (.int p1), some (.int p2), some (.int p3), some (.int p4), none, none, none, none, none, none, none, none, none, none, none, none, none, none, none]) (by decide +kernel) (by simp [lg_sl, Value.category]) (fun ad => by simp [lg_sl, tv, Value.category]) (⟨rfl, ⟨rfl, ⟨rfl, ⟨rfl, ⟨rfl, trivial⟩⟩⟩⟩⟩) ?_
  unfold fX12_two at H
  refine j_aload_n (pc := 0) dX12_two_0 rfl ?_
  refine j_iconst (pc := 1) (v := 0) dX12_two_1 (by decide) ?_
  obtain ⟨h1, eh1, H⟩ := nm_x H
  refine j_putI (pc := 2) dX12_two_2 fpX12_133 rfl h1 eh1 ?_
  refine j_iload_n (pc := 5) dX12_two_5 rfl ?_
  obtain ⟨r3, h2, eh2, H⟩ := bd_x H
  refine j_callS (pc := 6) dX12_two_6 mlX12_178 wyX12_isDepth (tX12_isDepth eh2) (by decide) rfl (by simp [Value.category]) rfl ?_
  refine j_if_ne (pc := 9) (tgt := 14) dX12_two_9 (by decide) (fun c4 => ?_) (fun c4 => ?_)
  · rw [if_neg c4] at H
    refine j_iload_n (pc := 14) dX12_two_14 rfl ?_
    refine j_i2l (pc := 15) dX12_two_15 ?_
    refine j_aload_n (pc := 16) dX12_two_16 rfl ?_
    refine j_iload_n (pc := 17) dX12_two_17 rfl ?_
    obtain ⟨r6, h5, eh5, H⟩ := bd_x H
    refine j_callV (pc := 18) dX12_two_18 mlX12_198 wyX12_heavyAt (tX12_heavyAt eh5) (by decide) rfl rfl rfl rfl (by simp [Value.category]) rfl ?_
    refine j_i2l (pc := 21) dX12_two_21 ?_
    refine j_lsub (pc := 22) dX12_two_22 ?_
    obtain ⟨v5_7, ev5_7, H⟩ := nm_x H
    refine j_topl ev5_7 ?_
    refine j_lstore (pc := 23) (L' := [some (.ref 0), some (.int p1), some (.int p2), some (.int p3), some (.int p4), some (.long v5_7), none, none, none, none, none, none, none, none, none, none, none, none, none, none]) dX12_two_23 (by decide) rfl ?_
    refine j_iload_n (pc := 25) dX12_two_25 rfl ?_
    refine j_i2l (pc := 26) dX12_two_26 ?_
    refine j_aload_n (pc := 27) dX12_two_27 rfl ?_
    refine j_iconst (pc := 28) (v := 0) dX12_two_28 (by decide) ?_
    obtain ⟨r9, h8, eh8, H⟩ := bd_x H
    refine j_callV (pc := 29) dX12_two_29 mlX12_204 wyX12_momentOf (tX12_momentOf eh8) (by decide) rfl rfl rfl rfl (by simp [Value.category]) rfl ?_
    refine j_i2l (pc := 32) dX12_two_32 ?_
    refine j_lsub (pc := 33) dX12_two_33 ?_
    obtain ⟨v7_10, ev7_10, H⟩ := nm_x H
    refine j_topl ev7_10 ?_
    refine j_lstore (pc := 34) (L' := [some (.ref 0), some (.int p1), some (.int p2), some (.int p3), some (.int p4), some (.long v5_7), none, some (.long v7_10), none, none, none, none, none, none, none, none, none, none, none, none]) dX12_two_34 (by decide) rfl ?_
    refine j_iload (pc := 36) dX12_two_36 rfl ?_
    refine j_i2l (pc := 38) dX12_two_38 ?_
    refine j_aload_n (pc := 39) dX12_two_39 rfl ?_
    refine j_iconst (pc := 40) (v := 1) dX12_two_40 (by decide) ?_
    obtain ⟨r12, h11, eh11, H⟩ := bd_x H
    refine j_callV (pc := 41) dX12_two_41 mlX12_204 wyX12_momentOf (tX12_momentOf eh11) (by decide) rfl rfl rfl rfl (by simp [Value.category]) rfl ?_
    refine j_i2l (pc := 44) dX12_two_44 ?_
    refine j_lsub (pc := 45) dX12_two_45 ?_
    obtain ⟨v9_13, ev9_13, H⟩ := nm_x H
    refine j_topl ev9_13 ?_
    refine j_lstore (pc := 46) (L' := [some (.ref 0), some (.int p1), some (.int p2), some (.int p3), some (.int p4), some (.long v5_7), none, some (.long v7_10), none, some (.long v9_13), none, none, none, none, none, none, none, none, none, none]) dX12_two_46 (by decide) rfl ?_
    refine j_iconst (pc := 48) (v := 0) dX12_two_48 (by decide) ?_
    refine j_istore (pc := 49) (L' := [some (.ref 0), some (.int p1), some (.int p2), some (.int p3), some (.int p4), some (.long v5_7), none, some (.long v7_10), none, some (.long v9_13), none, some (.int (0 : Int32)), none, none, none, none, none, none, none, none]) dX12_two_49 (by decide) rfl ?_
    refine j_aload_n (pc := 51) dX12_two_51 rfl ?_
    refine j_iconst (pc := 52) (v := 0) dX12_two_52 (by decide) ?_
    obtain ⟨h14, eh14, H⟩ := nm_x H
    refine j_putI (pc := 53) dX12_two_53 fpX12_136 rfl h14 eh14 ?_
    refine j_iconst (pc := 56) (v := 0) dX12_two_56 (by decide) ?_
    refine j_istore (pc := 57) (L' := [some (.ref 0), some (.int p1), some (.int p2), some (.int p3), some (.int p4), some (.long v5_7), none, some (.long v7_10), none, some (.long v9_13), none, some (.int (0 : Int32)), some (.int (0 : Int32)), none, none, none, none, none, none, none]) dX12_two_57 (by decide) rfl ?_
    refine Jx.sub (L' := [some (.ref 0), none, none, none, none, some (.long v5_7), none, some (.long v7_10), none, some (.long v9_13), none, some (.int (0 : Int32)), some (.int (0 : Int32)), none, none, none, none, none, none, none]) (⟨rfl, ⟨rfl, ⟨rfl, ⟨rfl, ⟨rfl, ⟨rfl, trivial⟩⟩⟩⟩⟩⟩) ?_
    exact jX12_two_59 FU v5_7 v7_10 v9_13 (0 : Int32) (0 : Int32) h14 H
  · rw [if_pos c4] at H
    refine j_iconst (pc := 12) (v := -1) dX12_two_12 (by decide) ?_
    exact j_ireturn (pc := 13) dX12_two_13 rfl (ri_1 H) (ri_2 H)

noncomputable def fX12_isEnd_14 (h : HS) : Option (Int32 × HS) := some ((1 : Int32), h)
set_option maxRecDepth 100000 in
theorem jX12_isEnd_14 {r : Int32} {h0 : HS} (h : HS) (H : fX12_isEnd_14 h = some (r, h0)) : Jx skM RX12 cX12_isEnd 2 (some .boolean) 3 (some (.int r)) h0 14 [none, none] [] h := by
  unfold fX12_isEnd_14 at H
  refine j_iconst (pc := 14) (v := 1) dX12_isEnd_14 (by decide) ?_
  refine j_goto (pc := 15) (tgt := 19) dX12_isEnd_15 (by decide) ?_
  exact j_zreturn (pc := 19) dX12_isEnd_19 rfl (rz1 H) (ri_2 H)
noncomputable def fX12_isEnd (p1 : Int32) (h : HS) : Option (Int32 × HS) := if p1 = (-1 : Int32) then (fX12_isEnd_14 h) else (bd (fX12_isOf p1 (0 : Int32) h) (fun r3 h2 => if r3 = 0 then (some ((0 : Int32), h2)) else (fX12_isEnd_14 h2)))
set_option maxRecDepth 100000 in
theorem tX12_isEnd {p1 : Int32} {r : Int32} {h h0 : HS} (H : fX12_isEnd p1 h = some (r, h0)) : Cn skM yX12_isEnd cX12_isEnd 2 (some .boolean) 3 [.ref 0, .int p1] h (some (.int r)) h0 := by
  refine Cn_of (L := [some (.ref 0), some (.int p1)]) (by decide +kernel) (by simp [lg_sl, Value.category]) (fun ad => by simp [lg_sl, tv, Value.category]) (⟨rfl, ⟨rfl, trivial⟩⟩) ?_
  unfold fX12_isEnd at H
  refine j_iload_n (pc := 0) dX12_isEnd_0 rfl ?_
  refine j_iconst (pc := 1) (v := -1) dX12_isEnd_1 (by decide) ?_
  refine j_icmp_eq (pc := 2) (tgt := 14) dX12_isEnd_2 (by decide) (fun c1 => ?_) (fun c1 => ?_)
  · rw [if_pos c1] at H
    refine Jx.sub (L' := [none, none]) (trivial) ?_
    exact jX12_isEnd_14 h H
  · rw [if_neg c1] at H
    refine j_aload_n (pc := 5) dX12_isEnd_5 rfl ?_
    refine j_iload_n (pc := 6) dX12_isEnd_6 rfl ?_
    refine j_iconst (pc := 7) (v := 0) dX12_isEnd_7 (by decide) ?_
    obtain ⟨r3, h2, eh2, H⟩ := bd_x H
    refine j_callV (pc := 8) dX12_isEnd_8 mlX12_284 wyX12_isOf (tX12_isOf eh2) (by decide) rfl rfl rfl rfl (by simp [Value.category]) rfl ?_
    refine j_if_eq (pc := 11) (tgt := 18) dX12_isEnd_11 (by decide) (fun c4 => ?_) (fun c4 => ?_)
    · rw [if_pos c4] at H
      refine j_iconst (pc := 18) (v := 0) dX12_isEnd_18 (by decide) ?_
      exact j_zreturn (pc := 19) dX12_isEnd_19 rfl (rz0 H) (ri_2 H)
    · rw [if_neg c4] at H
      refine Jx.sub (L' := [none, none]) (trivial) ?_
      exact jX12_isEnd_14 h2 H

noncomputable def fX12_pump (p1 : Int32) (p2 : Int32) (p3 : Int32) (p4 : Int32) (h : HS) : Option (Int32 × HS) := nm (pI h 0 22 (0 : Int32)) (fun h1 => bd (fX12_isEnd p1 h1) (fun r3 h2 => if r3 = 0 then (some ((-1 : Int32), h2)) else (bd (fX12_isEnd p2 h2) (fun r6 h5 => if r6 = 0 then (some ((-1 : Int32), h5)) else (if p1 = p2 then (some ((-1 : Int32), h5)) else (bd (fX12_in p3 (1 : Int32) (50 : Int32) h5) (fun r10 h9 => if r10 = 0 then (some ((-1 : Int32), h9)) else (if (gI h9 0 39) = (6 : Int32) then (some ((-1 : Int32), h9)) else (ck (inb (gI h9 0 39) 6) (nm (pI h9 17 (gI h9 0 39).toNatClampNeg p1) (fun h13 => ck (inb (gI h13 0 39) 6) (nm (pI h13 18 (gI h13 0 39).toNatClampNeg p2) (fun h15 => ck (inb (gI h15 0 39) 6) (nm (pI h15 19 (gI h15 0 39).toNatClampNeg p3) (fun h17 => ck (inb (gI h17 0 39) 6) (nm (pI h17 20 (gI h17 0 39).toNatClampNeg (vp_nar .boolean p4)) (fun h19 => nm (pI h19 0 39 ((gI h19 0 39) + (1 : Int32))) (fun h21 => some (((gI h21 0 39) - (1 : Int32)), h21)))))))))))))))))))
set_option maxRecDepth 100000 in
theorem tX12_pump {p1 : Int32} {p2 : Int32} {p3 : Int32} {p4 : Int32} {r : Int32} {h h0 : HS} (H : fX12_pump p1 p2 p3 p4 h = some (r, h0)) : Cn skM yX12_pump cX12_pump 5 (some .int) 4 [.ref 0, .int p1, .int p2, .int p3, .int p4] h (some (.int r)) h0 := by
  refine Cn_of (L := [some (.ref 0), some (.int p1), some (.int p2), some (.int p3), some (.int p4)]) (by decide +kernel) (by simp [lg_sl, Value.category]) (fun ad => by simp [lg_sl, tv, Value.category]) (⟨rfl, ⟨rfl, ⟨rfl, ⟨rfl, ⟨rfl, trivial⟩⟩⟩⟩⟩) ?_
  unfold fX12_pump at H
  refine j_aload_n (pc := 0) dX12_pump_0 rfl ?_
  refine j_iconst (pc := 1) (v := 0) dX12_pump_1 (by decide) ?_
  obtain ⟨h1, eh1, H⟩ := nm_x H
  refine j_putI (pc := 2) dX12_pump_2 fpX12_133 rfl h1 eh1 ?_
  refine j_aload_n (pc := 5) dX12_pump_5 rfl ?_
  refine j_iload_n (pc := 6) dX12_pump_6 rfl ?_
  obtain ⟨r3, h2, eh2, H⟩ := bd_x H
  refine j_callV (pc := 7) dX12_pump_7 mlX12_301 wyX12_isEnd (tX12_isEnd eh2) (by decide) rfl rfl rfl rfl (by simp [Value.category]) rfl ?_
  refine j_if_eq (pc := 10) (tgt := 45) dX12_pump_10 (by decide) (fun c4 => ?_) (fun c4 => ?_)
  · rw [if_pos c4] at H
    refine j_iconst (pc := 45) (v := -1) dX12_pump_45 (by decide) ?_
    exact j_ireturn (pc := 46) dX12_pump_46 rfl (ri_1 H) (ri_2 H)
  · rw [if_neg c4] at H
    refine j_aload_n (pc := 13) dX12_pump_13 rfl ?_
    refine j_iload_n (pc := 14) dX12_pump_14 rfl ?_
    obtain ⟨r6, h5, eh5, H⟩ := bd_x H
    refine j_callV (pc := 15) dX12_pump_15 mlX12_301 wyX12_isEnd (tX12_isEnd eh5) (by decide) rfl rfl rfl rfl (by simp [Value.category]) rfl ?_
    refine j_if_eq (pc := 18) (tgt := 45) dX12_pump_18 (by decide) (fun c7 => ?_) (fun c7 => ?_)
    · rw [if_pos c7] at H
      refine j_iconst (pc := 45) (v := -1) dX12_pump_45 (by decide) ?_
      exact j_ireturn (pc := 46) dX12_pump_46 rfl (ri_1 H) (ri_2 H)
    · rw [if_neg c7] at H
      refine j_iload_n (pc := 21) dX12_pump_21 rfl ?_
      refine j_iload_n (pc := 22) dX12_pump_22 rfl ?_
      refine j_icmp_eq (pc := 23) (tgt := 45) dX12_pump_23 (by decide) (fun c8 => ?_) (fun c8 => ?_)
      · rw [if_pos c8] at H
        refine j_iconst (pc := 45) (v := -1) dX12_pump_45 (by decide) ?_
        exact j_ireturn (pc := 46) dX12_pump_46 rfl (ri_1 H) (ri_2 H)
      · rw [if_neg c8] at H
        refine j_iload_n (pc := 26) dX12_pump_26 rfl ?_
        refine j_iconst (pc := 27) (v := 1) dX12_pump_27 (by decide) ?_
        refine j_bipush (pc := 28) (v := 50) dX12_pump_28 (by decide) ?_
        obtain ⟨r10, h9, eh9, H⟩ := bd_x H
        refine j_callS (pc := 30) dX12_pump_30 mlX12_142 wyX12_in (tX12_in eh9) (by decide) rfl (by simp [Value.category]) rfl ?_
        refine j_if_eq (pc := 33) (tgt := 45) dX12_pump_33 (by decide) (fun c11 => ?_) (fun c11 => ?_)
        · rw [if_pos c11] at H
          refine j_iconst (pc := 45) (v := -1) dX12_pump_45 (by decide) ?_
          exact j_ireturn (pc := 46) dX12_pump_46 rfl (ri_1 H) (ri_2 H)
        · rw [if_neg c11] at H
          refine j_aload_n (pc := 36) dX12_pump_36 rfl ?_
          refine j_getI (pc := 37) dX12_pump_37 flX12_304 rfl ?_
          refine j_bipush (pc := 40) (v := 6) dX12_pump_40 (by decide) ?_
          refine j_icmp_ne (pc := 42) (tgt := 47) dX12_pump_42 (by decide) (fun c12 => ?_) (fun c12 => ?_)
          · rw [if_neg c12] at H
            refine j_aload_n (pc := 47) dX12_pump_47 rfl ?_
            refine j_getR (pc := 48) (b := 17) dX12_pump_48 flX12_66 rfl ?_
            refine j_aload_n (pc := 51) dX12_pump_51 rfl ?_
            refine j_getI (pc := 52) dX12_pump_52 flX12_304 rfl ?_
            refine j_iload_n (pc := 55) dX12_pump_55 rfl ?_
            obtain ⟨b14, H⟩ := ck_x H
            obtain ⟨h13, eh13, H⟩ := nm_x H
            refine j_iastore (pc := 56) dX12_pump_56 rfl b14 rfl h13 eh13 ?_
            refine j_aload_n (pc := 57) dX12_pump_57 rfl ?_
            refine j_getR (pc := 58) (b := 18) dX12_pump_58 flX12_69 rfl ?_
            refine j_aload_n (pc := 61) dX12_pump_61 rfl ?_
            refine j_getI (pc := 62) dX12_pump_62 flX12_304 rfl ?_
            refine j_iload_n (pc := 65) dX12_pump_65 rfl ?_
            obtain ⟨b16, H⟩ := ck_x H
            obtain ⟨h15, eh15, H⟩ := nm_x H
            refine j_iastore (pc := 66) dX12_pump_66 rfl b16 rfl h15 eh15 ?_
            refine j_aload_n (pc := 67) dX12_pump_67 rfl ?_
            refine j_getR (pc := 68) (b := 19) dX12_pump_68 flX12_72 rfl ?_
            refine j_aload_n (pc := 71) dX12_pump_71 rfl ?_
            refine j_getI (pc := 72) dX12_pump_72 flX12_304 rfl ?_
            refine j_iload_n (pc := 75) dX12_pump_75 rfl ?_
            obtain ⟨b18, H⟩ := ck_x H
            obtain ⟨h17, eh17, H⟩ := nm_x H
            refine j_iastore (pc := 76) dX12_pump_76 rfl b18 rfl h17 eh17 ?_
            refine j_aload_n (pc := 77) dX12_pump_77 rfl ?_
            refine j_getR (pc := 78) (b := 20) dX12_pump_78 flX12_75 rfl ?_
            refine j_aload_n (pc := 81) dX12_pump_81 rfl ?_
            refine j_getI (pc := 82) dX12_pump_82 flX12_304 rfl ?_
            refine j_iload (pc := 85) dX12_pump_85 rfl ?_
            obtain ⟨b20, H⟩ := ck_x H
            obtain ⟨h19, eh19, H⟩ := nm_x H
            refine j_zastore (pc := 87) dX12_pump_87 rfl b20 rfl h19 eh19 ?_
            refine j_aload_n (pc := 88) dX12_pump_88 rfl ?_
            refine j_dup (pc := 89) dX12_pump_89 rfl ?_
            refine j_getI (pc := 90) dX12_pump_90 flX12_304 rfl ?_
            refine j_iconst (pc := 93) (v := 1) dX12_pump_93 (by decide) ?_
            refine j_iadd (pc := 94) dX12_pump_94 ?_
            obtain ⟨h21, eh21, H⟩ := nm_x H
            refine j_putI (pc := 95) dX12_pump_95 fpX12_304 rfl h21 eh21 ?_
            refine j_aload_n (pc := 98) dX12_pump_98 rfl ?_
            refine j_getI (pc := 99) dX12_pump_99 flX12_304 rfl ?_
            refine j_iconst (pc := 102) (v := 1) dX12_pump_102 (by decide) ?_
            refine j_isub (pc := 103) dX12_pump_103 ?_
            exact j_ireturn (pc := 104) dX12_pump_104 rfl (ri_1 H) (ri_2 H)
          · rw [if_pos c12] at H
            refine j_iconst (pc := 45) (v := -1) dX12_pump_45 (by decide) ?_
            exact j_ireturn (pc := 46) dX12_pump_46 rfl (ri_1 H) (ri_2 H)

noncomputable def fX12_runs_106 (v4 : Int32) (v5 : Int32) (h : HS) : Option (Int32 × HS) := if v4 = (-1 : Int32) then (some (v5, h)) else (ck (inb v4 15) (ck (inb v4 15) (nm (pI h 5 v4.toNatClampNeg ((gI h 5 v4.toNatClampNeg) + v5)) (fun h22 => some (v5, h22)))))
set_option maxRecDepth 100000 in
theorem jX12_runs_106 {r : Int32} {h0 : HS} (v4 : Int32) (v5 : Int32) (h : HS) (H : fX12_runs_106 v4 v5 h = some (r, h0)) : Jx skM RX12 cX12_runs 6 (some .int) 1 (some (.int r)) h0 106 [some (.ref 0), none, none, none, some (.int v4), some (.int v5)] [] h := by
  unfold fX12_runs_106 at H
  refine j_iload (pc := 106) dX12_runs_106 rfl ?_
  refine j_iconst (pc := 108) (v := -1) dX12_runs_108 (by decide) ?_
  refine j_icmp_eq (pc := 109) (tgt := 124) dX12_runs_109 (by decide) (fun c20 => ?_) (fun c20 => ?_)
  · rw [if_pos c20] at H
    refine j_iload (pc := 124) dX12_runs_124 rfl ?_
    exact j_ireturn (pc := 126) dX12_runs_126 rfl (ri_1 H) (ri_2 H)
  · rw [if_neg c20] at H
    refine j_aload_n (pc := 112) dX12_runs_112 rfl ?_
    refine j_getR (pc := 113) (b := 5) dX12_runs_113 flX12_22 rfl ?_
    refine j_iload (pc := 116) dX12_runs_116 rfl ?_
    refine j_dup2 (pc := 118) dX12_runs_118 rfl rfl ?_
    obtain ⟨b21, H⟩ := ck_x H
    refine j_iaload (pc := 119) dX12_runs_119 rfl b21 rfl ?_
    refine j_iload (pc := 120) dX12_runs_120 rfl ?_
    refine j_iadd (pc := 122) dX12_runs_122 ?_
    obtain ⟨b23, H⟩ := ck_x H
    obtain ⟨h22, eh22, H⟩ := nm_x H
    refine j_iastore (pc := 123) dX12_runs_123 rfl b23 rfl h22 eh22 ?_
    refine j_iload (pc := 124) dX12_runs_124 rfl ?_
    exact j_ireturn (pc := 126) dX12_runs_126 rfl (ri_1 H) (ri_2 H)
noncomputable def fX12_runs_90 (v3 : Int32) (v4 : Int32) (v5 : Int32) (h : HS) : Option (Int32 × HS) := if v3 = (-1 : Int32) then (fX12_runs_106 v4 v5 h) else (ck (inb v3 15) (ck (inb v3 15) (nm (pI h 5 v3.toNatClampNeg ((gI h 5 v3.toNatClampNeg) - v5)) (fun h18 => fX12_runs_106 v4 v5 h18))))
set_option maxRecDepth 100000 in
theorem jX12_runs_90 {r : Int32} {h0 : HS} (v3 : Int32) (v4 : Int32) (v5 : Int32) (h : HS) (H : fX12_runs_90 v3 v4 v5 h = some (r, h0)) : Jx skM RX12 cX12_runs 6 (some .int) 1 (some (.int r)) h0 90 [some (.ref 0), none, none, some (.int v3), some (.int v4), some (.int v5)] [] h := by
  unfold fX12_runs_90 at H
  refine j_iload_n (pc := 90) dX12_runs_90 rfl ?_
  refine j_iconst (pc := 91) (v := -1) dX12_runs_91 (by decide) ?_
  refine j_icmp_eq (pc := 92) (tgt := 106) dX12_runs_92 (by decide) (fun c16 => ?_) (fun c16 => ?_)
  · rw [if_pos c16] at H
    refine Jx.sub (L' := [some (.ref 0), none, none, none, some (.int v4), some (.int v5)]) (⟨rfl, ⟨rfl, ⟨rfl, trivial⟩⟩⟩) ?_
    exact jX12_runs_106 v4 v5 h H
  · rw [if_neg c16] at H
    refine j_aload_n (pc := 95) dX12_runs_95 rfl ?_
    refine j_getR (pc := 96) (b := 5) dX12_runs_96 flX12_22 rfl ?_
    refine j_iload_n (pc := 99) dX12_runs_99 rfl ?_
    refine j_dup2 (pc := 100) dX12_runs_100 rfl rfl ?_
    obtain ⟨b17, H⟩ := ck_x H
    refine j_iaload (pc := 101) dX12_runs_101 rfl b17 rfl ?_
    refine j_iload (pc := 102) dX12_runs_102 rfl ?_
    refine j_isub (pc := 104) dX12_runs_104 ?_
    obtain ⟨b19, H⟩ := ck_x H
    obtain ⟨h18, eh18, H⟩ := nm_x H
    refine j_iastore (pc := 105) dX12_runs_105 rfl b19 rfl h18 eh18 ?_
    refine Jx.sub (L' := [some (.ref 0), none, none, none, some (.int v4), some (.int v5)]) (⟨rfl, ⟨rfl, ⟨rfl, trivial⟩⟩⟩) ?_
    exact jX12_runs_106 v4 v5 h18 H
noncomputable def fX12_runs_70 (v3 : Int32) (v4 : Int32) (v5 : Int32) (h : HS) : Option (Int32 × HS) := if v4 = (-1 : Int32) then (fX12_runs_90 v3 v4 v5 h) else (bd (fX12_roomOf v4 h) (fun r14 h13 => if v5 ≤ r14 then (fX12_runs_90 v3 v4 v5 h13) else (some ((-2 : Int32), h13))))
set_option maxRecDepth 100000 in
theorem jX12_runs_70 {r : Int32} {h0 : HS} (v3 : Int32) (v4 : Int32) (v5 : Int32) (h : HS) (H : fX12_runs_70 v3 v4 v5 h = some (r, h0)) : Jx skM RX12 cX12_runs 6 (some .int) 1 (some (.int r)) h0 70 [some (.ref 0), none, none, some (.int v3), some (.int v4), some (.int v5)] [] h := by
  unfold fX12_runs_70 at H
  refine j_iload (pc := 70) dX12_runs_70 rfl ?_
  refine j_iconst (pc := 72) (v := -1) dX12_runs_72 (by decide) ?_
  refine j_icmp_eq (pc := 73) (tgt := 90) dX12_runs_73 (by decide) (fun c12 => ?_) (fun c12 => ?_)
  · rw [if_pos c12] at H
    refine Jx.sub (L' := [some (.ref 0), none, none, some (.int v3), some (.int v4), some (.int v5)]) (⟨rfl, ⟨rfl, ⟨rfl, ⟨rfl, trivial⟩⟩⟩⟩) ?_
    exact jX12_runs_90 v3 v4 v5 h H
  · rw [if_neg c12] at H
    refine j_aload_n (pc := 76) dX12_runs_76 rfl ?_
    refine j_iload (pc := 77) dX12_runs_77 rfl ?_
    obtain ⟨r14, h13, eh13, H⟩ := bd_x H
    refine j_callV (pc := 79) dX12_runs_79 mlX12_307 wyX12_roomOf (tX12_roomOf eh13) (by decide) rfl rfl rfl rfl (by simp [Value.category]) rfl ?_
    refine j_iload (pc := 82) dX12_runs_82 rfl ?_
    refine j_icmp_ge (pc := 84) (tgt := 90) dX12_runs_84 (by decide) (fun c15 => ?_) (fun c15 => ?_)
    · rw [if_pos c15] at H
      refine Jx.sub (L' := [some (.ref 0), none, none, some (.int v3), some (.int v4), some (.int v5)]) (⟨rfl, ⟨rfl, ⟨rfl, ⟨rfl, trivial⟩⟩⟩⟩) ?_
      exact jX12_runs_90 v3 v4 v5 h13 H
    · rw [if_neg c15] at H
      refine j_bipush (pc := 87) (v := -2) dX12_runs_87 (by decide) ?_
      exact j_ireturn (pc := 89) dX12_runs_89 rfl (ri_1 H) (ri_2 H)
noncomputable def fX12_runs_39 (v1 : Int32) (v2 : Int32) (v3 : Int32) (s0 : Int32) (h : HS) : Option (Int32 × HS) := ck (inb v1 6) (nm (((iabs v2) * (gI h 19 v1.toNatClampNeg))) (fun v5_8 => if v3 = (-1 : Int32) then (fX12_runs_70 v3 s0 v5_8 h) else (ck (inb v3 15) (if (gI h 5 v3.toNatClampNeg) < v5_8 then (some ((-2 : Int32), h)) else (fX12_runs_70 v3 s0 v5_8 h)))))
set_option maxRecDepth 100000 in
theorem jX12_runs_39 {r : Int32} {h0 : HS} (v1 : Int32) (v2 : Int32) (v3 : Int32) (s0 : Int32) (h : HS) (H : fX12_runs_39 v1 v2 v3 s0 h = some (r, h0)) : Jx skM RX12 cX12_runs 6 (some .int) 1 (some (.int r)) h0 39 [some (.ref 0), some (.int v1), some (.int v2), some (.int v3), none, none] [.int s0] h := by
  unfold fX12_runs_39 at H
  refine j_istore (pc := 39) (L' := [some (.ref 0), some (.int v1), some (.int v2), some (.int v3), some (.int s0), none]) dX12_runs_39 (by decide) rfl ?_
  refine j_iload_n (pc := 41) dX12_runs_41 rfl ?_
  refine j_mabs (pc := 42) dX12_runs_42 wmX12_201 (by simp [Value.category]) ?_
  refine j_aload_n (pc := 45) dX12_runs_45 rfl ?_
  refine j_getR (pc := 46) (b := 19) dX12_runs_46 flX12_72 rfl ?_
  refine j_iload_n (pc := 49) dX12_runs_49 rfl ?_
  obtain ⟨b7, H⟩ := ck_x H
  refine j_iaload (pc := 50) dX12_runs_50 rfl b7 rfl ?_
  refine j_imul (pc := 51) dX12_runs_51 ?_
  obtain ⟨v5_8, ev5_8, H⟩ := nm_x H
  refine j_topi ev5_8 ?_
  refine j_istore (pc := 52) (L' := [some (.ref 0), some (.int v1), some (.int v2), some (.int v3), some (.int s0), some (.int v5_8)]) dX12_runs_52 (by decide) rfl ?_
  refine j_iload_n (pc := 54) dX12_runs_54 rfl ?_
  refine j_iconst (pc := 55) (v := -1) dX12_runs_55 (by decide) ?_
  refine j_icmp_eq (pc := 56) (tgt := 70) dX12_runs_56 (by decide) (fun c9 => ?_) (fun c9 => ?_)
  · rw [if_pos c9] at H
    refine Jx.sub (L' := [some (.ref 0), none, none, some (.int v3), some (.int s0), some (.int v5_8)]) (⟨rfl, ⟨rfl, ⟨rfl, ⟨rfl, trivial⟩⟩⟩⟩) ?_
    exact jX12_runs_70 v3 s0 v5_8 h H
  · rw [if_neg c9] at H
    refine j_aload_n (pc := 59) dX12_runs_59 rfl ?_
    refine j_getR (pc := 60) (b := 5) dX12_runs_60 flX12_22 rfl ?_
    refine j_iload_n (pc := 63) dX12_runs_63 rfl ?_
    obtain ⟨b10, H⟩ := ck_x H
    refine j_iaload (pc := 64) dX12_runs_64 rfl b10 rfl ?_
    refine j_iload (pc := 65) dX12_runs_65 rfl ?_
    refine j_icmp_lt (pc := 67) (tgt := 87) dX12_runs_67 (by decide) (fun c11 => ?_) (fun c11 => ?_)
    · rw [if_pos c11] at H
      refine j_bipush (pc := 87) (v := -2) dX12_runs_87 (by decide) ?_
      exact j_ireturn (pc := 89) dX12_runs_89 rfl (ri_1 H) (ri_2 H)
    · rw [if_neg c11] at H
      refine Jx.sub (L' := [some (.ref 0), none, none, some (.int v3), some (.int s0), some (.int v5_8)]) (⟨rfl, ⟨rfl, ⟨rfl, ⟨rfl, trivial⟩⟩⟩⟩) ?_
      exact jX12_runs_70 v3 s0 v5_8 h H
noncomputable def fX12_runs_19 (v1 : Int32) (v2 : Int32) (s0 : Int32) (h : HS) : Option (Int32 × HS) := if v2 ≤ 0 then (ck (inb v1 6) (fX12_runs_39 v1 v2 s0 ((gI h 17 v1.toNatClampNeg)) h)) else (ck (inb v1 6) (fX12_runs_39 v1 v2 s0 ((gI h 18 v1.toNatClampNeg)) h))
set_option maxRecDepth 100000 in
theorem jX12_runs_19 {r : Int32} {h0 : HS} (v1 : Int32) (v2 : Int32) (s0 : Int32) (h : HS) (H : fX12_runs_19 v1 v2 s0 h = some (r, h0)) : Jx skM RX12 cX12_runs 6 (some .int) 1 (some (.int r)) h0 19 [some (.ref 0), some (.int v1), some (.int v2), none, none, none] [.int s0] h := by
  unfold fX12_runs_19 at H
  refine j_istore_n (pc := 19) (L' := [some (.ref 0), some (.int v1), some (.int v2), some (.int s0), none, none]) dX12_runs_19 (by decide) rfl ?_
  refine j_iload_n (pc := 20) dX12_runs_20 rfl ?_
  refine j_if_le (pc := 21) (tgt := 33) dX12_runs_21 (by decide) (fun c4 => ?_) (fun c4 => ?_)
  · rw [if_pos c4] at H
    refine j_aload_n (pc := 33) dX12_runs_33 rfl ?_
    refine j_getR (pc := 34) (b := 17) dX12_runs_34 flX12_66 rfl ?_
    refine j_iload_n (pc := 37) dX12_runs_37 rfl ?_
    obtain ⟨b5, H⟩ := ck_x H
    refine j_iaload (pc := 38) dX12_runs_38 rfl b5 rfl ?_
    refine Jx.sub (L' := [some (.ref 0), some (.int v1), some (.int v2), some (.int s0), none, none]) (⟨rfl, ⟨rfl, ⟨rfl, ⟨rfl, trivial⟩⟩⟩⟩) ?_
    exact jX12_runs_39 v1 v2 s0 ((gI h 17 v1.toNatClampNeg)) h H
  · rw [if_neg c4] at H
    refine j_aload_n (pc := 24) dX12_runs_24 rfl ?_
    refine j_getR (pc := 25) (b := 18) dX12_runs_25 flX12_69 rfl ?_
    refine j_iload_n (pc := 28) dX12_runs_28 rfl ?_
    obtain ⟨b6, H⟩ := ck_x H
    refine j_iaload (pc := 29) dX12_runs_29 rfl b6 rfl ?_
    refine j_goto (pc := 30) (tgt := 39) dX12_runs_30 (by decide) ?_
    refine Jx.sub (L' := [some (.ref 0), some (.int v1), some (.int v2), some (.int s0), none, none]) (⟨rfl, ⟨rfl, ⟨rfl, ⟨rfl, trivial⟩⟩⟩⟩) ?_
    exact jX12_runs_39 v1 v2 s0 ((gI h 18 v1.toNatClampNeg)) h H
noncomputable def fX12_runs (p1 : Int32) (p2 : Int32) (h : HS) : Option (Int32 × HS) := if p2 ≤ 0 then (ck (inb p1 6) (fX12_runs_19 p1 p2 ((gI h 18 p1.toNatClampNeg)) h)) else (ck (inb p1 6) (fX12_runs_19 p1 p2 ((gI h 17 p1.toNatClampNeg)) h))
set_option maxRecDepth 100000 in
theorem tX12_runs {p1 : Int32} {p2 : Int32} {r : Int32} {h h0 : HS} (H : fX12_runs p1 p2 h = some (r, h0)) : Cn skM yX12_runs cX12_runs 6 (some .int) 1 [.ref 0, .int p1, .int p2] h (some (.int r)) h0 := by
  refine Cn_of (L := [some (.ref 0), some (.int p1), some (.int p2), none, none, none]) (by decide +kernel) (by simp [lg_sl, Value.category]) (fun ad => by simp [lg_sl, tv, Value.category]) (⟨rfl, ⟨rfl, ⟨rfl, trivial⟩⟩⟩) ?_
  unfold fX12_runs at H
  refine j_iload_n (pc := 0) dX12_runs_0 rfl ?_
  refine j_if_le (pc := 1) (tgt := 13) dX12_runs_1 (by decide) (fun c1 => ?_) (fun c1 => ?_)
  · rw [if_pos c1] at H
    refine j_aload_n (pc := 13) dX12_runs_13 rfl ?_
    refine j_getR (pc := 14) (b := 18) dX12_runs_14 flX12_69 rfl ?_
    refine j_iload_n (pc := 17) dX12_runs_17 rfl ?_
    obtain ⟨b2, H⟩ := ck_x H
    refine j_iaload (pc := 18) dX12_runs_18 rfl b2 rfl ?_
    refine Jx.sub (L' := [some (.ref 0), some (.int p1), some (.int p2), none, none, none]) (⟨rfl, ⟨rfl, ⟨rfl, trivial⟩⟩⟩) ?_
    exact jX12_runs_19 p1 p2 ((gI h 18 p1.toNatClampNeg)) h H
  · rw [if_neg c1] at H
    refine j_aload_n (pc := 4) dX12_runs_4 rfl ?_
    refine j_getR (pc := 5) (b := 17) dX12_runs_5 flX12_66 rfl ?_
    refine j_iload_n (pc := 8) dX12_runs_8 rfl ?_
    obtain ⟨b3, H⟩ := ck_x H
    refine j_iaload (pc := 9) dX12_runs_9 rfl b3 rfl ?_
    refine j_goto (pc := 10) (tgt := 19) dX12_runs_10 (by decide) ?_
    refine Jx.sub (L' := [some (.ref 0), some (.int p1), some (.int p2), none, none, none]) (⟨rfl, ⟨rfl, ⟨rfl, trivial⟩⟩⟩) ?_
    exact jX12_runs_19 p1 p2 ((gI h 17 p1.toNatClampNeg)) h H

noncomputable def fX12_run_34 (h : HS) : Option (Int32 × HS) := some ((-1 : Int32), h)
set_option maxRecDepth 100000 in
theorem jX12_run_34 {r : Int32} {h0 : HS} (h : HS) (H : fX12_run_34 h = some (r, h0)) : Jx skM RX12 cX12_run 3 (some .int) 2 (some (.int r)) h0 34 [none, none, none] [] h := by
  unfold fX12_run_34 at H
  refine j_iconst (pc := 34) (v := -1) dX12_run_34 (by decide) ?_
  refine j_goto (pc := 35) (tgt := 44) dX12_run_35 (by decide) ?_
  exact j_ireturn (pc := 44) dX12_run_44 rfl (ri_1 H) (ri_2 H)
noncomputable def fX12_run (p1 : Int32) (p2 : Int32) (h : HS) : Option (Int32 × HS) := nm (pI h 0 22 (0 : Int32)) (fun h1 => bd (fX12_in p1 (0 : Int32) (((gI h1 0 39) - (1 : Int32))) h1) (fun r3 h2 => if r3 = 0 then (fX12_run_34 h2) else (bd (fX12_in p2 (-99 : Int32) (99 : Int32) h2) (fun r6 h5 => if r6 = 0 then (fX12_run_34 h5) else (if p2 = 0 then (fX12_run_34 h5) else (bd (fX12_runs p1 p2 h5) (fun r10 h9 => some (r10, h9))))))))
set_option maxRecDepth 100000 in
theorem tX12_run {p1 : Int32} {p2 : Int32} {r : Int32} {h h0 : HS} (H : fX12_run p1 p2 h = some (r, h0)) : Cn skM yX12_run cX12_run 3 (some .int) 2 [.ref 0, .int p1, .int p2] h (some (.int r)) h0 := by
  refine Cn_of (L := [some (.ref 0), some (.int p1), some (.int p2)]) (by decide +kernel) (by simp [lg_sl, Value.category]) (fun ad => by simp [lg_sl, tv, Value.category]) (⟨rfl, ⟨rfl, ⟨rfl, trivial⟩⟩⟩) ?_
  unfold fX12_run at H
  refine j_aload_n (pc := 0) dX12_run_0 rfl ?_
  refine j_iconst (pc := 1) (v := 0) dX12_run_1 (by decide) ?_
  obtain ⟨h1, eh1, H⟩ := nm_x H
  refine j_putI (pc := 2) dX12_run_2 fpX12_133 rfl h1 eh1 ?_
  refine j_iload_n (pc := 5) dX12_run_5 rfl ?_
  refine j_iconst (pc := 6) (v := 0) dX12_run_6 (by decide) ?_
  refine j_aload_n (pc := 7) dX12_run_7 rfl ?_
  refine j_getI (pc := 8) dX12_run_8 flX12_304 rfl ?_
  refine j_iconst (pc := 11) (v := 1) dX12_run_11 (by decide) ?_
  refine j_isub (pc := 12) dX12_run_12 ?_
  obtain ⟨r3, h2, eh2, H⟩ := bd_x H
  refine j_callS (pc := 13) dX12_run_13 mlX12_142 wyX12_in (tX12_in eh2) (by decide) rfl (by simp [Value.category]) rfl ?_
  refine j_if_eq (pc := 16) (tgt := 34) dX12_run_16 (by decide) (fun c4 => ?_) (fun c4 => ?_)
  · rw [if_pos c4] at H
    refine Jx.sub (L' := [none, none, none]) (trivial) ?_
    exact jX12_run_34 h2 H
  · rw [if_neg c4] at H
    refine j_iload_n (pc := 19) dX12_run_19 rfl ?_
    refine j_bipush (pc := 20) (v := -99) dX12_run_20 (by decide) ?_
    refine j_bipush (pc := 22) (v := 99) dX12_run_22 (by decide) ?_
    obtain ⟨r6, h5, eh5, H⟩ := bd_x H
    refine j_callS (pc := 24) dX12_run_24 mlX12_142 wyX12_in (tX12_in eh5) (by decide) rfl (by simp [Value.category]) rfl ?_
    refine j_if_eq (pc := 27) (tgt := 34) dX12_run_27 (by decide) (fun c7 => ?_) (fun c7 => ?_)
    · rw [if_pos c7] at H
      refine Jx.sub (L' := [none, none, none]) (trivial) ?_
      exact jX12_run_34 h5 H
    · rw [if_neg c7] at H
      refine j_iload_n (pc := 30) dX12_run_30 rfl ?_
      refine j_if_ne (pc := 31) (tgt := 38) dX12_run_31 (by decide) (fun c8 => ?_) (fun c8 => ?_)
      · rw [if_neg c8] at H
        refine j_aload_n (pc := 38) dX12_run_38 rfl ?_
        refine j_iload_n (pc := 39) dX12_run_39 rfl ?_
        refine j_iload_n (pc := 40) dX12_run_40 rfl ?_
        obtain ⟨r10, h9, eh9, H⟩ := bd_x H
        refine j_callV (pc := 41) dX12_run_41 mlX12_310 wyX12_runs (tX12_runs eh9) (by decide) rfl rfl rfl rfl (by simp [Value.category]) rfl ?_
        exact j_ireturn (pc := 44) dX12_run_44 rfl (ri_1 H) (ri_2 H)
      · rw [if_pos c8] at H
        refine Jx.sub (L' := [none, none, none]) (trivial) ?_
        exact jX12_run_34 h5 H

noncomputable def fX12_best_147 (k47 : Int32 → Int32 → Int32 → Int32 → Int32 → Int32 → HS → Option (Int32 × HS)) (k57 : Int32 → Int32 → Int32 → Int32 → Int32 → Int32 → Int32 → HS → Option (Int32 × HS)) (v1 : Int32) (v2 : Int32) (v3 : Int32) (v4 : Int32) (v5 : Int32) (v6 : Int32) (v7 : Int32) (h : HS) : Option (Int32 × HS) := bv (fX12_pop h) (fun h30 => nm (v7 + (2 : Int32)) (fun v7_31 => k57 v1 v2 v3 v4 v5 v6 v7_31 h30))
set_option maxRecDepth 100000 in
theorem jX12_best_147 {r : Int32} {h0 : HS} (k47 : Int32 → Int32 → Int32 → Int32 → Int32 → Int32 → HS → Option (Int32 × HS)) (k57 : Int32 → Int32 → Int32 → Int32 → Int32 → Int32 → Int32 → HS → Option (Int32 × HS)) (hk47 : ∀ (v1 : Int32) (v2 : Int32) (v3 : Int32) (v4 : Int32) (v5 : Int32) (v6 : Int32) (h : HS), k47 v1 v2 v3 v4 v5 v6 h = some (r, h0) → Jx skM RX12 cX12_best 10 (some .int) 3 (some (.int r)) h0 47 [some (.ref 0), some (.int v1), some (.int v2), some (.int v3), some (.int v4), some (.int v5), some (.int v6), none, none, none] [] h) (hk57 : ∀ (v1 : Int32) (v2 : Int32) (v3 : Int32) (v4 : Int32) (v5 : Int32) (v6 : Int32) (v7 : Int32) (h : HS), k57 v1 v2 v3 v4 v5 v6 v7 h = some (r, h0) → Jx skM RX12 cX12_best 10 (some .int) 3 (some (.int r)) h0 57 [some (.ref 0), some (.int v1), some (.int v2), some (.int v3), some (.int v4), some (.int v5), some (.int v6), some (.int v7), none, none] [] h) (v1 : Int32) (v2 : Int32) (v3 : Int32) (v4 : Int32) (v5 : Int32) (v6 : Int32) (v7 : Int32) (h : HS) (H : fX12_best_147 k47 k57 v1 v2 v3 v4 v5 v6 v7 h = some (r, h0)) : Jx skM RX12 cX12_best 10 (some .int) 3 (some (.int r)) h0 147 [some (.ref 0), some (.int v1), some (.int v2), some (.int v3), some (.int v4), some (.int v5), some (.int v6), some (.int v7), none, none] [] h := by
  unfold fX12_best_147 at H
  refine j_aload_n (pc := 147) dX12_best_147 rfl ?_
  obtain ⟨h30, eh30, H⟩ := bv_x H
  refine j_callV (pc := 148) dX12_best_148 mlX12_298 wyX12_pop (tX12_pop eh30) (by decide) rfl rfl rfl rfl (by simp [Value.category]) rfl ?_
  obtain ⟨v7_31, ev7_31, H⟩ := nm_x H
  refine j_iinc (pc := 151) (L' := [some (.ref 0), some (.int v1), some (.int v2), some (.int v3), some (.int v4), some (.int v5), some (.int v6), some (.int v7_31), none, none]) (w := 2) dX12_best_151 rfl (by decide) (by decide) v7_31 ev7_31 rfl ?_
  refine j_goto (pc := 154) (tgt := 57) dX12_best_154 (by decide) ?_
  refine Jx.sub (L' := [some (.ref 0), some (.int v1), some (.int v2), some (.int v3), some (.int v4), some (.int v5), some (.int v6), some (.int v7_31), none, none]) (⟨rfl, ⟨rfl, ⟨rfl, ⟨rfl, ⟨rfl, ⟨rfl, ⟨rfl, ⟨rfl, trivial⟩⟩⟩⟩⟩⟩⟩⟩) ?_
  exact hk57 v1 v2 v3 v4 v5 v6 v7_31 h30 H
noncomputable def fX12_best_133 (k47 : Int32 → Int32 → Int32 → Int32 → Int32 → Int32 → HS → Option (Int32 × HS)) (k57 : Int32 → Int32 → Int32 → Int32 → Int32 → Int32 → Int32 → HS → Option (Int32 × HS)) (v1 : Int32) (v2 : Int32) (v6 : Int32) (v7 : Int32) (v8 : Int32) (v9 : Int32) (h : HS) : Option (Int32 × HS) := nm ((v7 * v6)) (fun v3_32 => fX12_best_147 k47 k57 v1 v2 v3_32 v8 v9 v6 v7 h)
set_option maxRecDepth 100000 in
theorem jX12_best_133 {r : Int32} {h0 : HS} (k47 : Int32 → Int32 → Int32 → Int32 → Int32 → Int32 → HS → Option (Int32 × HS)) (k57 : Int32 → Int32 → Int32 → Int32 → Int32 → Int32 → Int32 → HS → Option (Int32 × HS)) (hk47 : ∀ (v1 : Int32) (v2 : Int32) (v3 : Int32) (v4 : Int32) (v5 : Int32) (v6 : Int32) (h : HS), k47 v1 v2 v3 v4 v5 v6 h = some (r, h0) → Jx skM RX12 cX12_best 10 (some .int) 3 (some (.int r)) h0 47 [some (.ref 0), some (.int v1), some (.int v2), some (.int v3), some (.int v4), some (.int v5), some (.int v6), none, none, none] [] h) (hk57 : ∀ (v1 : Int32) (v2 : Int32) (v3 : Int32) (v4 : Int32) (v5 : Int32) (v6 : Int32) (v7 : Int32) (h : HS), k57 v1 v2 v3 v4 v5 v6 v7 h = some (r, h0) → Jx skM RX12 cX12_best 10 (some .int) 3 (some (.int r)) h0 57 [some (.ref 0), some (.int v1), some (.int v2), some (.int v3), some (.int v4), some (.int v5), some (.int v6), some (.int v7), none, none] [] h) (v1 : Int32) (v2 : Int32) (v6 : Int32) (v7 : Int32) (v8 : Int32) (v9 : Int32) (h : HS) (H : fX12_best_133 k47 k57 v1 v2 v6 v7 v8 v9 h = some (r, h0)) : Jx skM RX12 cX12_best 10 (some .int) 3 (some (.int r)) h0 133 [some (.ref 0), some (.int v1), some (.int v2), none, none, none, some (.int v6), some (.int v7), some (.int v8), some (.int v9)] [] h := by
  unfold fX12_best_133 at H
  refine j_iload (pc := 133) dX12_best_133 rfl ?_
  refine j_iload (pc := 135) dX12_best_135 rfl ?_
  refine j_imul (pc := 137) dX12_best_137 ?_
  obtain ⟨v3_32, ev3_32, H⟩ := nm_x H
  refine j_topi ev3_32 ?_
  refine j_istore_n (pc := 138) (L' := [some (.ref 0), some (.int v1), some (.int v2), some (.int v3_32), none, none, some (.int v6), some (.int v7), some (.int v8), some (.int v9)]) dX12_best_138 (by decide) rfl ?_
  refine j_iload (pc := 139) dX12_best_139 rfl ?_
  refine j_istore (pc := 141) (L' := [some (.ref 0), some (.int v1), some (.int v2), some (.int v3_32), some (.int v8), none, some (.int v6), some (.int v7), some (.int v8), some (.int v9)]) dX12_best_141 (by decide) rfl ?_
  refine j_iload (pc := 143) dX12_best_143 rfl ?_
  refine j_istore (pc := 145) (L' := [some (.ref 0), some (.int v1), some (.int v2), some (.int v3_32), some (.int v8), some (.int v9), some (.int v6), some (.int v7), some (.int v8), some (.int v9)]) dX12_best_145 (by decide) rfl ?_
  refine Jx.sub (L' := [some (.ref 0), some (.int v1), some (.int v2), some (.int v3_32), some (.int v8), some (.int v9), some (.int v6), some (.int v7), none, none]) (⟨rfl, ⟨rfl, ⟨rfl, ⟨rfl, ⟨rfl, ⟨rfl, ⟨rfl, ⟨rfl, trivial⟩⟩⟩⟩⟩⟩⟩⟩) ?_
  exact jX12_best_147 _ _ hk47 hk57 v1 v2 v3_32 v8 v9 v6 v7 h H
noncomputable def fX12_best_57 (k47 : Int32 → Int32 → Int32 → Int32 → Int32 → Int32 → HS → Option (Int32 × HS)) : Nat → Int32 → Int32 → Int32 → Int32 → Int32 → Int32 → Int32 → HS → Option (Int32 × HS)
  | 0, _, _, _, _, _, _, _, _ => none
  | n + 1, v1, v2, v3, v4, v5, v6, v7, h => if (2 : Int32) ≤ v7 then (nm (v6 + (1 : Int32)) (fun v6_18 => k47 v1 v2 v3 v4 v5 v6_18 h)) else (bv (fX12_push h) (fun h19 => bd (fX12_runs v1 ((v7 * v6)) h19) (fun r21 h20 => if r21 < 0 then (fX12_best_147 k47 (fX12_best_57 k47 n) v1 v2 v3 v4 v5 v6 v7 h20) else (bd (fX12_heavyAt v2 h20) (fun r24 h23 => bd (fX12_momentOf (0 : Int32) h23) (fun r26 h25 => if (iabs r24) < (iabs v4) then (fX12_best_133 k47 (fX12_best_57 k47 n) v1 v2 v6 v7 r24 r26 h25) else (if (iabs r24) = (iabs v4) then (if (iabs v5) ≤ (iabs r26) then (fX12_best_147 k47 (fX12_best_57 k47 n) v1 v2 v3 v4 v5 v6 v7 h25) else (fX12_best_133 k47 (fX12_best_57 k47 n) v1 v2 v6 v7 r24 r26 h25)) else (fX12_best_147 k47 (fX12_best_57 k47 n) v1 v2 v3 v4 v5 v6 v7 h25))))))))
set_option maxRecDepth 100000 in
theorem jX12_best_57 {r : Int32} {h0 : HS} (k47 : Int32 → Int32 → Int32 → Int32 → Int32 → Int32 → HS → Option (Int32 × HS)) (hk47 : ∀ (v1 : Int32) (v2 : Int32) (v3 : Int32) (v4 : Int32) (v5 : Int32) (v6 : Int32) (h : HS), k47 v1 v2 v3 v4 v5 v6 h = some (r, h0) → Jx skM RX12 cX12_best 10 (some .int) 3 (some (.int r)) h0 47 [some (.ref 0), some (.int v1), some (.int v2), some (.int v3), some (.int v4), some (.int v5), some (.int v6), none, none, none] [] h) : ∀ (n : Nat) (v1 : Int32) (v2 : Int32) (v3 : Int32) (v4 : Int32) (v5 : Int32) (v6 : Int32) (v7 : Int32) (h : HS), fX12_best_57 k47 n v1 v2 v3 v4 v5 v6 v7 h = some (r, h0) → Jx skM RX12 cX12_best 10 (some .int) 3 (some (.int r)) h0 57 [some (.ref 0), some (.int v1), some (.int v2), some (.int v3), some (.int v4), some (.int v5), some (.int v6), some (.int v7), none, none] [] h := by
  intro n
  induction n with
  | zero => intro v1 v2 v3 v4 v5 v6 v7  h H; cases H
  | succ n ih =>
    intro v1 v2 v3 v4 v5 v6 v7  h H
    rw [fX12_best_57] at H
    refine j_iload (pc := 57) dX12_best_57 rfl ?_
    refine j_iconst (pc := 59) (v := 2) dX12_best_59 (by decide) ?_
    refine j_icmp_ge (pc := 60) (tgt := 157) dX12_best_60 (by decide) (fun c17 => ?_) (fun c17 => ?_)
    · rw [if_pos c17] at H
      obtain ⟨v6_18, ev6_18, H⟩ := nm_x H
      refine j_iinc (pc := 157) (L' := [some (.ref 0), some (.int v1), some (.int v2), some (.int v3), some (.int v4), some (.int v5), some (.int v6_18), some (.int v7), none, none]) (w := 1) dX12_best_157 rfl (by decide) (by decide) v6_18 ev6_18 rfl ?_
      refine j_goto (pc := 160) (tgt := 47) dX12_best_160 (by decide) ?_
      refine Jx.sub (L' := [some (.ref 0), some (.int v1), some (.int v2), some (.int v3), some (.int v4), some (.int v5), some (.int v6_18), none, none, none]) (⟨rfl, ⟨rfl, ⟨rfl, ⟨rfl, ⟨rfl, ⟨rfl, ⟨rfl, trivial⟩⟩⟩⟩⟩⟩⟩) ?_
      exact hk47 v1 v2 v3 v4 v5 v6_18 h H
    · rw [if_neg c17] at H
      refine j_aload_n (pc := 63) dX12_best_63 rfl ?_
      obtain ⟨h19, eh19, H⟩ := bv_x H
      refine j_callV (pc := 64) dX12_best_64 mlX12_292 wyX12_push (tX12_push eh19) (by decide) rfl rfl rfl rfl (by simp [Value.category]) rfl ?_
      refine j_aload_n (pc := 67) dX12_best_67 rfl ?_
      refine j_iload_n (pc := 68) dX12_best_68 rfl ?_
      refine j_iload (pc := 69) dX12_best_69 rfl ?_
      refine j_iload (pc := 71) dX12_best_71 rfl ?_
      refine j_imul (pc := 73) dX12_best_73 ?_
      obtain ⟨r21, h20, eh20, H⟩ := bd_x H
      refine j_callV (pc := 74) dX12_best_74 mlX12_310 wyX12_runs (tX12_runs eh20) (by decide) rfl rfl rfl rfl (by simp [Value.category]) rfl ?_
      refine j_if_lt (pc := 77) (tgt := 147) dX12_best_77 (by decide) (fun c22 => ?_) (fun c22 => ?_)
      · rw [if_pos c22] at H
        refine Jx.sub (L' := [some (.ref 0), some (.int v1), some (.int v2), some (.int v3), some (.int v4), some (.int v5), some (.int v6), some (.int v7), none, none]) (⟨rfl, ⟨rfl, ⟨rfl, ⟨rfl, ⟨rfl, ⟨rfl, ⟨rfl, ⟨rfl, trivial⟩⟩⟩⟩⟩⟩⟩⟩) ?_
        exact jX12_best_147 _ _ hk47 ih v1 v2 v3 v4 v5 v6 v7 h20 H
      · rw [if_neg c22] at H
        refine j_aload_n (pc := 80) dX12_best_80 rfl ?_
        refine j_iload_n (pc := 81) dX12_best_81 rfl ?_
        obtain ⟨r24, h23, eh23, H⟩ := bd_x H
        refine j_callV (pc := 82) dX12_best_82 mlX12_198 wyX12_heavyAt (tX12_heavyAt eh23) (by decide) rfl rfl rfl rfl (by simp [Value.category]) rfl ?_
        refine j_istore (pc := 85) (L' := [some (.ref 0), some (.int v1), some (.int v2), some (.int v3), some (.int v4), some (.int v5), some (.int v6), some (.int v7), some (.int r24), none]) dX12_best_85 (by decide) rfl ?_
        refine j_aload_n (pc := 87) dX12_best_87 rfl ?_
        refine j_iconst (pc := 88) (v := 0) dX12_best_88 (by decide) ?_
        obtain ⟨r26, h25, eh25, H⟩ := bd_x H
        refine j_callV (pc := 89) dX12_best_89 mlX12_204 wyX12_momentOf (tX12_momentOf eh25) (by decide) rfl rfl rfl rfl (by simp [Value.category]) rfl ?_
        refine j_istore (pc := 92) (L' := [some (.ref 0), some (.int v1), some (.int v2), some (.int v3), some (.int v4), some (.int v5), some (.int v6), some (.int v7), some (.int r24), some (.int r26)]) dX12_best_92 (by decide) rfl ?_
        refine j_iload (pc := 94) dX12_best_94 rfl ?_
        refine j_mabs (pc := 96) dX12_best_96 wmX12_201 (by simp [Value.category]) ?_
        refine j_iload (pc := 99) dX12_best_99 rfl ?_
        refine j_mabs (pc := 101) dX12_best_101 wmX12_201 (by simp [Value.category]) ?_
        refine j_icmp_lt (pc := 104) (tgt := 133) dX12_best_104 (by decide) (fun c27 => ?_) (fun c27 => ?_)
        · rw [if_pos c27] at H
          refine Jx.sub (L' := [some (.ref 0), some (.int v1), some (.int v2), none, none, none, some (.int v6), some (.int v7), some (.int r24), some (.int r26)]) (⟨rfl, ⟨rfl, ⟨rfl, ⟨rfl, ⟨rfl, ⟨rfl, ⟨rfl, trivial⟩⟩⟩⟩⟩⟩⟩) ?_
          exact jX12_best_133 _ _ hk47 ih v1 v2 v6 v7 r24 r26 h25 H
        · rw [if_neg c27] at H
          refine j_iload (pc := 107) dX12_best_107 rfl ?_
          refine j_mabs (pc := 109) dX12_best_109 wmX12_201 (by simp [Value.category]) ?_
          refine j_iload (pc := 112) dX12_best_112 rfl ?_
          refine j_mabs (pc := 114) dX12_best_114 wmX12_201 (by simp [Value.category]) ?_
          refine j_icmp_ne (pc := 117) (tgt := 147) dX12_best_117 (by decide) (fun c28 => ?_) (fun c28 => ?_)
          · rw [if_neg c28] at H
            refine Jx.sub (L' := [some (.ref 0), some (.int v1), some (.int v2), some (.int v3), some (.int v4), some (.int v5), some (.int v6), some (.int v7), none, none]) (⟨rfl, ⟨rfl, ⟨rfl, ⟨rfl, ⟨rfl, ⟨rfl, ⟨rfl, ⟨rfl, trivial⟩⟩⟩⟩⟩⟩⟩⟩) ?_
            exact jX12_best_147 _ _ hk47 ih v1 v2 v3 v4 v5 v6 v7 h25 H
          · rw [if_pos c28] at H
            refine j_iload (pc := 120) dX12_best_120 rfl ?_
            refine j_mabs (pc := 122) dX12_best_122 wmX12_201 (by simp [Value.category]) ?_
            refine j_iload (pc := 125) dX12_best_125 rfl ?_
            refine j_mabs (pc := 127) dX12_best_127 wmX12_201 (by simp [Value.category]) ?_
            refine j_icmp_ge (pc := 130) (tgt := 147) dX12_best_130 (by decide) (fun c29 => ?_) (fun c29 => ?_)
            · rw [if_pos c29] at H
              refine Jx.sub (L' := [some (.ref 0), some (.int v1), some (.int v2), some (.int v3), some (.int v4), some (.int v5), some (.int v6), some (.int v7), none, none]) (⟨rfl, ⟨rfl, ⟨rfl, ⟨rfl, ⟨rfl, ⟨rfl, ⟨rfl, ⟨rfl, trivial⟩⟩⟩⟩⟩⟩⟩⟩) ?_
              exact jX12_best_147 _ _ hk47 ih v1 v2 v3 v4 v5 v6 v7 h25 H
            · rw [if_neg c29] at H
              refine Jx.sub (L' := [some (.ref 0), some (.int v1), some (.int v2), none, none, none, some (.int v6), some (.int v7), some (.int r24), some (.int r26)]) (⟨rfl, ⟨rfl, ⟨rfl, ⟨rfl, ⟨rfl, ⟨rfl, ⟨rfl, trivial⟩⟩⟩⟩⟩⟩⟩) ?_
              exact jX12_best_133 _ _ hk47 ih v1 v2 v6 v7 r24 r26 h25 H
noncomputable def fX12_best_47 : Nat → Int32 → Int32 → Int32 → Int32 → Int32 → Int32 → HS → Option (Int32 × HS)
  | 0, _, _, _, _, _, _, _ => none
  | n + 1, v1, v2, v3, v4, v5, v6, h => if (99 : Int32) < v6 then (nm (pI h 0 21 (0 : Int32)) (fun h13 => bv (fX12_tell v3 h13) (fun h14 => bv (fX12_tell v4 h14) (fun h15 => bv (fX12_tell v5 h15) (fun h16 => some ((0 : Int32), h16)))))) else (fX12_best_57 (fX12_best_47 n) FU v1 v2 v3 v4 v5 v6 (-1 : Int32) h)
set_option maxRecDepth 100000 in
theorem jX12_best_47 {r : Int32} {h0 : HS} : ∀ (n : Nat) (v1 : Int32) (v2 : Int32) (v3 : Int32) (v4 : Int32) (v5 : Int32) (v6 : Int32) (h : HS), fX12_best_47 n v1 v2 v3 v4 v5 v6 h = some (r, h0) → Jx skM RX12 cX12_best 10 (some .int) 3 (some (.int r)) h0 47 [some (.ref 0), some (.int v1), some (.int v2), some (.int v3), some (.int v4), some (.int v5), some (.int v6), none, none, none] [] h := by
  intro n
  induction n with
  | zero => intro v1 v2 v3 v4 v5 v6  h H; cases H
  | succ n ih =>
    intro v1 v2 v3 v4 v5 v6  h H
    rw [fX12_best_47] at H
    refine j_iload (pc := 47) dX12_best_47 rfl ?_
    refine j_bipush (pc := 49) (v := 99) dX12_best_49 (by decide) ?_
    refine j_icmp_gt (pc := 51) (tgt := 163) dX12_best_51 (by decide) (fun c12 => ?_) (fun c12 => ?_)
    · rw [if_pos c12] at H
      refine j_aload_n (pc := 163) dX12_best_163 rfl ?_
      refine j_iconst (pc := 164) (v := 0) dX12_best_164 (by decide) ?_
      obtain ⟨h13, eh13, H⟩ := nm_x H
      refine j_putI (pc := 165) dX12_best_165 fpX12_136 rfl h13 eh13 ?_
      refine j_aload_n (pc := 168) dX12_best_168 rfl ?_
      refine j_iload_n (pc := 169) dX12_best_169 rfl ?_
      obtain ⟨h14, eh14, H⟩ := bv_x H
      refine j_callV (pc := 170) dX12_best_170 mlX12_210 wyX12_tell (tX12_tell eh14) (by decide) rfl rfl rfl rfl (by simp [Value.category]) rfl ?_
      refine j_aload_n (pc := 173) dX12_best_173 rfl ?_
      refine j_iload (pc := 174) dX12_best_174 rfl ?_
      obtain ⟨h15, eh15, H⟩ := bv_x H
      refine j_callV (pc := 176) dX12_best_176 mlX12_210 wyX12_tell (tX12_tell eh15) (by decide) rfl rfl rfl rfl (by simp [Value.category]) rfl ?_
      refine j_aload_n (pc := 179) dX12_best_179 rfl ?_
      refine j_iload (pc := 180) dX12_best_180 rfl ?_
      obtain ⟨h16, eh16, H⟩ := bv_x H
      refine j_callV (pc := 182) dX12_best_182 mlX12_210 wyX12_tell (tX12_tell eh16) (by decide) rfl rfl rfl rfl (by simp [Value.category]) rfl ?_
      refine j_iconst (pc := 185) (v := 0) dX12_best_185 (by decide) ?_
      exact j_ireturn (pc := 186) dX12_best_186 rfl (ri_1 H) (ri_2 H)
    · rw [if_neg c12] at H
      refine j_iconst (pc := 54) (v := -1) dX12_best_54 (by decide) ?_
      refine j_istore (pc := 55) (L' := [some (.ref 0), some (.int v1), some (.int v2), some (.int v3), some (.int v4), some (.int v5), some (.int v6), some (.int (-1 : Int32)), none, none]) dX12_best_55 (by decide) rfl ?_
      refine Jx.sub (L' := [some (.ref 0), some (.int v1), some (.int v2), some (.int v3), some (.int v4), some (.int v5), some (.int v6), some (.int (-1 : Int32)), none, none]) (⟨rfl, ⟨rfl, ⟨rfl, ⟨rfl, ⟨rfl, ⟨rfl, ⟨rfl, ⟨rfl, trivial⟩⟩⟩⟩⟩⟩⟩⟩) ?_
      exact jX12_best_57 _ ih FU v1 v2 v3 v4 v5 v6 (-1 : Int32) h H
noncomputable def fX12_best (p1 : Int32) (p2 : Int32) (h : HS) : Option (Int32 × HS) := nm (pI h 0 22 (0 : Int32)) (fun h1 => bd (fX12_in p1 (0 : Int32) (((gI h1 0 39) - (1 : Int32))) h1) (fun r3 h2 => if r3 = 0 then (some ((-1 : Int32), h2)) else (bd (fX12_isDepth p2 h2) (fun r6 h5 => if r6 = 0 then (some ((-1 : Int32), h5)) else (bd (fX12_heavyAt p2 h5) (fun r9 h8 => bd (fX12_momentOf (0 : Int32) h8) (fun r11 h10 => fX12_best_47 FU p1 p2 (0 : Int32) r9 r11 (1 : Int32) h10)))))))
set_option maxRecDepth 100000 in
theorem tX12_best {p1 : Int32} {p2 : Int32} {r : Int32} {h h0 : HS} (H : fX12_best p1 p2 h = some (r, h0)) : Cn skM yX12_best cX12_best 10 (some .int) 3 [.ref 0, .int p1, .int p2] h (some (.int r)) h0 := by
  refine Cn_of (L := [some (.ref 0), some (.int p1), some (.int p2), none, none, none, none, none, none, none]) (by decide +kernel) (by simp [lg_sl, Value.category]) (fun ad => by simp [lg_sl, tv, Value.category]) (⟨rfl, ⟨rfl, ⟨rfl, trivial⟩⟩⟩) ?_
  unfold fX12_best at H
  refine j_aload_n (pc := 0) dX12_best_0 rfl ?_
  refine j_iconst (pc := 1) (v := 0) dX12_best_1 (by decide) ?_
  obtain ⟨h1, eh1, H⟩ := nm_x H
  refine j_putI (pc := 2) dX12_best_2 fpX12_133 rfl h1 eh1 ?_
  refine j_iload_n (pc := 5) dX12_best_5 rfl ?_
  refine j_iconst (pc := 6) (v := 0) dX12_best_6 (by decide) ?_
  refine j_aload_n (pc := 7) dX12_best_7 rfl ?_
  refine j_getI (pc := 8) dX12_best_8 flX12_304 rfl ?_
  refine j_iconst (pc := 11) (v := 1) dX12_best_11 (by decide) ?_
  refine j_isub (pc := 12) dX12_best_12 ?_
  obtain ⟨r3, h2, eh2, H⟩ := bd_x H
  refine j_callS (pc := 13) dX12_best_13 mlX12_142 wyX12_in (tX12_in eh2) (by decide) rfl (by simp [Value.category]) rfl ?_
  refine j_if_eq (pc := 16) (tgt := 26) dX12_best_16 (by decide) (fun c4 => ?_) (fun c4 => ?_)
  · rw [if_pos c4] at H
    refine j_iconst (pc := 26) (v := -1) dX12_best_26 (by decide) ?_
    exact j_ireturn (pc := 27) dX12_best_27 rfl (ri_1 H) (ri_2 H)
  · rw [if_neg c4] at H
    refine j_iload_n (pc := 19) dX12_best_19 rfl ?_
    obtain ⟨r6, h5, eh5, H⟩ := bd_x H
    refine j_callS (pc := 20) dX12_best_20 mlX12_178 wyX12_isDepth (tX12_isDepth eh5) (by decide) rfl (by simp [Value.category]) rfl ?_
    refine j_if_ne (pc := 23) (tgt := 28) dX12_best_23 (by decide) (fun c7 => ?_) (fun c7 => ?_)
    · rw [if_neg c7] at H
      refine j_iconst (pc := 28) (v := 0) dX12_best_28 (by decide) ?_
      refine j_istore_n (pc := 29) (L' := [some (.ref 0), some (.int p1), some (.int p2), some (.int (0 : Int32)), none, none, none, none, none, none]) dX12_best_29 (by decide) rfl ?_
      refine j_aload_n (pc := 30) dX12_best_30 rfl ?_
      refine j_iload_n (pc := 31) dX12_best_31 rfl ?_
      obtain ⟨r9, h8, eh8, H⟩ := bd_x H
      refine j_callV (pc := 32) dX12_best_32 mlX12_198 wyX12_heavyAt (tX12_heavyAt eh8) (by decide) rfl rfl rfl rfl (by simp [Value.category]) rfl ?_
      refine j_istore (pc := 35) (L' := [some (.ref 0), some (.int p1), some (.int p2), some (.int (0 : Int32)), some (.int r9), none, none, none, none, none]) dX12_best_35 (by decide) rfl ?_
      refine j_aload_n (pc := 37) dX12_best_37 rfl ?_
      refine j_iconst (pc := 38) (v := 0) dX12_best_38 (by decide) ?_
      obtain ⟨r11, h10, eh10, H⟩ := bd_x H
      refine j_callV (pc := 39) dX12_best_39 mlX12_204 wyX12_momentOf (tX12_momentOf eh10) (by decide) rfl rfl rfl rfl (by simp [Value.category]) rfl ?_
      refine j_istore (pc := 42) (L' := [some (.ref 0), some (.int p1), some (.int p2), some (.int (0 : Int32)), some (.int r9), some (.int r11), none, none, none, none]) dX12_best_42 (by decide) rfl ?_
      refine j_iconst (pc := 44) (v := 1) dX12_best_44 (by decide) ?_
      refine j_istore (pc := 45) (L' := [some (.ref 0), some (.int p1), some (.int p2), some (.int (0 : Int32)), some (.int r9), some (.int r11), some (.int (1 : Int32)), none, none, none]) dX12_best_45 (by decide) rfl ?_
      refine Jx.sub (L' := [some (.ref 0), some (.int p1), some (.int p2), some (.int (0 : Int32)), some (.int r9), some (.int r11), some (.int (1 : Int32)), none, none, none]) (⟨rfl, ⟨rfl, ⟨rfl, ⟨rfl, ⟨rfl, ⟨rfl, ⟨rfl, trivial⟩⟩⟩⟩⟩⟩⟩) ?_
      exact jX12_best_47 FU p1 p2 (0 : Int32) r9 r11 (1 : Int32) h10 H
    · rw [if_pos c7] at H
      refine j_iconst (pc := 26) (v := -1) dX12_best_26 (by decide) ?_
      exact j_ireturn (pc := 27) dX12_best_27 rfl (ri_1 H) (ri_2 H)

noncomputable def fX12_trim_280 (k47 : Int32 → Int32 → Int32 → Int32 → Int32 → Int32 → Int32 → Int32 → HS → Option (Int32 × HS)) (k60 : Int32 → Int32 → Int32 → Int32 → Int32 → Int32 → Int32 → Int32 → Int32 → HS → Option (Int32 × HS)) (v1 : Int32) (v2 : Int32) (v3 : Int32) (v4 : Int32) (v5 : Int32) (v6 : Int32) (v7 : Int32) (v8 : Int32) (v9 : Int32) (h : HS) : Option (Int32 × HS) := bv (fX12_pop h) (fun h36 => nm (v9 + (1 : Int32)) (fun v9_37 => k60 v1 v2 v3 v4 v5 v6 v7 v8 v9_37 h36))
set_option maxRecDepth 100000 in
theorem jX12_trim_280 {r : Int32} {h0 : HS} (k47 : Int32 → Int32 → Int32 → Int32 → Int32 → Int32 → Int32 → Int32 → HS → Option (Int32 × HS)) (k60 : Int32 → Int32 → Int32 → Int32 → Int32 → Int32 → Int32 → Int32 → Int32 → HS → Option (Int32 × HS)) (hk47 : ∀ (v1 : Int32) (v2 : Int32) (v3 : Int32) (v4 : Int32) (v5 : Int32) (v6 : Int32) (v7 : Int32) (v8 : Int32) (h : HS), k47 v1 v2 v3 v4 v5 v6 v7 v8 h = some (r, h0) → Jx skM RX12 cX12_trim 12 (some .int) 4 (some (.int r)) h0 47 [some (.ref 0), some (.int v1), some (.int v2), some (.int v3), some (.int v4), some (.int v5), some (.int v6), some (.int v7), some (.int v8), none, none, none] [] h) (hk60 : ∀ (v1 : Int32) (v2 : Int32) (v3 : Int32) (v4 : Int32) (v5 : Int32) (v6 : Int32) (v7 : Int32) (v8 : Int32) (v9 : Int32) (h : HS), k60 v1 v2 v3 v4 v5 v6 v7 v8 v9 h = some (r, h0) → Jx skM RX12 cX12_trim 12 (some .int) 4 (some (.int r)) h0 60 [some (.ref 0), some (.int v1), some (.int v2), some (.int v3), some (.int v4), some (.int v5), some (.int v6), some (.int v7), some (.int v8), some (.int v9), none, none] [] h) (v1 : Int32) (v2 : Int32) (v3 : Int32) (v4 : Int32) (v5 : Int32) (v6 : Int32) (v7 : Int32) (v8 : Int32) (v9 : Int32) (h : HS) (H : fX12_trim_280 k47 k60 v1 v2 v3 v4 v5 v6 v7 v8 v9 h = some (r, h0)) : Jx skM RX12 cX12_trim 12 (some .int) 4 (some (.int r)) h0 280 [some (.ref 0), some (.int v1), some (.int v2), some (.int v3), some (.int v4), some (.int v5), some (.int v6), some (.int v7), some (.int v8), some (.int v9), none, none] [] h := by
  unfold fX12_trim_280 at H
  refine j_aload_n (pc := 280) dX12_trim_280 rfl ?_
  obtain ⟨h36, eh36, H⟩ := bv_x H
  refine j_callV (pc := 281) dX12_trim_281 mlX12_298 wyX12_pop (tX12_pop eh36) (by decide) rfl rfl rfl rfl (by simp [Value.category]) rfl ?_
  obtain ⟨v9_37, ev9_37, H⟩ := nm_x H
  refine j_iinc (pc := 284) (L' := [some (.ref 0), some (.int v1), some (.int v2), some (.int v3), some (.int v4), some (.int v5), some (.int v6), some (.int v7), some (.int v8), some (.int v9_37), none, none]) (w := 1) dX12_trim_284 rfl (by decide) (by decide) v9_37 ev9_37 rfl ?_
  refine j_goto (pc := 287) (tgt := 60) dX12_trim_287 (by decide) ?_
  refine Jx.sub (L' := [some (.ref 0), some (.int v1), some (.int v2), some (.int v3), some (.int v4), some (.int v5), some (.int v6), some (.int v7), some (.int v8), some (.int v9_37), none, none]) (⟨rfl, ⟨rfl, ⟨rfl, ⟨rfl, ⟨rfl, ⟨rfl, ⟨rfl, ⟨rfl, ⟨rfl, ⟨rfl, trivial⟩⟩⟩⟩⟩⟩⟩⟩⟩⟩) ?_
  exact hk60 v1 v2 v3 v4 v5 v6 v7 v8 v9_37 h36 H
noncomputable def fX12_trim_264 (k47 : Int32 → Int32 → Int32 → Int32 → Int32 → Int32 → Int32 → Int32 → HS → Option (Int32 × HS)) (k60 : Int32 → Int32 → Int32 → Int32 → Int32 → Int32 → Int32 → Int32 → Int32 → HS → Option (Int32 × HS)) (k145 : Int32 → Int32 → Int32 → Int32 → Int32 → Int32 → Int32 → Int32 → Int32 → Int32 → HS → Option (Int32 × HS)) (k158 : Int32 → Int32 → Int32 → Int32 → Int32 → Int32 → Int32 → Int32 → Int32 → Int32 → Int32 → HS → Option (Int32 × HS)) (v1 : Int32) (v2 : Int32) (v3 : Int32) (v4 : Int32) (v5 : Int32) (v6 : Int32) (v7 : Int32) (v8 : Int32) (v9 : Int32) (v10 : Int32) (v11 : Int32) (h : HS) : Option (Int32 × HS) := bv (fX12_pop h) (fun h60 => nm (v11 + (1 : Int32)) (fun v11_61 => k158 v1 v2 v3 v4 v5 v6 v7 v8 v9 v10 v11_61 h60))
set_option maxRecDepth 100000 in
theorem jX12_trim_264 {r : Int32} {h0 : HS} (k47 : Int32 → Int32 → Int32 → Int32 → Int32 → Int32 → Int32 → Int32 → HS → Option (Int32 × HS)) (k60 : Int32 → Int32 → Int32 → Int32 → Int32 → Int32 → Int32 → Int32 → Int32 → HS → Option (Int32 × HS)) (k145 : Int32 → Int32 → Int32 → Int32 → Int32 → Int32 → Int32 → Int32 → Int32 → Int32 → HS → Option (Int32 × HS)) (k158 : Int32 → Int32 → Int32 → Int32 → Int32 → Int32 → Int32 → Int32 → Int32 → Int32 → Int32 → HS → Option (Int32 × HS)) (hk47 : ∀ (v1 : Int32) (v2 : Int32) (v3 : Int32) (v4 : Int32) (v5 : Int32) (v6 : Int32) (v7 : Int32) (v8 : Int32) (h : HS), k47 v1 v2 v3 v4 v5 v6 v7 v8 h = some (r, h0) → Jx skM RX12 cX12_trim 12 (some .int) 4 (some (.int r)) h0 47 [some (.ref 0), some (.int v1), some (.int v2), some (.int v3), some (.int v4), some (.int v5), some (.int v6), some (.int v7), some (.int v8), none, none, none] [] h) (hk60 : ∀ (v1 : Int32) (v2 : Int32) (v3 : Int32) (v4 : Int32) (v5 : Int32) (v6 : Int32) (v7 : Int32) (v8 : Int32) (v9 : Int32) (h : HS), k60 v1 v2 v3 v4 v5 v6 v7 v8 v9 h = some (r, h0) → Jx skM RX12 cX12_trim 12 (some .int) 4 (some (.int r)) h0 60 [some (.ref 0), some (.int v1), some (.int v2), some (.int v3), some (.int v4), some (.int v5), some (.int v6), some (.int v7), some (.int v8), some (.int v9), none, none] [] h) (hk145 : ∀ (v1 : Int32) (v2 : Int32) (v3 : Int32) (v4 : Int32) (v5 : Int32) (v6 : Int32) (v7 : Int32) (v8 : Int32) (v9 : Int32) (v10 : Int32) (h : HS), k145 v1 v2 v3 v4 v5 v6 v7 v8 v9 v10 h = some (r, h0) → Jx skM RX12 cX12_trim 12 (some .int) 4 (some (.int r)) h0 145 [some (.ref 0), some (.int v1), some (.int v2), some (.int v3), some (.int v4), some (.int v5), some (.int v6), some (.int v7), some (.int v8), some (.int v9), some (.int v10), none] [] h) (hk158 : ∀ (v1 : Int32) (v2 : Int32) (v3 : Int32) (v4 : Int32) (v5 : Int32) (v6 : Int32) (v7 : Int32) (v8 : Int32) (v9 : Int32) (v10 : Int32) (v11 : Int32) (h : HS), k158 v1 v2 v3 v4 v5 v6 v7 v8 v9 v10 v11 h = some (r, h0) → Jx skM RX12 cX12_trim 12 (some .int) 4 (some (.int r)) h0 158 [some (.ref 0), some (.int v1), some (.int v2), some (.int v3), some (.int v4), some (.int v5), some (.int v6), some (.int v7), some (.int v8), some (.int v9), some (.int v10), some (.int v11)] [] h) (v1 : Int32) (v2 : Int32) (v3 : Int32) (v4 : Int32) (v5 : Int32) (v6 : Int32) (v7 : Int32) (v8 : Int32) (v9 : Int32) (v10 : Int32) (v11 : Int32) (h : HS) (H : fX12_trim_264 k47 k60 k145 k158 v1 v2 v3 v4 v5 v6 v7 v8 v9 v10 v11 h = some (r, h0)) : Jx skM RX12 cX12_trim 12 (some .int) 4 (some (.int r)) h0 264 [some (.ref 0), some (.int v1), some (.int v2), some (.int v3), some (.int v4), some (.int v5), some (.int v6), some (.int v7), some (.int v8), some (.int v9), some (.int v10), some (.int v11)] [] h := by
  unfold fX12_trim_264 at H
  refine j_aload_n (pc := 264) dX12_trim_264 rfl ?_
  obtain ⟨h60, eh60, H⟩ := bv_x H
  refine j_callV (pc := 265) dX12_trim_265 mlX12_298 wyX12_pop (tX12_pop eh60) (by decide) rfl rfl rfl rfl (by simp [Value.category]) rfl ?_
  obtain ⟨v11_61, ev11_61, H⟩ := nm_x H
  refine j_iinc (pc := 268) (L' := [some (.ref 0), some (.int v1), some (.int v2), some (.int v3), some (.int v4), some (.int v5), some (.int v6), some (.int v7), some (.int v8), some (.int v9), some (.int v10), some (.int v11_61)]) (w := 1) dX12_trim_268 rfl (by decide) (by decide) v11_61 ev11_61 rfl ?_
  refine j_goto (pc := 271) (tgt := 158) dX12_trim_271 (by decide) ?_
  refine Jx.sub (L' := [some (.ref 0), some (.int v1), some (.int v2), some (.int v3), some (.int v4), some (.int v5), some (.int v6), some (.int v7), some (.int v8), some (.int v9), some (.int v10), some (.int v11_61)]) (⟨rfl, ⟨rfl, ⟨rfl, ⟨rfl, ⟨rfl, ⟨rfl, ⟨rfl, ⟨rfl, ⟨rfl, ⟨rfl, ⟨rfl, ⟨rfl, trivial⟩⟩⟩⟩⟩⟩⟩⟩⟩⟩⟩⟩) ?_
  exact hk158 v1 v2 v3 v4 v5 v6 v7 v8 v9 v10 v11_61 h60 H
noncomputable def fX12_trim_213 (k47 : Int32 → Int32 → Int32 → Int32 → Int32 → Int32 → Int32 → Int32 → HS → Option (Int32 × HS)) (k60 : Int32 → Int32 → Int32 → Int32 → Int32 → Int32 → Int32 → Int32 → Int32 → HS → Option (Int32 × HS)) (k145 : Int32 → Int32 → Int32 → Int32 → Int32 → Int32 → Int32 → Int32 → Int32 → Int32 → HS → Option (Int32 × HS)) (k158 : Int32 → Int32 → Int32 → Int32 → Int32 → Int32 → Int32 → Int32 → Int32 → Int32 → Int32 → HS → Option (Int32 × HS)) (v1 : Int32) (v2 : Int32) (v3 : Int32) (v4 : Int32) (v5 : Int32) (v6 : Int32) (v7 : Int32) (v8 : Int32) (v9 : Int32) (v10 : Int32) (v11 : Int32) (h : HS) : Option (Int32 × HS) := bv (fX12_push h) (fun h52 => bd (fX12_runs v10 v11 h52) (fun r54 h53 => if r54 < 0 then (fX12_trim_264 k47 k60 k145 k158 v1 v2 v3 v4 v5 v6 v7 v8 v9 v10 v11 h53) else (bd (fX12_isBalanced v1 h53) (fun r57 h56 => if r57 = 0 then (fX12_trim_264 k47 k60 k145 k158 v1 v2 v3 v4 v5 v6 v7 v8 v9 v10 v11 h56) else (nm (((iabs v9) + (iabs v11))) (fun v3_59 => fX12_trim_264 k47 k60 k145 k158 v1 v2 v3_59 v8 v9 v10 v11 v8 v9 v10 v11 h56))))))
set_option maxRecDepth 100000 in
theorem jX12_trim_213 {r : Int32} {h0 : HS} (k47 : Int32 → Int32 → Int32 → Int32 → Int32 → Int32 → Int32 → Int32 → HS → Option (Int32 × HS)) (k60 : Int32 → Int32 → Int32 → Int32 → Int32 → Int32 → Int32 → Int32 → Int32 → HS → Option (Int32 × HS)) (k145 : Int32 → Int32 → Int32 → Int32 → Int32 → Int32 → Int32 → Int32 → Int32 → Int32 → HS → Option (Int32 × HS)) (k158 : Int32 → Int32 → Int32 → Int32 → Int32 → Int32 → Int32 → Int32 → Int32 → Int32 → Int32 → HS → Option (Int32 × HS)) (hk47 : ∀ (v1 : Int32) (v2 : Int32) (v3 : Int32) (v4 : Int32) (v5 : Int32) (v6 : Int32) (v7 : Int32) (v8 : Int32) (h : HS), k47 v1 v2 v3 v4 v5 v6 v7 v8 h = some (r, h0) → Jx skM RX12 cX12_trim 12 (some .int) 4 (some (.int r)) h0 47 [some (.ref 0), some (.int v1), some (.int v2), some (.int v3), some (.int v4), some (.int v5), some (.int v6), some (.int v7), some (.int v8), none, none, none] [] h) (hk60 : ∀ (v1 : Int32) (v2 : Int32) (v3 : Int32) (v4 : Int32) (v5 : Int32) (v6 : Int32) (v7 : Int32) (v8 : Int32) (v9 : Int32) (h : HS), k60 v1 v2 v3 v4 v5 v6 v7 v8 v9 h = some (r, h0) → Jx skM RX12 cX12_trim 12 (some .int) 4 (some (.int r)) h0 60 [some (.ref 0), some (.int v1), some (.int v2), some (.int v3), some (.int v4), some (.int v5), some (.int v6), some (.int v7), some (.int v8), some (.int v9), none, none] [] h) (hk145 : ∀ (v1 : Int32) (v2 : Int32) (v3 : Int32) (v4 : Int32) (v5 : Int32) (v6 : Int32) (v7 : Int32) (v8 : Int32) (v9 : Int32) (v10 : Int32) (h : HS), k145 v1 v2 v3 v4 v5 v6 v7 v8 v9 v10 h = some (r, h0) → Jx skM RX12 cX12_trim 12 (some .int) 4 (some (.int r)) h0 145 [some (.ref 0), some (.int v1), some (.int v2), some (.int v3), some (.int v4), some (.int v5), some (.int v6), some (.int v7), some (.int v8), some (.int v9), some (.int v10), none] [] h) (hk158 : ∀ (v1 : Int32) (v2 : Int32) (v3 : Int32) (v4 : Int32) (v5 : Int32) (v6 : Int32) (v7 : Int32) (v8 : Int32) (v9 : Int32) (v10 : Int32) (v11 : Int32) (h : HS), k158 v1 v2 v3 v4 v5 v6 v7 v8 v9 v10 v11 h = some (r, h0) → Jx skM RX12 cX12_trim 12 (some .int) 4 (some (.int r)) h0 158 [some (.ref 0), some (.int v1), some (.int v2), some (.int v3), some (.int v4), some (.int v5), some (.int v6), some (.int v7), some (.int v8), some (.int v9), some (.int v10), some (.int v11)] [] h) (v1 : Int32) (v2 : Int32) (v3 : Int32) (v4 : Int32) (v5 : Int32) (v6 : Int32) (v7 : Int32) (v8 : Int32) (v9 : Int32) (v10 : Int32) (v11 : Int32) (h : HS) (H : fX12_trim_213 k47 k60 k145 k158 v1 v2 v3 v4 v5 v6 v7 v8 v9 v10 v11 h = some (r, h0)) : Jx skM RX12 cX12_trim 12 (some .int) 4 (some (.int r)) h0 213 [some (.ref 0), some (.int v1), some (.int v2), some (.int v3), some (.int v4), some (.int v5), some (.int v6), some (.int v7), some (.int v8), some (.int v9), some (.int v10), some (.int v11)] [] h := by
  unfold fX12_trim_213 at H
  refine j_aload_n (pc := 213) dX12_trim_213 rfl ?_
  obtain ⟨h52, eh52, H⟩ := bv_x H
  refine j_callV (pc := 214) dX12_trim_214 mlX12_292 wyX12_push (tX12_push eh52) (by decide) rfl rfl rfl rfl (by simp [Value.category]) rfl ?_
  refine j_aload_n (pc := 217) dX12_trim_217 rfl ?_
  refine j_iload (pc := 218) dX12_trim_218 rfl ?_
  refine j_iload (pc := 220) dX12_trim_220 rfl ?_
  obtain ⟨r54, h53, eh53, H⟩ := bd_x H
  refine j_callV (pc := 222) dX12_trim_222 mlX12_310 wyX12_runs (tX12_runs eh53) (by decide) rfl rfl rfl rfl (by simp [Value.category]) rfl ?_
  refine j_if_lt (pc := 225) (tgt := 264) dX12_trim_225 (by decide) (fun c55 => ?_) (fun c55 => ?_)
  · rw [if_pos c55] at H
    refine Jx.sub (L' := [some (.ref 0), some (.int v1), some (.int v2), some (.int v3), some (.int v4), some (.int v5), some (.int v6), some (.int v7), some (.int v8), some (.int v9), some (.int v10), some (.int v11)]) (⟨rfl, ⟨rfl, ⟨rfl, ⟨rfl, ⟨rfl, ⟨rfl, ⟨rfl, ⟨rfl, ⟨rfl, ⟨rfl, ⟨rfl, ⟨rfl, trivial⟩⟩⟩⟩⟩⟩⟩⟩⟩⟩⟩⟩) ?_
    exact jX12_trim_264 _ _ _ _ hk47 hk60 hk145 hk158 v1 v2 v3 v4 v5 v6 v7 v8 v9 v10 v11 h53 H
  · rw [if_neg c55] at H
    refine j_aload_n (pc := 228) dX12_trim_228 rfl ?_
    refine j_iload_n (pc := 229) dX12_trim_229 rfl ?_
    obtain ⟨r57, h56, eh56, H⟩ := bd_x H
    refine j_callV (pc := 230) dX12_trim_230 mlX12_207 wyX12_isBalanced (tX12_isBalanced eh56) (by decide) rfl rfl rfl rfl (by simp [Value.category]) rfl ?_
    refine j_if_eq (pc := 233) (tgt := 264) dX12_trim_233 (by decide) (fun c58 => ?_) (fun c58 => ?_)
    · rw [if_pos c58] at H
      refine Jx.sub (L' := [some (.ref 0), some (.int v1), some (.int v2), some (.int v3), some (.int v4), some (.int v5), some (.int v6), some (.int v7), some (.int v8), some (.int v9), some (.int v10), some (.int v11)]) (⟨rfl, ⟨rfl, ⟨rfl, ⟨rfl, ⟨rfl, ⟨rfl, ⟨rfl, ⟨rfl, ⟨rfl, ⟨rfl, ⟨rfl, ⟨rfl, trivial⟩⟩⟩⟩⟩⟩⟩⟩⟩⟩⟩⟩) ?_
      exact jX12_trim_264 _ _ _ _ hk47 hk60 hk145 hk158 v1 v2 v3 v4 v5 v6 v7 v8 v9 v10 v11 h56 H
    · rw [if_neg c58] at H
      refine j_iload (pc := 236) dX12_trim_236 rfl ?_
      refine j_mabs (pc := 238) dX12_trim_238 wmX12_201 (by simp [Value.category]) ?_
      refine j_iload (pc := 241) dX12_trim_241 rfl ?_
      refine j_mabs (pc := 243) dX12_trim_243 wmX12_201 (by simp [Value.category]) ?_
      refine j_iadd (pc := 246) dX12_trim_246 ?_
      obtain ⟨v3_59, ev3_59, H⟩ := nm_x H
      refine j_topi ev3_59 ?_
      refine j_istore_n (pc := 247) (L' := [some (.ref 0), some (.int v1), some (.int v2), some (.int v3_59), some (.int v4), some (.int v5), some (.int v6), some (.int v7), some (.int v8), some (.int v9), some (.int v10), some (.int v11)]) dX12_trim_247 (by decide) rfl ?_
      refine j_iload (pc := 248) dX12_trim_248 rfl ?_
      refine j_istore (pc := 250) (L' := [some (.ref 0), some (.int v1), some (.int v2), some (.int v3_59), some (.int v8), some (.int v5), some (.int v6), some (.int v7), some (.int v8), some (.int v9), some (.int v10), some (.int v11)]) dX12_trim_250 (by decide) rfl ?_
      refine j_iload (pc := 252) dX12_trim_252 rfl ?_
      refine j_istore (pc := 254) (L' := [some (.ref 0), some (.int v1), some (.int v2), some (.int v3_59), some (.int v8), some (.int v9), some (.int v6), some (.int v7), some (.int v8), some (.int v9), some (.int v10), some (.int v11)]) dX12_trim_254 (by decide) rfl ?_
      refine j_iload (pc := 256) dX12_trim_256 rfl ?_
      refine j_istore (pc := 258) (L' := [some (.ref 0), some (.int v1), some (.int v2), some (.int v3_59), some (.int v8), some (.int v9), some (.int v10), some (.int v7), some (.int v8), some (.int v9), some (.int v10), some (.int v11)]) dX12_trim_258 (by decide) rfl ?_
      refine j_iload (pc := 260) dX12_trim_260 rfl ?_
      refine j_istore (pc := 262) (L' := [some (.ref 0), some (.int v1), some (.int v2), some (.int v3_59), some (.int v8), some (.int v9), some (.int v10), some (.int v11), some (.int v8), some (.int v9), some (.int v10), some (.int v11)]) dX12_trim_262 (by decide) rfl ?_
      refine Jx.sub (L' := [some (.ref 0), some (.int v1), some (.int v2), some (.int v3_59), some (.int v8), some (.int v9), some (.int v10), some (.int v11), some (.int v8), some (.int v9), some (.int v10), some (.int v11)]) (⟨rfl, ⟨rfl, ⟨rfl, ⟨rfl, ⟨rfl, ⟨rfl, ⟨rfl, ⟨rfl, ⟨rfl, ⟨rfl, ⟨rfl, ⟨rfl, trivial⟩⟩⟩⟩⟩⟩⟩⟩⟩⟩⟩⟩) ?_
      exact jX12_trim_264 _ _ _ _ hk47 hk60 hk145 hk158 v1 v2 v3_59 v8 v9 v10 v11 v8 v9 v10 v11 h56 H
noncomputable def fX12_trim_191 (k47 : Int32 → Int32 → Int32 → Int32 → Int32 → Int32 → Int32 → Int32 → HS → Option (Int32 × HS)) (k60 : Int32 → Int32 → Int32 → Int32 → Int32 → Int32 → Int32 → Int32 → Int32 → HS → Option (Int32 × HS)) (k145 : Int32 → Int32 → Int32 → Int32 → Int32 → Int32 → Int32 → Int32 → Int32 → Int32 → HS → Option (Int32 × HS)) (k158 : Int32 → Int32 → Int32 → Int32 → Int32 → Int32 → Int32 → Int32 → Int32 → Int32 → Int32 → HS → Option (Int32 × HS)) (v1 : Int32) (v2 : Int32) (v3 : Int32) (v4 : Int32) (v5 : Int32) (v6 : Int32) (v7 : Int32) (v8 : Int32) (v9 : Int32) (v10 : Int32) (v11 : Int32) (h : HS) : Option (Int32 × HS) := if v3 < 0 then (fX12_trim_213 k47 k60 k145 k158 v1 v2 v3 v4 v5 v6 v7 v8 v9 v10 v11 h) else (if ((iabs v9) + (iabs v11)) < v3 then (fX12_trim_213 k47 k60 k145 k158 v1 v2 v3 v4 v5 v6 v7 v8 v9 v10 v11 h) else (nm (v11 + (1 : Int32)) (fun v11_51 => k158 v1 v2 v3 v4 v5 v6 v7 v8 v9 v10 v11_51 h)))
set_option maxRecDepth 100000 in
theorem jX12_trim_191 {r : Int32} {h0 : HS} (k47 : Int32 → Int32 → Int32 → Int32 → Int32 → Int32 → Int32 → Int32 → HS → Option (Int32 × HS)) (k60 : Int32 → Int32 → Int32 → Int32 → Int32 → Int32 → Int32 → Int32 → Int32 → HS → Option (Int32 × HS)) (k145 : Int32 → Int32 → Int32 → Int32 → Int32 → Int32 → Int32 → Int32 → Int32 → Int32 → HS → Option (Int32 × HS)) (k158 : Int32 → Int32 → Int32 → Int32 → Int32 → Int32 → Int32 → Int32 → Int32 → Int32 → Int32 → HS → Option (Int32 × HS)) (hk47 : ∀ (v1 : Int32) (v2 : Int32) (v3 : Int32) (v4 : Int32) (v5 : Int32) (v6 : Int32) (v7 : Int32) (v8 : Int32) (h : HS), k47 v1 v2 v3 v4 v5 v6 v7 v8 h = some (r, h0) → Jx skM RX12 cX12_trim 12 (some .int) 4 (some (.int r)) h0 47 [some (.ref 0), some (.int v1), some (.int v2), some (.int v3), some (.int v4), some (.int v5), some (.int v6), some (.int v7), some (.int v8), none, none, none] [] h) (hk60 : ∀ (v1 : Int32) (v2 : Int32) (v3 : Int32) (v4 : Int32) (v5 : Int32) (v6 : Int32) (v7 : Int32) (v8 : Int32) (v9 : Int32) (h : HS), k60 v1 v2 v3 v4 v5 v6 v7 v8 v9 h = some (r, h0) → Jx skM RX12 cX12_trim 12 (some .int) 4 (some (.int r)) h0 60 [some (.ref 0), some (.int v1), some (.int v2), some (.int v3), some (.int v4), some (.int v5), some (.int v6), some (.int v7), some (.int v8), some (.int v9), none, none] [] h) (hk145 : ∀ (v1 : Int32) (v2 : Int32) (v3 : Int32) (v4 : Int32) (v5 : Int32) (v6 : Int32) (v7 : Int32) (v8 : Int32) (v9 : Int32) (v10 : Int32) (h : HS), k145 v1 v2 v3 v4 v5 v6 v7 v8 v9 v10 h = some (r, h0) → Jx skM RX12 cX12_trim 12 (some .int) 4 (some (.int r)) h0 145 [some (.ref 0), some (.int v1), some (.int v2), some (.int v3), some (.int v4), some (.int v5), some (.int v6), some (.int v7), some (.int v8), some (.int v9), some (.int v10), none] [] h) (hk158 : ∀ (v1 : Int32) (v2 : Int32) (v3 : Int32) (v4 : Int32) (v5 : Int32) (v6 : Int32) (v7 : Int32) (v8 : Int32) (v9 : Int32) (v10 : Int32) (v11 : Int32) (h : HS), k158 v1 v2 v3 v4 v5 v6 v7 v8 v9 v10 v11 h = some (r, h0) → Jx skM RX12 cX12_trim 12 (some .int) 4 (some (.int r)) h0 158 [some (.ref 0), some (.int v1), some (.int v2), some (.int v3), some (.int v4), some (.int v5), some (.int v6), some (.int v7), some (.int v8), some (.int v9), some (.int v10), some (.int v11)] [] h) (v1 : Int32) (v2 : Int32) (v3 : Int32) (v4 : Int32) (v5 : Int32) (v6 : Int32) (v7 : Int32) (v8 : Int32) (v9 : Int32) (v10 : Int32) (v11 : Int32) (h : HS) (H : fX12_trim_191 k47 k60 k145 k158 v1 v2 v3 v4 v5 v6 v7 v8 v9 v10 v11 h = some (r, h0)) : Jx skM RX12 cX12_trim 12 (some .int) 4 (some (.int r)) h0 191 [some (.ref 0), some (.int v1), some (.int v2), some (.int v3), some (.int v4), some (.int v5), some (.int v6), some (.int v7), some (.int v8), some (.int v9), some (.int v10), some (.int v11)] [] h := by
  unfold fX12_trim_191 at H
  refine j_iload_n (pc := 191) dX12_trim_191 rfl ?_
  refine j_if_lt (pc := 192) (tgt := 213) dX12_trim_192 (by decide) (fun c49 => ?_) (fun c49 => ?_)
  · rw [if_pos c49] at H
    refine Jx.sub (L' := [some (.ref 0), some (.int v1), some (.int v2), some (.int v3), some (.int v4), some (.int v5), some (.int v6), some (.int v7), some (.int v8), some (.int v9), some (.int v10), some (.int v11)]) (⟨rfl, ⟨rfl, ⟨rfl, ⟨rfl, ⟨rfl, ⟨rfl, ⟨rfl, ⟨rfl, ⟨rfl, ⟨rfl, ⟨rfl, ⟨rfl, trivial⟩⟩⟩⟩⟩⟩⟩⟩⟩⟩⟩⟩) ?_
    exact jX12_trim_213 _ _ _ _ hk47 hk60 hk145 hk158 v1 v2 v3 v4 v5 v6 v7 v8 v9 v10 v11 h H
  · rw [if_neg c49] at H
    refine j_iload (pc := 195) dX12_trim_195 rfl ?_
    refine j_mabs (pc := 197) dX12_trim_197 wmX12_201 (by simp [Value.category]) ?_
    refine j_iload (pc := 200) dX12_trim_200 rfl ?_
    refine j_mabs (pc := 202) dX12_trim_202 wmX12_201 (by simp [Value.category]) ?_
    refine j_iadd (pc := 205) dX12_trim_205 ?_
    refine j_iload_n (pc := 206) dX12_trim_206 rfl ?_
    refine j_icmp_lt (pc := 207) (tgt := 213) dX12_trim_207 (by decide) (fun c50 => ?_) (fun c50 => ?_)
    · rw [if_pos c50] at H
      refine Jx.sub (L' := [some (.ref 0), some (.int v1), some (.int v2), some (.int v3), some (.int v4), some (.int v5), some (.int v6), some (.int v7), some (.int v8), some (.int v9), some (.int v10), some (.int v11)]) (⟨rfl, ⟨rfl, ⟨rfl, ⟨rfl, ⟨rfl, ⟨rfl, ⟨rfl, ⟨rfl, ⟨rfl, ⟨rfl, ⟨rfl, ⟨rfl, trivial⟩⟩⟩⟩⟩⟩⟩⟩⟩⟩⟩⟩) ?_
      exact jX12_trim_213 _ _ _ _ hk47 hk60 hk145 hk158 v1 v2 v3 v4 v5 v6 v7 v8 v9 v10 v11 h H
    · rw [if_neg c50] at H
      refine j_goto (pc := 210) (tgt := 268) dX12_trim_210 (by decide) ?_
      obtain ⟨v11_51, ev11_51, H⟩ := nm_x H
      refine j_iinc (pc := 268) (L' := [some (.ref 0), some (.int v1), some (.int v2), some (.int v3), some (.int v4), some (.int v5), some (.int v6), some (.int v7), some (.int v8), some (.int v9), some (.int v10), some (.int v11_51)]) (w := 1) dX12_trim_268 rfl (by decide) (by decide) v11_51 ev11_51 rfl ?_
      refine j_goto (pc := 271) (tgt := 158) dX12_trim_271 (by decide) ?_
      refine Jx.sub (L' := [some (.ref 0), some (.int v1), some (.int v2), some (.int v3), some (.int v4), some (.int v5), some (.int v6), some (.int v7), some (.int v8), some (.int v9), some (.int v10), some (.int v11_51)]) (⟨rfl, ⟨rfl, ⟨rfl, ⟨rfl, ⟨rfl, ⟨rfl, ⟨rfl, ⟨rfl, ⟨rfl, ⟨rfl, ⟨rfl, ⟨rfl, trivial⟩⟩⟩⟩⟩⟩⟩⟩⟩⟩⟩⟩) ?_
      exact hk158 v1 v2 v3 v4 v5 v6 v7 v8 v9 v10 v11_51 h H
noncomputable def fX12_trim_158 (k47 : Int32 → Int32 → Int32 → Int32 → Int32 → Int32 → Int32 → Int32 → HS → Option (Int32 × HS)) (k60 : Int32 → Int32 → Int32 → Int32 → Int32 → Int32 → Int32 → Int32 → Int32 → HS → Option (Int32 × HS)) (k145 : Int32 → Int32 → Int32 → Int32 → Int32 → Int32 → Int32 → Int32 → Int32 → Int32 → HS → Option (Int32 × HS)) : Nat → Int32 → Int32 → Int32 → Int32 → Int32 → Int32 → Int32 → Int32 → Int32 → Int32 → Int32 → HS → Option (Int32 × HS)
  | 0, _, _, _, _, _, _, _, _, _, _, _, _ => none
  | n + 1, v1, v2, v3, v4, v5, v6, v7, v8, v9, v10, v11, h => if (99 : Int32) < v11 then (nm (v10 + (1 : Int32)) (fun v10_40 => k145 v1 v2 v3 v4 v5 v6 v7 v8 v9 v10_40 h)) else (if v10 = v8 then (nm (v11 + (1 : Int32)) (fun v11_42 => fX12_trim_158 k47 k60 k145 n v1 v2 v3 v4 v5 v6 v7 v8 v9 v10 v11_42 h)) else (if v11 = 0 then (nm (v11 + (1 : Int32)) (fun v11_44 => fX12_trim_158 k47 k60 k145 n v1 v2 v3 v4 v5 v6 v7 v8 v9 v10 v11_44 h)) else (if v2 = 0 then (fX12_trim_191 k47 k60 k145 (fX12_trim_158 k47 k60 k145 n) v1 v2 v3 v4 v5 v6 v7 v8 v9 v10 v11 h) else (ck (inb v10 6) (if (gI h 20 v10.toNatClampNeg) = 0 then (nm (v11 + (1 : Int32)) (fun v11_48 => fX12_trim_158 k47 k60 k145 n v1 v2 v3 v4 v5 v6 v7 v8 v9 v10 v11_48 h)) else (fX12_trim_191 k47 k60 k145 (fX12_trim_158 k47 k60 k145 n) v1 v2 v3 v4 v5 v6 v7 v8 v9 v10 v11 h))))))
set_option maxRecDepth 100000 in
theorem jX12_trim_158 {r : Int32} {h0 : HS} (k47 : Int32 → Int32 → Int32 → Int32 → Int32 → Int32 → Int32 → Int32 → HS → Option (Int32 × HS)) (k60 : Int32 → Int32 → Int32 → Int32 → Int32 → Int32 → Int32 → Int32 → Int32 → HS → Option (Int32 × HS)) (k145 : Int32 → Int32 → Int32 → Int32 → Int32 → Int32 → Int32 → Int32 → Int32 → Int32 → HS → Option (Int32 × HS)) (hk47 : ∀ (v1 : Int32) (v2 : Int32) (v3 : Int32) (v4 : Int32) (v5 : Int32) (v6 : Int32) (v7 : Int32) (v8 : Int32) (h : HS), k47 v1 v2 v3 v4 v5 v6 v7 v8 h = some (r, h0) → Jx skM RX12 cX12_trim 12 (some .int) 4 (some (.int r)) h0 47 [some (.ref 0), some (.int v1), some (.int v2), some (.int v3), some (.int v4), some (.int v5), some (.int v6), some (.int v7), some (.int v8), none, none, none] [] h) (hk60 : ∀ (v1 : Int32) (v2 : Int32) (v3 : Int32) (v4 : Int32) (v5 : Int32) (v6 : Int32) (v7 : Int32) (v8 : Int32) (v9 : Int32) (h : HS), k60 v1 v2 v3 v4 v5 v6 v7 v8 v9 h = some (r, h0) → Jx skM RX12 cX12_trim 12 (some .int) 4 (some (.int r)) h0 60 [some (.ref 0), some (.int v1), some (.int v2), some (.int v3), some (.int v4), some (.int v5), some (.int v6), some (.int v7), some (.int v8), some (.int v9), none, none] [] h) (hk145 : ∀ (v1 : Int32) (v2 : Int32) (v3 : Int32) (v4 : Int32) (v5 : Int32) (v6 : Int32) (v7 : Int32) (v8 : Int32) (v9 : Int32) (v10 : Int32) (h : HS), k145 v1 v2 v3 v4 v5 v6 v7 v8 v9 v10 h = some (r, h0) → Jx skM RX12 cX12_trim 12 (some .int) 4 (some (.int r)) h0 145 [some (.ref 0), some (.int v1), some (.int v2), some (.int v3), some (.int v4), some (.int v5), some (.int v6), some (.int v7), some (.int v8), some (.int v9), some (.int v10), none] [] h) : ∀ (n : Nat) (v1 : Int32) (v2 : Int32) (v3 : Int32) (v4 : Int32) (v5 : Int32) (v6 : Int32) (v7 : Int32) (v8 : Int32) (v9 : Int32) (v10 : Int32) (v11 : Int32) (h : HS), fX12_trim_158 k47 k60 k145 n v1 v2 v3 v4 v5 v6 v7 v8 v9 v10 v11 h = some (r, h0) → Jx skM RX12 cX12_trim 12 (some .int) 4 (some (.int r)) h0 158 [some (.ref 0), some (.int v1), some (.int v2), some (.int v3), some (.int v4), some (.int v5), some (.int v6), some (.int v7), some (.int v8), some (.int v9), some (.int v10), some (.int v11)] [] h := by
  intro n
  induction n with
  | zero => intro v1 v2 v3 v4 v5 v6 v7 v8 v9 v10 v11  h H; cases H
  | succ n ih =>
    intro v1 v2 v3 v4 v5 v6 v7 v8 v9 v10 v11  h H
    rw [fX12_trim_158] at H
    refine j_iload (pc := 158) dX12_trim_158 rfl ?_
    refine j_bipush (pc := 160) (v := 99) dX12_trim_160 (by decide) ?_
    refine j_icmp_gt (pc := 162) (tgt := 274) dX12_trim_162 (by decide) (fun c39 => ?_) (fun c39 => ?_)
    · rw [if_pos c39] at H
      obtain ⟨v10_40, ev10_40, H⟩ := nm_x H
      refine j_iinc (pc := 274) (L' := [some (.ref 0), some (.int v1), some (.int v2), some (.int v3), some (.int v4), some (.int v5), some (.int v6), some (.int v7), some (.int v8), some (.int v9), some (.int v10_40), some (.int v11)]) (w := 1) dX12_trim_274 rfl (by decide) (by decide) v10_40 ev10_40 rfl ?_
      refine j_goto (pc := 277) (tgt := 145) dX12_trim_277 (by decide) ?_
      refine Jx.sub (L' := [some (.ref 0), some (.int v1), some (.int v2), some (.int v3), some (.int v4), some (.int v5), some (.int v6), some (.int v7), some (.int v8), some (.int v9), some (.int v10_40), none]) (⟨rfl, ⟨rfl, ⟨rfl, ⟨rfl, ⟨rfl, ⟨rfl, ⟨rfl, ⟨rfl, ⟨rfl, ⟨rfl, ⟨rfl, trivial⟩⟩⟩⟩⟩⟩⟩⟩⟩⟩⟩) ?_
      exact hk145 v1 v2 v3 v4 v5 v6 v7 v8 v9 v10_40 h H
    · rw [if_neg c39] at H
      refine j_iload (pc := 165) dX12_trim_165 rfl ?_
      refine j_iload (pc := 167) dX12_trim_167 rfl ?_
      refine j_icmp_eq (pc := 169) (tgt := 268) dX12_trim_169 (by decide) (fun c41 => ?_) (fun c41 => ?_)
      · rw [if_pos c41] at H
        obtain ⟨v11_42, ev11_42, H⟩ := nm_x H
        refine j_iinc (pc := 268) (L' := [some (.ref 0), some (.int v1), some (.int v2), some (.int v3), some (.int v4), some (.int v5), some (.int v6), some (.int v7), some (.int v8), some (.int v9), some (.int v10), some (.int v11_42)]) (w := 1) dX12_trim_268 rfl (by decide) (by decide) v11_42 ev11_42 rfl ?_
        refine j_goto (pc := 271) (tgt := 158) dX12_trim_271 (by decide) ?_
        refine Jx.sub (L' := [some (.ref 0), some (.int v1), some (.int v2), some (.int v3), some (.int v4), some (.int v5), some (.int v6), some (.int v7), some (.int v8), some (.int v9), some (.int v10), some (.int v11_42)]) (⟨rfl, ⟨rfl, ⟨rfl, ⟨rfl, ⟨rfl, ⟨rfl, ⟨rfl, ⟨rfl, ⟨rfl, ⟨rfl, ⟨rfl, ⟨rfl, trivial⟩⟩⟩⟩⟩⟩⟩⟩⟩⟩⟩⟩) ?_
        exact ih v1 v2 v3 v4 v5 v6 v7 v8 v9 v10 v11_42 h H
      · rw [if_neg c41] at H
        refine j_iload (pc := 172) dX12_trim_172 rfl ?_
        refine j_if_eq (pc := 174) (tgt := 268) dX12_trim_174 (by decide) (fun c43 => ?_) (fun c43 => ?_)
        · rw [if_pos c43] at H
          obtain ⟨v11_44, ev11_44, H⟩ := nm_x H
          refine j_iinc (pc := 268) (L' := [some (.ref 0), some (.int v1), some (.int v2), some (.int v3), some (.int v4), some (.int v5), some (.int v6), some (.int v7), some (.int v8), some (.int v9), some (.int v10), some (.int v11_44)]) (w := 1) dX12_trim_268 rfl (by decide) (by decide) v11_44 ev11_44 rfl ?_
          refine j_goto (pc := 271) (tgt := 158) dX12_trim_271 (by decide) ?_
          refine Jx.sub (L' := [some (.ref 0), some (.int v1), some (.int v2), some (.int v3), some (.int v4), some (.int v5), some (.int v6), some (.int v7), some (.int v8), some (.int v9), some (.int v10), some (.int v11_44)]) (⟨rfl, ⟨rfl, ⟨rfl, ⟨rfl, ⟨rfl, ⟨rfl, ⟨rfl, ⟨rfl, ⟨rfl, ⟨rfl, ⟨rfl, ⟨rfl, trivial⟩⟩⟩⟩⟩⟩⟩⟩⟩⟩⟩⟩) ?_
          exact ih v1 v2 v3 v4 v5 v6 v7 v8 v9 v10 v11_44 h H
        · rw [if_neg c43] at H
          refine j_iload_n (pc := 177) dX12_trim_177 rfl ?_
          refine j_if_eq (pc := 178) (tgt := 191) dX12_trim_178 (by decide) (fun c45 => ?_) (fun c45 => ?_)
          · rw [if_pos c45] at H
            refine Jx.sub (L' := [some (.ref 0), some (.int v1), some (.int v2), some (.int v3), some (.int v4), some (.int v5), some (.int v6), some (.int v7), some (.int v8), some (.int v9), some (.int v10), some (.int v11)]) (⟨rfl, ⟨rfl, ⟨rfl, ⟨rfl, ⟨rfl, ⟨rfl, ⟨rfl, ⟨rfl, ⟨rfl, ⟨rfl, ⟨rfl, ⟨rfl, trivial⟩⟩⟩⟩⟩⟩⟩⟩⟩⟩⟩⟩) ?_
            exact jX12_trim_191 _ _ _ _ hk47 hk60 hk145 ih v1 v2 v3 v4 v5 v6 v7 v8 v9 v10 v11 h H
          · rw [if_neg c45] at H
            refine j_aload_n (pc := 181) dX12_trim_181 rfl ?_
            refine j_getR (pc := 182) (b := 20) dX12_trim_182 flX12_75 rfl ?_
            refine j_iload (pc := 185) dX12_trim_185 rfl ?_
            obtain ⟨b46, H⟩ := ck_x H
            refine j_zaload (pc := 187) dX12_trim_187 rfl b46 rfl ?_
            refine j_if_eq (pc := 188) (tgt := 268) dX12_trim_188 (by decide) (fun c47 => ?_) (fun c47 => ?_)
            · rw [if_pos c47] at H
              obtain ⟨v11_48, ev11_48, H⟩ := nm_x H
              refine j_iinc (pc := 268) (L' := [some (.ref 0), some (.int v1), some (.int v2), some (.int v3), some (.int v4), some (.int v5), some (.int v6), some (.int v7), some (.int v8), some (.int v9), some (.int v10), some (.int v11_48)]) (w := 1) dX12_trim_268 rfl (by decide) (by decide) v11_48 ev11_48 rfl ?_
              refine j_goto (pc := 271) (tgt := 158) dX12_trim_271 (by decide) ?_
              refine Jx.sub (L' := [some (.ref 0), some (.int v1), some (.int v2), some (.int v3), some (.int v4), some (.int v5), some (.int v6), some (.int v7), some (.int v8), some (.int v9), some (.int v10), some (.int v11_48)]) (⟨rfl, ⟨rfl, ⟨rfl, ⟨rfl, ⟨rfl, ⟨rfl, ⟨rfl, ⟨rfl, ⟨rfl, ⟨rfl, ⟨rfl, ⟨rfl, trivial⟩⟩⟩⟩⟩⟩⟩⟩⟩⟩⟩⟩) ?_
              exact ih v1 v2 v3 v4 v5 v6 v7 v8 v9 v10 v11_48 h H
            · rw [if_neg c47] at H
              refine Jx.sub (L' := [some (.ref 0), some (.int v1), some (.int v2), some (.int v3), some (.int v4), some (.int v5), some (.int v6), some (.int v7), some (.int v8), some (.int v9), some (.int v10), some (.int v11)]) (⟨rfl, ⟨rfl, ⟨rfl, ⟨rfl, ⟨rfl, ⟨rfl, ⟨rfl, ⟨rfl, ⟨rfl, ⟨rfl, ⟨rfl, ⟨rfl, trivial⟩⟩⟩⟩⟩⟩⟩⟩⟩⟩⟩⟩) ?_
              exact jX12_trim_191 _ _ _ _ hk47 hk60 hk145 ih v1 v2 v3 v4 v5 v6 v7 v8 v9 v10 v11 h H
noncomputable def fX12_trim_145 (k47 : Int32 → Int32 → Int32 → Int32 → Int32 → Int32 → Int32 → Int32 → HS → Option (Int32 × HS)) (k60 : Int32 → Int32 → Int32 → Int32 → Int32 → Int32 → Int32 → Int32 → Int32 → HS → Option (Int32 × HS)) : Nat → Int32 → Int32 → Int32 → Int32 → Int32 → Int32 → Int32 → Int32 → Int32 → Int32 → HS → Option (Int32 × HS)
  | 0, _, _, _, _, _, _, _, _, _, _, _ => none
  | n + 1, v1, v2, v3, v4, v5, v6, v7, v8, v9, v10, h => if (gI h 0 39) ≤ v10 then (fX12_trim_280 k47 k60 v1 v2 v3 v4 v5 v6 v7 v8 v9 h) else (fX12_trim_158 k47 k60 (fX12_trim_145 k47 k60 n) FU v1 v2 v3 v4 v5 v6 v7 v8 v9 v10 (-99 : Int32) h)
set_option maxRecDepth 100000 in
theorem jX12_trim_145 {r : Int32} {h0 : HS} (k47 : Int32 → Int32 → Int32 → Int32 → Int32 → Int32 → Int32 → Int32 → HS → Option (Int32 × HS)) (k60 : Int32 → Int32 → Int32 → Int32 → Int32 → Int32 → Int32 → Int32 → Int32 → HS → Option (Int32 × HS)) (hk47 : ∀ (v1 : Int32) (v2 : Int32) (v3 : Int32) (v4 : Int32) (v5 : Int32) (v6 : Int32) (v7 : Int32) (v8 : Int32) (h : HS), k47 v1 v2 v3 v4 v5 v6 v7 v8 h = some (r, h0) → Jx skM RX12 cX12_trim 12 (some .int) 4 (some (.int r)) h0 47 [some (.ref 0), some (.int v1), some (.int v2), some (.int v3), some (.int v4), some (.int v5), some (.int v6), some (.int v7), some (.int v8), none, none, none] [] h) (hk60 : ∀ (v1 : Int32) (v2 : Int32) (v3 : Int32) (v4 : Int32) (v5 : Int32) (v6 : Int32) (v7 : Int32) (v8 : Int32) (v9 : Int32) (h : HS), k60 v1 v2 v3 v4 v5 v6 v7 v8 v9 h = some (r, h0) → Jx skM RX12 cX12_trim 12 (some .int) 4 (some (.int r)) h0 60 [some (.ref 0), some (.int v1), some (.int v2), some (.int v3), some (.int v4), some (.int v5), some (.int v6), some (.int v7), some (.int v8), some (.int v9), none, none] [] h) : ∀ (n : Nat) (v1 : Int32) (v2 : Int32) (v3 : Int32) (v4 : Int32) (v5 : Int32) (v6 : Int32) (v7 : Int32) (v8 : Int32) (v9 : Int32) (v10 : Int32) (h : HS), fX12_trim_145 k47 k60 n v1 v2 v3 v4 v5 v6 v7 v8 v9 v10 h = some (r, h0) → Jx skM RX12 cX12_trim 12 (some .int) 4 (some (.int r)) h0 145 [some (.ref 0), some (.int v1), some (.int v2), some (.int v3), some (.int v4), some (.int v5), some (.int v6), some (.int v7), some (.int v8), some (.int v9), some (.int v10), none] [] h := by
  intro n
  induction n with
  | zero => intro v1 v2 v3 v4 v5 v6 v7 v8 v9 v10  h H; cases H
  | succ n ih =>
    intro v1 v2 v3 v4 v5 v6 v7 v8 v9 v10  h H
    rw [fX12_trim_145] at H
    refine j_iload (pc := 145) dX12_trim_145 rfl ?_
    refine j_aload_n (pc := 147) dX12_trim_147 rfl ?_
    refine j_getI (pc := 148) dX12_trim_148 flX12_304 rfl ?_
    refine j_icmp_ge (pc := 151) (tgt := 280) dX12_trim_151 (by decide) (fun c38 => ?_) (fun c38 => ?_)
    · rw [if_pos c38] at H
      refine Jx.sub (L' := [some (.ref 0), some (.int v1), some (.int v2), some (.int v3), some (.int v4), some (.int v5), some (.int v6), some (.int v7), some (.int v8), some (.int v9), none, none]) (⟨rfl, ⟨rfl, ⟨rfl, ⟨rfl, ⟨rfl, ⟨rfl, ⟨rfl, ⟨rfl, ⟨rfl, ⟨rfl, trivial⟩⟩⟩⟩⟩⟩⟩⟩⟩⟩) ?_
      exact jX12_trim_280 _ _ hk47 hk60 v1 v2 v3 v4 v5 v6 v7 v8 v9 h H
    · rw [if_neg c38] at H
      refine j_bipush (pc := 154) (v := -99) dX12_trim_154 (by decide) ?_
      refine j_istore (pc := 156) (L' := [some (.ref 0), some (.int v1), some (.int v2), some (.int v3), some (.int v4), some (.int v5), some (.int v6), some (.int v7), some (.int v8), some (.int v9), some (.int v10), some (.int (-99 : Int32))]) dX12_trim_156 (by decide) rfl ?_
      refine Jx.sub (L' := [some (.ref 0), some (.int v1), some (.int v2), some (.int v3), some (.int v4), some (.int v5), some (.int v6), some (.int v7), some (.int v8), some (.int v9), some (.int v10), some (.int (-99 : Int32))]) (⟨rfl, ⟨rfl, ⟨rfl, ⟨rfl, ⟨rfl, ⟨rfl, ⟨rfl, ⟨rfl, ⟨rfl, ⟨rfl, ⟨rfl, ⟨rfl, trivial⟩⟩⟩⟩⟩⟩⟩⟩⟩⟩⟩⟩) ?_
      exact jX12_trim_158 _ _ _ hk47 hk60 ih FU v1 v2 v3 v4 v5 v6 v7 v8 v9 v10 (-99 : Int32) h H
noncomputable def fX12_trim_102 (k47 : Int32 → Int32 → Int32 → Int32 → Int32 → Int32 → Int32 → Int32 → HS → Option (Int32 × HS)) (k60 : Int32 → Int32 → Int32 → Int32 → Int32 → Int32 → Int32 → Int32 → Int32 → HS → Option (Int32 × HS)) (v1 : Int32) (v2 : Int32) (v3 : Int32) (v4 : Int32) (v5 : Int32) (v6 : Int32) (v7 : Int32) (v8 : Int32) (v9 : Int32) (h : HS) : Option (Int32 × HS) := bv (fX12_push h) (fun h28 => bd (fX12_runs v8 v9 h28) (fun r30 h29 => if r30 < 0 then (fX12_trim_280 k47 k60 v1 v2 v3 v4 v5 v6 v7 v8 v9 h29) else (bd (fX12_isBalanced v1 h29) (fun r33 h32 => if r33 = 0 then (fX12_trim_145 k47 k60 FU v1 v2 v3 v4 v5 v6 v7 v8 v9 (0 : Int32) h32) else (nm ((iabs v9)) (fun v3_35 => fX12_trim_145 k47 k60 FU v1 v2 v3_35 v8 v9 (-1 : Int32) v7 v8 v9 (0 : Int32) h32))))))
set_option maxRecDepth 100000 in
theorem jX12_trim_102 {r : Int32} {h0 : HS} (k47 : Int32 → Int32 → Int32 → Int32 → Int32 → Int32 → Int32 → Int32 → HS → Option (Int32 × HS)) (k60 : Int32 → Int32 → Int32 → Int32 → Int32 → Int32 → Int32 → Int32 → Int32 → HS → Option (Int32 × HS)) (hk47 : ∀ (v1 : Int32) (v2 : Int32) (v3 : Int32) (v4 : Int32) (v5 : Int32) (v6 : Int32) (v7 : Int32) (v8 : Int32) (h : HS), k47 v1 v2 v3 v4 v5 v6 v7 v8 h = some (r, h0) → Jx skM RX12 cX12_trim 12 (some .int) 4 (some (.int r)) h0 47 [some (.ref 0), some (.int v1), some (.int v2), some (.int v3), some (.int v4), some (.int v5), some (.int v6), some (.int v7), some (.int v8), none, none, none] [] h) (hk60 : ∀ (v1 : Int32) (v2 : Int32) (v3 : Int32) (v4 : Int32) (v5 : Int32) (v6 : Int32) (v7 : Int32) (v8 : Int32) (v9 : Int32) (h : HS), k60 v1 v2 v3 v4 v5 v6 v7 v8 v9 h = some (r, h0) → Jx skM RX12 cX12_trim 12 (some .int) 4 (some (.int r)) h0 60 [some (.ref 0), some (.int v1), some (.int v2), some (.int v3), some (.int v4), some (.int v5), some (.int v6), some (.int v7), some (.int v8), some (.int v9), none, none] [] h) (v1 : Int32) (v2 : Int32) (v3 : Int32) (v4 : Int32) (v5 : Int32) (v6 : Int32) (v7 : Int32) (v8 : Int32) (v9 : Int32) (h : HS) (H : fX12_trim_102 k47 k60 v1 v2 v3 v4 v5 v6 v7 v8 v9 h = some (r, h0)) : Jx skM RX12 cX12_trim 12 (some .int) 4 (some (.int r)) h0 102 [some (.ref 0), some (.int v1), some (.int v2), some (.int v3), some (.int v4), some (.int v5), some (.int v6), some (.int v7), some (.int v8), some (.int v9), none, none] [] h := by
  unfold fX12_trim_102 at H
  refine j_aload_n (pc := 102) dX12_trim_102 rfl ?_
  obtain ⟨h28, eh28, H⟩ := bv_x H
  refine j_callV (pc := 103) dX12_trim_103 mlX12_292 wyX12_push (tX12_push eh28) (by decide) rfl rfl rfl rfl (by simp [Value.category]) rfl ?_
  refine j_aload_n (pc := 106) dX12_trim_106 rfl ?_
  refine j_iload (pc := 107) dX12_trim_107 rfl ?_
  refine j_iload (pc := 109) dX12_trim_109 rfl ?_
  obtain ⟨r30, h29, eh29, H⟩ := bd_x H
  refine j_callV (pc := 111) dX12_trim_111 mlX12_310 wyX12_runs (tX12_runs eh29) (by decide) rfl rfl rfl rfl (by simp [Value.category]) rfl ?_
  refine j_if_lt (pc := 114) (tgt := 280) dX12_trim_114 (by decide) (fun c31 => ?_) (fun c31 => ?_)
  · rw [if_pos c31] at H
    refine Jx.sub (L' := [some (.ref 0), some (.int v1), some (.int v2), some (.int v3), some (.int v4), some (.int v5), some (.int v6), some (.int v7), some (.int v8), some (.int v9), none, none]) (⟨rfl, ⟨rfl, ⟨rfl, ⟨rfl, ⟨rfl, ⟨rfl, ⟨rfl, ⟨rfl, ⟨rfl, ⟨rfl, trivial⟩⟩⟩⟩⟩⟩⟩⟩⟩⟩) ?_
    exact jX12_trim_280 _ _ hk47 hk60 v1 v2 v3 v4 v5 v6 v7 v8 v9 h29 H
  · rw [if_neg c31] at H
    refine j_aload_n (pc := 117) dX12_trim_117 rfl ?_
    refine j_iload_n (pc := 118) dX12_trim_118 rfl ?_
    obtain ⟨r33, h32, eh32, H⟩ := bd_x H
    refine j_callV (pc := 119) dX12_trim_119 mlX12_207 wyX12_isBalanced (tX12_isBalanced eh32) (by decide) rfl rfl rfl rfl (by simp [Value.category]) rfl ?_
    refine j_if_eq (pc := 122) (tgt := 142) dX12_trim_122 (by decide) (fun c34 => ?_) (fun c34 => ?_)
    · rw [if_pos c34] at H
      refine j_iconst (pc := 142) (v := 0) dX12_trim_142 (by decide) ?_
      refine j_istore (pc := 143) (L' := [some (.ref 0), some (.int v1), some (.int v2), some (.int v3), some (.int v4), some (.int v5), some (.int v6), some (.int v7), some (.int v8), some (.int v9), some (.int (0 : Int32)), none]) dX12_trim_143 (by decide) rfl ?_
      refine Jx.sub (L' := [some (.ref 0), some (.int v1), some (.int v2), some (.int v3), some (.int v4), some (.int v5), some (.int v6), some (.int v7), some (.int v8), some (.int v9), some (.int (0 : Int32)), none]) (⟨rfl, ⟨rfl, ⟨rfl, ⟨rfl, ⟨rfl, ⟨rfl, ⟨rfl, ⟨rfl, ⟨rfl, ⟨rfl, ⟨rfl, trivial⟩⟩⟩⟩⟩⟩⟩⟩⟩⟩⟩) ?_
      exact jX12_trim_145 _ _ hk47 hk60 FU v1 v2 v3 v4 v5 v6 v7 v8 v9 (0 : Int32) h32 H
    · rw [if_neg c34] at H
      refine j_iload (pc := 125) dX12_trim_125 rfl ?_
      refine j_mabs (pc := 127) dX12_trim_127 wmX12_201 (by simp [Value.category]) ?_
      obtain ⟨v3_35, ev3_35, H⟩ := nm_x H
      refine j_topi ev3_35 ?_
      refine j_istore_n (pc := 130) (L' := [some (.ref 0), some (.int v1), some (.int v2), some (.int v3_35), some (.int v4), some (.int v5), some (.int v6), some (.int v7), some (.int v8), some (.int v9), none, none]) dX12_trim_130 (by decide) rfl ?_
      refine j_iload (pc := 131) dX12_trim_131 rfl ?_
      refine j_istore (pc := 133) (L' := [some (.ref 0), some (.int v1), some (.int v2), some (.int v3_35), some (.int v8), some (.int v5), some (.int v6), some (.int v7), some (.int v8), some (.int v9), none, none]) dX12_trim_133 (by decide) rfl ?_
      refine j_iload (pc := 135) dX12_trim_135 rfl ?_
      refine j_istore (pc := 137) (L' := [some (.ref 0), some (.int v1), some (.int v2), some (.int v3_35), some (.int v8), some (.int v9), some (.int v6), some (.int v7), some (.int v8), some (.int v9), none, none]) dX12_trim_137 (by decide) rfl ?_
      refine j_iconst (pc := 139) (v := -1) dX12_trim_139 (by decide) ?_
      refine j_istore (pc := 140) (L' := [some (.ref 0), some (.int v1), some (.int v2), some (.int v3_35), some (.int v8), some (.int v9), some (.int (-1 : Int32)), some (.int v7), some (.int v8), some (.int v9), none, none]) dX12_trim_140 (by decide) rfl ?_
      refine j_iconst (pc := 142) (v := 0) dX12_trim_142 (by decide) ?_
      refine j_istore (pc := 143) (L' := [some (.ref 0), some (.int v1), some (.int v2), some (.int v3_35), some (.int v8), some (.int v9), some (.int (-1 : Int32)), some (.int v7), some (.int v8), some (.int v9), some (.int (0 : Int32)), none]) dX12_trim_143 (by decide) rfl ?_
      refine Jx.sub (L' := [some (.ref 0), some (.int v1), some (.int v2), some (.int v3_35), some (.int v8), some (.int v9), some (.int (-1 : Int32)), some (.int v7), some (.int v8), some (.int v9), some (.int (0 : Int32)), none]) (⟨rfl, ⟨rfl, ⟨rfl, ⟨rfl, ⟨rfl, ⟨rfl, ⟨rfl, ⟨rfl, ⟨rfl, ⟨rfl, ⟨rfl, trivial⟩⟩⟩⟩⟩⟩⟩⟩⟩⟩⟩) ?_
      exact jX12_trim_145 _ _ hk47 hk60 FU v1 v2 v3_35 v8 v9 (-1 : Int32) v7 v8 v9 (0 : Int32) h32 H
noncomputable def fX12_trim_86 (k47 : Int32 → Int32 → Int32 → Int32 → Int32 → Int32 → Int32 → Int32 → HS → Option (Int32 × HS)) (k60 : Int32 → Int32 → Int32 → Int32 → Int32 → Int32 → Int32 → Int32 → Int32 → HS → Option (Int32 × HS)) (v1 : Int32) (v2 : Int32) (v3 : Int32) (v4 : Int32) (v5 : Int32) (v6 : Int32) (v7 : Int32) (v8 : Int32) (v9 : Int32) (h : HS) : Option (Int32 × HS) := if v3 < 0 then (fX12_trim_102 k47 k60 v1 v2 v3 v4 v5 v6 v7 v8 v9 h) else (if (iabs v9) < v3 then (fX12_trim_102 k47 k60 v1 v2 v3 v4 v5 v6 v7 v8 v9 h) else (nm (v9 + (1 : Int32)) (fun v9_27 => k60 v1 v2 v3 v4 v5 v6 v7 v8 v9_27 h)))
set_option maxRecDepth 100000 in
theorem jX12_trim_86 {r : Int32} {h0 : HS} (k47 : Int32 → Int32 → Int32 → Int32 → Int32 → Int32 → Int32 → Int32 → HS → Option (Int32 × HS)) (k60 : Int32 → Int32 → Int32 → Int32 → Int32 → Int32 → Int32 → Int32 → Int32 → HS → Option (Int32 × HS)) (hk47 : ∀ (v1 : Int32) (v2 : Int32) (v3 : Int32) (v4 : Int32) (v5 : Int32) (v6 : Int32) (v7 : Int32) (v8 : Int32) (h : HS), k47 v1 v2 v3 v4 v5 v6 v7 v8 h = some (r, h0) → Jx skM RX12 cX12_trim 12 (some .int) 4 (some (.int r)) h0 47 [some (.ref 0), some (.int v1), some (.int v2), some (.int v3), some (.int v4), some (.int v5), some (.int v6), some (.int v7), some (.int v8), none, none, none] [] h) (hk60 : ∀ (v1 : Int32) (v2 : Int32) (v3 : Int32) (v4 : Int32) (v5 : Int32) (v6 : Int32) (v7 : Int32) (v8 : Int32) (v9 : Int32) (h : HS), k60 v1 v2 v3 v4 v5 v6 v7 v8 v9 h = some (r, h0) → Jx skM RX12 cX12_trim 12 (some .int) 4 (some (.int r)) h0 60 [some (.ref 0), some (.int v1), some (.int v2), some (.int v3), some (.int v4), some (.int v5), some (.int v6), some (.int v7), some (.int v8), some (.int v9), none, none] [] h) (v1 : Int32) (v2 : Int32) (v3 : Int32) (v4 : Int32) (v5 : Int32) (v6 : Int32) (v7 : Int32) (v8 : Int32) (v9 : Int32) (h : HS) (H : fX12_trim_86 k47 k60 v1 v2 v3 v4 v5 v6 v7 v8 v9 h = some (r, h0)) : Jx skM RX12 cX12_trim 12 (some .int) 4 (some (.int r)) h0 86 [some (.ref 0), some (.int v1), some (.int v2), some (.int v3), some (.int v4), some (.int v5), some (.int v6), some (.int v7), some (.int v8), some (.int v9), none, none] [] h := by
  unfold fX12_trim_86 at H
  refine j_iload_n (pc := 86) dX12_trim_86 rfl ?_
  refine j_if_lt (pc := 87) (tgt := 102) dX12_trim_87 (by decide) (fun c25 => ?_) (fun c25 => ?_)
  · rw [if_pos c25] at H
    refine Jx.sub (L' := [some (.ref 0), some (.int v1), some (.int v2), some (.int v3), some (.int v4), some (.int v5), some (.int v6), some (.int v7), some (.int v8), some (.int v9), none, none]) (⟨rfl, ⟨rfl, ⟨rfl, ⟨rfl, ⟨rfl, ⟨rfl, ⟨rfl, ⟨rfl, ⟨rfl, ⟨rfl, trivial⟩⟩⟩⟩⟩⟩⟩⟩⟩⟩) ?_
    exact jX12_trim_102 _ _ hk47 hk60 v1 v2 v3 v4 v5 v6 v7 v8 v9 h H
  · rw [if_neg c25] at H
    refine j_iload (pc := 90) dX12_trim_90 rfl ?_
    refine j_mabs (pc := 92) dX12_trim_92 wmX12_201 (by simp [Value.category]) ?_
    refine j_iload_n (pc := 95) dX12_trim_95 rfl ?_
    refine j_icmp_lt (pc := 96) (tgt := 102) dX12_trim_96 (by decide) (fun c26 => ?_) (fun c26 => ?_)
    · rw [if_pos c26] at H
      refine Jx.sub (L' := [some (.ref 0), some (.int v1), some (.int v2), some (.int v3), some (.int v4), some (.int v5), some (.int v6), some (.int v7), some (.int v8), some (.int v9), none, none]) (⟨rfl, ⟨rfl, ⟨rfl, ⟨rfl, ⟨rfl, ⟨rfl, ⟨rfl, ⟨rfl, ⟨rfl, ⟨rfl, trivial⟩⟩⟩⟩⟩⟩⟩⟩⟩⟩) ?_
      exact jX12_trim_102 _ _ hk47 hk60 v1 v2 v3 v4 v5 v6 v7 v8 v9 h H
    · rw [if_neg c26] at H
      refine j_goto (pc := 99) (tgt := 284) dX12_trim_99 (by decide) ?_
      obtain ⟨v9_27, ev9_27, H⟩ := nm_x H
      refine j_iinc (pc := 284) (L' := [some (.ref 0), some (.int v1), some (.int v2), some (.int v3), some (.int v4), some (.int v5), some (.int v6), some (.int v7), some (.int v8), some (.int v9_27), none, none]) (w := 1) dX12_trim_284 rfl (by decide) (by decide) v9_27 ev9_27 rfl ?_
      refine j_goto (pc := 287) (tgt := 60) dX12_trim_287 (by decide) ?_
      refine Jx.sub (L' := [some (.ref 0), some (.int v1), some (.int v2), some (.int v3), some (.int v4), some (.int v5), some (.int v6), some (.int v7), some (.int v8), some (.int v9_27), none, none]) (⟨rfl, ⟨rfl, ⟨rfl, ⟨rfl, ⟨rfl, ⟨rfl, ⟨rfl, ⟨rfl, ⟨rfl, ⟨rfl, trivial⟩⟩⟩⟩⟩⟩⟩⟩⟩⟩) ?_
      exact hk60 v1 v2 v3 v4 v5 v6 v7 v8 v9_27 h H
noncomputable def fX12_trim_60 (k47 : Int32 → Int32 → Int32 → Int32 → Int32 → Int32 → Int32 → Int32 → HS → Option (Int32 × HS)) : Nat → Int32 → Int32 → Int32 → Int32 → Int32 → Int32 → Int32 → Int32 → Int32 → HS → Option (Int32 × HS)
  | 0, _, _, _, _, _, _, _, _, _, _ => none
  | n + 1, v1, v2, v3, v4, v5, v6, v7, v8, v9, h => if (99 : Int32) < v9 then (nm (v8 + (1 : Int32)) (fun v8_18 => k47 v1 v2 v3 v4 v5 v6 v7 v8_18 h)) else (if v9 = 0 then (nm (v9 + (1 : Int32)) (fun v9_20 => fX12_trim_60 k47 n v1 v2 v3 v4 v5 v6 v7 v8 v9_20 h)) else (if v2 = 0 then (fX12_trim_86 k47 (fX12_trim_60 k47 n) v1 v2 v3 v4 v5 v6 v7 v8 v9 h) else (ck (inb v8 6) (if (gI h 20 v8.toNatClampNeg) = 0 then (nm (v9 + (1 : Int32)) (fun v9_24 => fX12_trim_60 k47 n v1 v2 v3 v4 v5 v6 v7 v8 v9_24 h)) else (fX12_trim_86 k47 (fX12_trim_60 k47 n) v1 v2 v3 v4 v5 v6 v7 v8 v9 h)))))
set_option maxRecDepth 100000 in
theorem jX12_trim_60 {r : Int32} {h0 : HS} (k47 : Int32 → Int32 → Int32 → Int32 → Int32 → Int32 → Int32 → Int32 → HS → Option (Int32 × HS)) (hk47 : ∀ (v1 : Int32) (v2 : Int32) (v3 : Int32) (v4 : Int32) (v5 : Int32) (v6 : Int32) (v7 : Int32) (v8 : Int32) (h : HS), k47 v1 v2 v3 v4 v5 v6 v7 v8 h = some (r, h0) → Jx skM RX12 cX12_trim 12 (some .int) 4 (some (.int r)) h0 47 [some (.ref 0), some (.int v1), some (.int v2), some (.int v3), some (.int v4), some (.int v5), some (.int v6), some (.int v7), some (.int v8), none, none, none] [] h) : ∀ (n : Nat) (v1 : Int32) (v2 : Int32) (v3 : Int32) (v4 : Int32) (v5 : Int32) (v6 : Int32) (v7 : Int32) (v8 : Int32) (v9 : Int32) (h : HS), fX12_trim_60 k47 n v1 v2 v3 v4 v5 v6 v7 v8 v9 h = some (r, h0) → Jx skM RX12 cX12_trim 12 (some .int) 4 (some (.int r)) h0 60 [some (.ref 0), some (.int v1), some (.int v2), some (.int v3), some (.int v4), some (.int v5), some (.int v6), some (.int v7), some (.int v8), some (.int v9), none, none] [] h := by
  intro n
  induction n with
  | zero => intro v1 v2 v3 v4 v5 v6 v7 v8 v9  h H; cases H
  | succ n ih =>
    intro v1 v2 v3 v4 v5 v6 v7 v8 v9  h H
    rw [fX12_trim_60] at H
    refine j_iload (pc := 60) dX12_trim_60 rfl ?_
    refine j_bipush (pc := 62) (v := 99) dX12_trim_62 (by decide) ?_
    refine j_icmp_gt (pc := 64) (tgt := 290) dX12_trim_64 (by decide) (fun c17 => ?_) (fun c17 => ?_)
    · rw [if_pos c17] at H
      obtain ⟨v8_18, ev8_18, H⟩ := nm_x H
      refine j_iinc (pc := 290) (L' := [some (.ref 0), some (.int v1), some (.int v2), some (.int v3), some (.int v4), some (.int v5), some (.int v6), some (.int v7), some (.int v8_18), some (.int v9), none, none]) (w := 1) dX12_trim_290 rfl (by decide) (by decide) v8_18 ev8_18 rfl ?_
      refine j_goto (pc := 293) (tgt := 47) dX12_trim_293 (by decide) ?_
      refine Jx.sub (L' := [some (.ref 0), some (.int v1), some (.int v2), some (.int v3), some (.int v4), some (.int v5), some (.int v6), some (.int v7), some (.int v8_18), none, none, none]) (⟨rfl, ⟨rfl, ⟨rfl, ⟨rfl, ⟨rfl, ⟨rfl, ⟨rfl, ⟨rfl, ⟨rfl, trivial⟩⟩⟩⟩⟩⟩⟩⟩⟩) ?_
      exact hk47 v1 v2 v3 v4 v5 v6 v7 v8_18 h H
    · rw [if_neg c17] at H
      refine j_iload (pc := 67) dX12_trim_67 rfl ?_
      refine j_if_eq (pc := 69) (tgt := 284) dX12_trim_69 (by decide) (fun c19 => ?_) (fun c19 => ?_)
      · rw [if_pos c19] at H
        obtain ⟨v9_20, ev9_20, H⟩ := nm_x H
        refine j_iinc (pc := 284) (L' := [some (.ref 0), some (.int v1), some (.int v2), some (.int v3), some (.int v4), some (.int v5), some (.int v6), some (.int v7), some (.int v8), some (.int v9_20), none, none]) (w := 1) dX12_trim_284 rfl (by decide) (by decide) v9_20 ev9_20 rfl ?_
        refine j_goto (pc := 287) (tgt := 60) dX12_trim_287 (by decide) ?_
        refine Jx.sub (L' := [some (.ref 0), some (.int v1), some (.int v2), some (.int v3), some (.int v4), some (.int v5), some (.int v6), some (.int v7), some (.int v8), some (.int v9_20), none, none]) (⟨rfl, ⟨rfl, ⟨rfl, ⟨rfl, ⟨rfl, ⟨rfl, ⟨rfl, ⟨rfl, ⟨rfl, ⟨rfl, trivial⟩⟩⟩⟩⟩⟩⟩⟩⟩⟩) ?_
        exact ih v1 v2 v3 v4 v5 v6 v7 v8 v9_20 h H
      · rw [if_neg c19] at H
        refine j_iload_n (pc := 72) dX12_trim_72 rfl ?_
        refine j_if_eq (pc := 73) (tgt := 86) dX12_trim_73 (by decide) (fun c21 => ?_) (fun c21 => ?_)
        · rw [if_pos c21] at H
          refine Jx.sub (L' := [some (.ref 0), some (.int v1), some (.int v2), some (.int v3), some (.int v4), some (.int v5), some (.int v6), some (.int v7), some (.int v8), some (.int v9), none, none]) (⟨rfl, ⟨rfl, ⟨rfl, ⟨rfl, ⟨rfl, ⟨rfl, ⟨rfl, ⟨rfl, ⟨rfl, ⟨rfl, trivial⟩⟩⟩⟩⟩⟩⟩⟩⟩⟩) ?_
          exact jX12_trim_86 _ _ hk47 ih v1 v2 v3 v4 v5 v6 v7 v8 v9 h H
        · rw [if_neg c21] at H
          refine j_aload_n (pc := 76) dX12_trim_76 rfl ?_
          refine j_getR (pc := 77) (b := 20) dX12_trim_77 flX12_75 rfl ?_
          refine j_iload (pc := 80) dX12_trim_80 rfl ?_
          obtain ⟨b22, H⟩ := ck_x H
          refine j_zaload (pc := 82) dX12_trim_82 rfl b22 rfl ?_
          refine j_if_eq (pc := 83) (tgt := 284) dX12_trim_83 (by decide) (fun c23 => ?_) (fun c23 => ?_)
          · rw [if_pos c23] at H
            obtain ⟨v9_24, ev9_24, H⟩ := nm_x H
            refine j_iinc (pc := 284) (L' := [some (.ref 0), some (.int v1), some (.int v2), some (.int v3), some (.int v4), some (.int v5), some (.int v6), some (.int v7), some (.int v8), some (.int v9_24), none, none]) (w := 1) dX12_trim_284 rfl (by decide) (by decide) v9_24 ev9_24 rfl ?_
            refine j_goto (pc := 287) (tgt := 60) dX12_trim_287 (by decide) ?_
            refine Jx.sub (L' := [some (.ref 0), some (.int v1), some (.int v2), some (.int v3), some (.int v4), some (.int v5), some (.int v6), some (.int v7), some (.int v8), some (.int v9_24), none, none]) (⟨rfl, ⟨rfl, ⟨rfl, ⟨rfl, ⟨rfl, ⟨rfl, ⟨rfl, ⟨rfl, ⟨rfl, ⟨rfl, trivial⟩⟩⟩⟩⟩⟩⟩⟩⟩⟩) ?_
            exact ih v1 v2 v3 v4 v5 v6 v7 v8 v9_24 h H
          · rw [if_neg c23] at H
            refine Jx.sub (L' := [some (.ref 0), some (.int v1), some (.int v2), some (.int v3), some (.int v4), some (.int v5), some (.int v6), some (.int v7), some (.int v8), some (.int v9), none, none]) (⟨rfl, ⟨rfl, ⟨rfl, ⟨rfl, ⟨rfl, ⟨rfl, ⟨rfl, ⟨rfl, ⟨rfl, ⟨rfl, trivial⟩⟩⟩⟩⟩⟩⟩⟩⟩⟩) ?_
            exact jX12_trim_86 _ _ hk47 ih v1 v2 v3 v4 v5 v6 v7 v8 v9 h H
noncomputable def fX12_trim_47 : Nat → Int32 → Int32 → Int32 → Int32 → Int32 → Int32 → Int32 → Int32 → HS → Option (Int32 × HS)
  | 0, _, _, _, _, _, _, _, _, _ => none
  | n + 1, v1, v2, v3, v4, v5, v6, v7, v8, h => if (gI h 0 39) ≤ v8 then (if 0 ≤ v3 then (nm (pI h 0 21 (0 : Int32)) (fun h11 => bv (fX12_tell v4 h11) (fun h12 => bv (fX12_tell v5 h12) (fun h13 => if v6 = (-1 : Int32) then (some (v3, h13)) else (bv (fX12_tell v6 h13) (fun h15 => bv (fX12_tell v7 h15) (fun h16 => some (v3, h16)))))))) else (some ((-2 : Int32), h))) else (fX12_trim_60 (fX12_trim_47 n) FU v1 v2 v3 v4 v5 v6 v7 v8 (-99 : Int32) h)
set_option maxRecDepth 100000 in
theorem jX12_trim_47 {r : Int32} {h0 : HS} : ∀ (n : Nat) (v1 : Int32) (v2 : Int32) (v3 : Int32) (v4 : Int32) (v5 : Int32) (v6 : Int32) (v7 : Int32) (v8 : Int32) (h : HS), fX12_trim_47 n v1 v2 v3 v4 v5 v6 v7 v8 h = some (r, h0) → Jx skM RX12 cX12_trim 12 (some .int) 4 (some (.int r)) h0 47 [some (.ref 0), some (.int v1), some (.int v2), some (.int v3), some (.int v4), some (.int v5), some (.int v6), some (.int v7), some (.int v8), none, none, none] [] h := by
  intro n
  induction n with
  | zero => intro v1 v2 v3 v4 v5 v6 v7 v8  h H; cases H
  | succ n ih =>
    intro v1 v2 v3 v4 v5 v6 v7 v8  h H
    rw [fX12_trim_47] at H
    refine j_iload (pc := 47) dX12_trim_47 rfl ?_
    refine j_aload_n (pc := 49) dX12_trim_49 rfl ?_
    refine j_getI (pc := 50) dX12_trim_50 flX12_304 rfl ?_
    refine j_icmp_ge (pc := 53) (tgt := 296) dX12_trim_53 (by decide) (fun c9 => ?_) (fun c9 => ?_)
    · rw [if_pos c9] at H
      refine j_iload_n (pc := 296) dX12_trim_296 rfl ?_
      refine j_if_ge (pc := 297) (tgt := 303) dX12_trim_297 (by decide) (fun c10 => ?_) (fun c10 => ?_)
      · rw [if_pos c10] at H
        refine j_aload_n (pc := 303) dX12_trim_303 rfl ?_
        refine j_iconst (pc := 304) (v := 0) dX12_trim_304 (by decide) ?_
        obtain ⟨h11, eh11, H⟩ := nm_x H
        refine j_putI (pc := 305) dX12_trim_305 fpX12_136 rfl h11 eh11 ?_
        refine j_aload_n (pc := 308) dX12_trim_308 rfl ?_
        refine j_iload (pc := 309) dX12_trim_309 rfl ?_
        obtain ⟨h12, eh12, H⟩ := bv_x H
        refine j_callV (pc := 311) dX12_trim_311 mlX12_210 wyX12_tell (tX12_tell eh12) (by decide) rfl rfl rfl rfl (by simp [Value.category]) rfl ?_
        refine j_aload_n (pc := 314) dX12_trim_314 rfl ?_
        refine j_iload (pc := 315) dX12_trim_315 rfl ?_
        obtain ⟨h13, eh13, H⟩ := bv_x H
        refine j_callV (pc := 317) dX12_trim_317 mlX12_210 wyX12_tell (tX12_tell eh13) (by decide) rfl rfl rfl rfl (by simp [Value.category]) rfl ?_
        refine j_iload (pc := 320) dX12_trim_320 rfl ?_
        refine j_iconst (pc := 322) (v := -1) dX12_trim_322 (by decide) ?_
        refine j_icmp_eq (pc := 323) (tgt := 338) dX12_trim_323 (by decide) (fun c14 => ?_) (fun c14 => ?_)
        · rw [if_pos c14] at H
          refine j_iload_n (pc := 338) dX12_trim_338 rfl ?_
          exact j_ireturn (pc := 339) dX12_trim_339 rfl (ri_1 H) (ri_2 H)
        · rw [if_neg c14] at H
          refine j_aload_n (pc := 326) dX12_trim_326 rfl ?_
          refine j_iload (pc := 327) dX12_trim_327 rfl ?_
          obtain ⟨h15, eh15, H⟩ := bv_x H
          refine j_callV (pc := 329) dX12_trim_329 mlX12_210 wyX12_tell (tX12_tell eh15) (by decide) rfl rfl rfl rfl (by simp [Value.category]) rfl ?_
          refine j_aload_n (pc := 332) dX12_trim_332 rfl ?_
          refine j_iload (pc := 333) dX12_trim_333 rfl ?_
          obtain ⟨h16, eh16, H⟩ := bv_x H
          refine j_callV (pc := 335) dX12_trim_335 mlX12_210 wyX12_tell (tX12_tell eh16) (by decide) rfl rfl rfl rfl (by simp [Value.category]) rfl ?_
          refine j_iload_n (pc := 338) dX12_trim_338 rfl ?_
          exact j_ireturn (pc := 339) dX12_trim_339 rfl (ri_1 H) (ri_2 H)
      · rw [if_neg c10] at H
        refine j_bipush (pc := 300) (v := -2) dX12_trim_300 (by decide) ?_
        exact j_ireturn (pc := 302) dX12_trim_302 rfl (ri_1 H) (ri_2 H)
    · rw [if_neg c9] at H
      refine j_bipush (pc := 56) (v := -99) dX12_trim_56 (by decide) ?_
      refine j_istore (pc := 58) (L' := [some (.ref 0), some (.int v1), some (.int v2), some (.int v3), some (.int v4), some (.int v5), some (.int v6), some (.int v7), some (.int v8), some (.int (-99 : Int32)), none, none]) dX12_trim_58 (by decide) rfl ?_
      refine Jx.sub (L' := [some (.ref 0), some (.int v1), some (.int v2), some (.int v3), some (.int v4), some (.int v5), some (.int v6), some (.int v7), some (.int v8), some (.int (-99 : Int32)), none, none]) (⟨rfl, ⟨rfl, ⟨rfl, ⟨rfl, ⟨rfl, ⟨rfl, ⟨rfl, ⟨rfl, ⟨rfl, ⟨rfl, trivial⟩⟩⟩⟩⟩⟩⟩⟩⟩⟩) ?_
      exact jX12_trim_60 _ ih FU v1 v2 v3 v4 v5 v6 v7 v8 (-99 : Int32) h H
noncomputable def fX12_trim (p1 : Int32) (p2 : Int32) (h : HS) : Option (Int32 × HS) := nm (pI h 0 22 (0 : Int32)) (fun h1 => bd (fX12_isDepth p1 h1) (fun r3 h2 => if r3 = 0 then (some ((-1 : Int32), h2)) else (bd (fX12_isBalanced p1 h2) (fun r6 h5 => if r6 = 0 then (fX12_trim_47 FU p1 p2 (-2 : Int32) (0 : Int32) (0 : Int32) (-1 : Int32) (0 : Int32) (0 : Int32) h5) else (nm (pI h5 0 21 (0 : Int32)) (fun h8 => some ((0 : Int32), h8)))))))
set_option maxRecDepth 100000 in
theorem tX12_trim {p1 : Int32} {p2 : Int32} {r : Int32} {h h0 : HS} (H : fX12_trim p1 p2 h = some (r, h0)) : Cn skM yX12_trim cX12_trim 12 (some .int) 4 [.ref 0, .int p1, .int p2] h (some (.int r)) h0 := by
  refine Cn_of (L := [some (.ref 0), some (.int p1), some (.int p2), none, none, none, none, none, none, none, none, none]) (by decide +kernel) (by simp [lg_sl, Value.category]) (fun ad => by simp [lg_sl, tv, Value.category]) (⟨rfl, ⟨rfl, ⟨rfl, trivial⟩⟩⟩) ?_
  unfold fX12_trim at H
  refine j_aload_n (pc := 0) dX12_trim_0 rfl ?_
  refine j_iconst (pc := 1) (v := 0) dX12_trim_1 (by decide) ?_
  obtain ⟨h1, eh1, H⟩ := nm_x H
  refine j_putI (pc := 2) dX12_trim_2 fpX12_133 rfl h1 eh1 ?_
  refine j_iload_n (pc := 5) dX12_trim_5 rfl ?_
  obtain ⟨r3, h2, eh2, H⟩ := bd_x H
  refine j_callS (pc := 6) dX12_trim_6 mlX12_178 wyX12_isDepth (tX12_isDepth eh2) (by decide) rfl (by simp [Value.category]) rfl ?_
  refine j_if_ne (pc := 9) (tgt := 14) dX12_trim_9 (by decide) (fun c4 => ?_) (fun c4 => ?_)
  · rw [if_neg c4] at H
    refine j_aload_n (pc := 14) dX12_trim_14 rfl ?_
    refine j_iload_n (pc := 15) dX12_trim_15 rfl ?_
    obtain ⟨r6, h5, eh5, H⟩ := bd_x H
    refine j_callV (pc := 16) dX12_trim_16 mlX12_207 wyX12_isBalanced (tX12_isBalanced eh5) (by decide) rfl rfl rfl rfl (by simp [Value.category]) rfl ?_
    refine j_if_eq (pc := 19) (tgt := 29) dX12_trim_19 (by decide) (fun c7 => ?_) (fun c7 => ?_)
    · rw [if_pos c7] at H
      refine j_bipush (pc := 29) (v := -2) dX12_trim_29 (by decide) ?_
      refine j_istore_n (pc := 31) (L' := [some (.ref 0), some (.int p1), some (.int p2), some (.int (-2 : Int32)), none, none, none, none, none, none, none, none]) dX12_trim_31 (by decide) rfl ?_
      refine j_iconst (pc := 32) (v := 0) dX12_trim_32 (by decide) ?_
      refine j_istore (pc := 33) (L' := [some (.ref 0), some (.int p1), some (.int p2), some (.int (-2 : Int32)), some (.int (0 : Int32)), none, none, none, none, none, none, none]) dX12_trim_33 (by decide) rfl ?_
      refine j_iconst (pc := 35) (v := 0) dX12_trim_35 (by decide) ?_
      refine j_istore (pc := 36) (L' := [some (.ref 0), some (.int p1), some (.int p2), some (.int (-2 : Int32)), some (.int (0 : Int32)), some (.int (0 : Int32)), none, none, none, none, none, none]) dX12_trim_36 (by decide) rfl ?_
      refine j_iconst (pc := 38) (v := -1) dX12_trim_38 (by decide) ?_
      refine j_istore (pc := 39) (L' := [some (.ref 0), some (.int p1), some (.int p2), some (.int (-2 : Int32)), some (.int (0 : Int32)), some (.int (0 : Int32)), some (.int (-1 : Int32)), none, none, none, none, none]) dX12_trim_39 (by decide) rfl ?_
      refine j_iconst (pc := 41) (v := 0) dX12_trim_41 (by decide) ?_
      refine j_istore (pc := 42) (L' := [some (.ref 0), some (.int p1), some (.int p2), some (.int (-2 : Int32)), some (.int (0 : Int32)), some (.int (0 : Int32)), some (.int (-1 : Int32)), some (.int (0 : Int32)), none, none, none, none]) dX12_trim_42 (by decide) rfl ?_
      refine j_iconst (pc := 44) (v := 0) dX12_trim_44 (by decide) ?_
      refine j_istore (pc := 45) (L' := [some (.ref 0), some (.int p1), some (.int p2), some (.int (-2 : Int32)), some (.int (0 : Int32)), some (.int (0 : Int32)), some (.int (-1 : Int32)), some (.int (0 : Int32)), some (.int (0 : Int32)), none, none, none]) dX12_trim_45 (by decide) rfl ?_
      refine Jx.sub (L' := [some (.ref 0), some (.int p1), some (.int p2), some (.int (-2 : Int32)), some (.int (0 : Int32)), some (.int (0 : Int32)), some (.int (-1 : Int32)), some (.int (0 : Int32)), some (.int (0 : Int32)), none, none, none]) (⟨rfl, ⟨rfl, ⟨rfl, ⟨rfl, ⟨rfl, ⟨rfl, ⟨rfl, ⟨rfl, ⟨rfl, trivial⟩⟩⟩⟩⟩⟩⟩⟩⟩) ?_
      exact jX12_trim_47 FU p1 p2 (-2 : Int32) (0 : Int32) (0 : Int32) (-1 : Int32) (0 : Int32) (0 : Int32) h5 H
    · rw [if_neg c7] at H
      refine j_aload_n (pc := 22) dX12_trim_22 rfl ?_
      refine j_iconst (pc := 23) (v := 0) dX12_trim_23 (by decide) ?_
      obtain ⟨h8, eh8, H⟩ := nm_x H
      refine j_putI (pc := 24) dX12_trim_24 fpX12_136 rfl h8 eh8 ?_
      refine j_iconst (pc := 27) (v := 0) dX12_trim_27 (by decide) ?_
      exact j_ireturn (pc := 28) dX12_trim_28 rfl (ri_1 H) (ri_2 H)
  · rw [if_pos c4] at H
    refine j_iconst (pc := 12) (v := -1) dX12_trim_12 (by decide) ?_
    exact j_ireturn (pc := 13) dX12_trim_13 rfl (ri_1 H) (ri_2 H)

noncomputable def fX12_orderTanks_78 (k7 : Int32 → HS → Option HS) (v1 : Int32) (v2 : Int32) (h : HS) : Option HS := ck (inb v2 15) (nm (pI h 21 v2.toNatClampNeg v1) (fun h16 => nm (pI h16 0 45 ((gI h16 0 45) + (1 : Int32))) (fun h18 => nm (v1 + (1 : Int32)) (fun v1_19 => k7 v1_19 h18))))
set_option maxRecDepth 100000 in
theorem jX12_orderTanks_78 {h0 : HS} (k7 : Int32 → HS → Option HS) (hk7 : ∀ (v1 : Int32) (h : HS), k7 v1 h = some h0 → Jx skM RX12 cX12_orderTanks 3 none 0 none h0 7 [some (.ref 0), some (.int v1), none] [] h) (v1 : Int32) (v2 : Int32) (h : HS) (H : fX12_orderTanks_78 k7 v1 v2 h = some h0) : Jx skM RX12 cX12_orderTanks 3 none 0 none h0 78 [some (.ref 0), some (.int v1), some (.int v2)] [] h := by
  unfold fX12_orderTanks_78 at H
  refine j_aload_n (pc := 78) dX12_orderTanks_78 rfl ?_
  refine j_getR (pc := 79) (b := 21) dX12_orderTanks_79 flX12_79 rfl ?_
  refine j_iload_n (pc := 82) dX12_orderTanks_82 rfl ?_
  refine j_iload_n (pc := 83) dX12_orderTanks_83 rfl ?_
  obtain ⟨b17, H⟩ := ck_x H
  obtain ⟨h16, eh16, H⟩ := nm_x H
  refine j_iastore (pc := 84) dX12_orderTanks_84 rfl b17 rfl h16 eh16 ?_
  refine j_aload_n (pc := 85) dX12_orderTanks_85 rfl ?_
  refine j_dup (pc := 86) dX12_orderTanks_86 rfl ?_
  refine j_getI (pc := 87) dX12_orderTanks_87 flX12_313 rfl ?_
  refine j_iconst (pc := 90) (v := 1) dX12_orderTanks_90 (by decide) ?_
  refine j_iadd (pc := 91) dX12_orderTanks_91 ?_
  obtain ⟨h18, eh18, H⟩ := nm_x H
  refine j_putI (pc := 92) dX12_orderTanks_92 fpX12_313 rfl h18 eh18 ?_
  obtain ⟨v1_19, ev1_19, H⟩ := nm_x H
  refine j_iinc (pc := 95) (L' := [some (.ref 0), some (.int v1_19), some (.int v2)]) (w := 1) dX12_orderTanks_95 rfl (by decide) (by decide) v1_19 ev1_19 rfl ?_
  refine j_goto (pc := 98) (tgt := 7) dX12_orderTanks_98 (by decide) ?_
  refine Jx.sub (L' := [some (.ref 0), some (.int v1_19), none]) (⟨rfl, ⟨rfl, trivial⟩⟩) ?_
  exact hk7 v1_19 h18 H
noncomputable def fX12_orderTanks_32 (k7 : Int32 → HS → Option HS) : Nat → Int32 → Int32 → HS → Option HS
  | 0, _, _, _ => none
  | n + 1, v1, v2, h => if v2 ≤ 0 then (fX12_orderTanks_78 k7 v1 v2 h) else (ck (inb (v2 - (1 : Int32)) 15) (ck (inb (gI h 21 (v2 - (1 : Int32)).toNatClampNeg) 15) (ck (inb v1 15) (if (gI h 2 (gI h 21 (v2 - (1 : Int32)).toNatClampNeg).toNatClampNeg) ≤ (gI h 2 v1.toNatClampNeg) then (fX12_orderTanks_78 k7 v1 v2 h) else (ck (inb (v2 - (1 : Int32)) 15) (ck (inb v2 15) (nm (pI h 21 v2.toNatClampNeg (gI h 21 (v2 - (1 : Int32)).toNatClampNeg)) (fun h13 => nm (v2 + (-1 : Int32)) (fun v2_15 => fX12_orderTanks_32 k7 n v1 v2_15 h13)))))))))
set_option maxRecDepth 100000 in
theorem jX12_orderTanks_32 {h0 : HS} (k7 : Int32 → HS → Option HS) (hk7 : ∀ (v1 : Int32) (h : HS), k7 v1 h = some h0 → Jx skM RX12 cX12_orderTanks 3 none 0 none h0 7 [some (.ref 0), some (.int v1), none] [] h) : ∀ (n : Nat) (v1 : Int32) (v2 : Int32) (h : HS), fX12_orderTanks_32 k7 n v1 v2 h = some h0 → Jx skM RX12 cX12_orderTanks 3 none 0 none h0 32 [some (.ref 0), some (.int v1), some (.int v2)] [] h := by
  intro n
  induction n with
  | zero => intro v1 v2  h H; cases H
  | succ n ih =>
    intro v1 v2  h H
    rw [fX12_orderTanks_32] at H
    refine j_iload_n (pc := 32) dX12_orderTanks_32 rfl ?_
    refine j_if_le (pc := 33) (tgt := 78) dX12_orderTanks_33 (by decide) (fun c7 => ?_) (fun c7 => ?_)
    · rw [if_pos c7] at H
      refine Jx.sub (L' := [some (.ref 0), some (.int v1), some (.int v2)]) (⟨rfl, ⟨rfl, ⟨rfl, trivial⟩⟩⟩) ?_
      exact jX12_orderTanks_78 _ hk7 v1 v2 h H
    · rw [if_neg c7] at H
      refine j_aload_n (pc := 36) dX12_orderTanks_36 rfl ?_
      refine j_getR (pc := 37) (b := 2) dX12_orderTanks_37 flX12_13 rfl ?_
      refine j_aload_n (pc := 40) dX12_orderTanks_40 rfl ?_
      refine j_getR (pc := 41) (b := 21) dX12_orderTanks_41 flX12_79 rfl ?_
      refine j_iload_n (pc := 44) dX12_orderTanks_44 rfl ?_
      refine j_iconst (pc := 45) (v := 1) dX12_orderTanks_45 (by decide) ?_
      refine j_isub (pc := 46) dX12_orderTanks_46 ?_
      obtain ⟨b8, H⟩ := ck_x H
      refine j_iaload (pc := 47) dX12_orderTanks_47 rfl b8 rfl ?_
      obtain ⟨b9, H⟩ := ck_x H
      refine j_iaload (pc := 48) dX12_orderTanks_48 rfl b9 rfl ?_
      refine j_aload_n (pc := 49) dX12_orderTanks_49 rfl ?_
      refine j_getR (pc := 50) (b := 2) dX12_orderTanks_50 flX12_13 rfl ?_
      refine j_iload_n (pc := 53) dX12_orderTanks_53 rfl ?_
      obtain ⟨b10, H⟩ := ck_x H
      refine j_iaload (pc := 54) dX12_orderTanks_54 rfl b10 rfl ?_
      refine j_icmp_le (pc := 55) (tgt := 78) dX12_orderTanks_55 (by decide) (fun c11 => ?_) (fun c11 => ?_)
      · rw [if_pos c11] at H
        refine Jx.sub (L' := [some (.ref 0), some (.int v1), some (.int v2)]) (⟨rfl, ⟨rfl, ⟨rfl, trivial⟩⟩⟩) ?_
        exact jX12_orderTanks_78 _ hk7 v1 v2 h H
      · rw [if_neg c11] at H
        refine j_aload_n (pc := 58) dX12_orderTanks_58 rfl ?_
        refine j_getR (pc := 59) (b := 21) dX12_orderTanks_59 flX12_79 rfl ?_
        refine j_iload_n (pc := 62) dX12_orderTanks_62 rfl ?_
        refine j_aload_n (pc := 63) dX12_orderTanks_63 rfl ?_
        refine j_getR (pc := 64) (b := 21) dX12_orderTanks_64 flX12_79 rfl ?_
        refine j_iload_n (pc := 67) dX12_orderTanks_67 rfl ?_
        refine j_iconst (pc := 68) (v := 1) dX12_orderTanks_68 (by decide) ?_
        refine j_isub (pc := 69) dX12_orderTanks_69 ?_
        obtain ⟨b12, H⟩ := ck_x H
        refine j_iaload (pc := 70) dX12_orderTanks_70 rfl b12 rfl ?_
        obtain ⟨b14, H⟩ := ck_x H
        obtain ⟨h13, eh13, H⟩ := nm_x H
        refine j_iastore (pc := 71) dX12_orderTanks_71 rfl b14 rfl h13 eh13 ?_
        obtain ⟨v2_15, ev2_15, H⟩ := nm_x H
        refine j_iinc (pc := 72) (L' := [some (.ref 0), some (.int v1), some (.int v2_15)]) (w := -1) dX12_orderTanks_72 rfl (by decide) (by decide) v2_15 ev2_15 rfl ?_
        refine j_goto (pc := 75) (tgt := 32) dX12_orderTanks_75 (by decide) ?_
        refine Jx.sub (L' := [some (.ref 0), some (.int v1), some (.int v2_15)]) (⟨rfl, ⟨rfl, ⟨rfl, trivial⟩⟩⟩) ?_
        exact ih v1 v2_15 h13 H
noncomputable def fX12_orderTanks_7 : Nat → Int32 → HS → Option HS
  | 0, _, _ => none
  | n + 1, v1, h => if (gI h 0 0) ≤ v1 then (some h) else (ck (inb v1 15) (if (gI h 1 v1.toNatClampNeg) = 0 then (nm ((gI h 0 45)) (fun v2_5 => fX12_orderTanks_32 (fX12_orderTanks_7 n) FU v1 v2_5 h)) else (nm (v1 + (1 : Int32)) (fun v1_6 => fX12_orderTanks_7 n v1_6 h))))
set_option maxRecDepth 100000 in
theorem jX12_orderTanks_7 {h0 : HS} : ∀ (n : Nat) (v1 : Int32) (h : HS), fX12_orderTanks_7 n v1 h = some h0 → Jx skM RX12 cX12_orderTanks 3 none 0 none h0 7 [some (.ref 0), some (.int v1), none] [] h := by
  intro n
  induction n with
  | zero => intro v1  h H; cases H
  | succ n ih =>
    intro v1  h H
    rw [fX12_orderTanks_7] at H
    refine j_iload_n (pc := 7) dX12_orderTanks_7 rfl ?_
    refine j_aload_n (pc := 8) dX12_orderTanks_8 rfl ?_
    refine j_getI (pc := 9) dX12_orderTanks_9 flX12_139 rfl ?_
    refine j_icmp_ge (pc := 12) (tgt := 101) dX12_orderTanks_12 (by decide) (fun c2 => ?_) (fun c2 => ?_)
    · rw [if_pos c2] at H
      exact j_return (pc := 101) dX12_orderTanks_101 rfl rfl (rv_2 H)
    · rw [if_neg c2] at H
      refine j_aload_n (pc := 15) dX12_orderTanks_15 rfl ?_
      refine j_getR (pc := 16) (b := 1) dX12_orderTanks_16 flX12_9 rfl ?_
      refine j_iload_n (pc := 19) dX12_orderTanks_19 rfl ?_
      obtain ⟨b3, H⟩ := ck_x H
      refine j_iaload (pc := 20) dX12_orderTanks_20 rfl b3 rfl ?_
      refine j_if_eq (pc := 21) (tgt := 27) dX12_orderTanks_21 (by decide) (fun c4 => ?_) (fun c4 => ?_)
      · rw [if_pos c4] at H
        refine j_aload_n (pc := 27) dX12_orderTanks_27 rfl ?_
        refine j_getI (pc := 28) dX12_orderTanks_28 flX12_313 rfl ?_
        obtain ⟨v2_5, ev2_5, H⟩ := nm_x H
        refine j_topi ev2_5 ?_
        refine j_istore_n (pc := 31) (L' := [some (.ref 0), some (.int v1), some (.int v2_5)]) dX12_orderTanks_31 (by decide) rfl ?_
        refine Jx.sub (L' := [some (.ref 0), some (.int v1), some (.int v2_5)]) (⟨rfl, ⟨rfl, ⟨rfl, trivial⟩⟩⟩) ?_
        exact jX12_orderTanks_32 _ ih FU v1 v2_5 h H
      · rw [if_neg c4] at H
        refine j_goto (pc := 24) (tgt := 95) dX12_orderTanks_24 (by decide) ?_
        obtain ⟨v1_6, ev1_6, H⟩ := nm_x H
        refine j_iinc (pc := 95) (L' := [some (.ref 0), some (.int v1_6), none]) (w := 1) dX12_orderTanks_95 rfl (by decide) (by decide) v1_6 ev1_6 rfl ?_
        refine j_goto (pc := 98) (tgt := 7) dX12_orderTanks_98 (by decide) ?_
        refine Jx.sub (L' := [some (.ref 0), some (.int v1_6), none]) (⟨rfl, ⟨rfl, trivial⟩⟩) ?_
        exact ih v1_6 h H
noncomputable def fX12_orderTanks (h : HS) : Option HS := nm (pI h 0 45 (0 : Int32)) (fun h1 => fX12_orderTanks_7 FU (0 : Int32) h1)
set_option maxRecDepth 100000 in
theorem tX12_orderTanks {h h0 : HS} (H : fX12_orderTanks h = some h0) : Cn skM yX12_orderTanks cX12_orderTanks 3 none 0 [.ref 0] h none h0 := by
  refine Cn_of (L := [some (.ref 0), none, none]) (by decide +kernel) (by simp [lg_sl, Value.category]) (fun ad => by simp [lg_sl, tv, Value.category]) (⟨rfl, trivial⟩) ?_
  unfold fX12_orderTanks at H
  refine j_aload_n (pc := 0) dX12_orderTanks_0 rfl ?_
  refine j_iconst (pc := 1) (v := 0) dX12_orderTanks_1 (by decide) ?_
  obtain ⟨h1, eh1, H⟩ := nm_x H
  refine j_putI (pc := 2) dX12_orderTanks_2 fpX12_313 rfl h1 eh1 ?_
  refine j_iconst (pc := 5) (v := 0) dX12_orderTanks_5 (by decide) ?_
  refine j_istore_n (pc := 6) (L' := [some (.ref 0), some (.int (0 : Int32)), none]) dX12_orderTanks_6 (by decide) rfl ?_
  refine Jx.sub (L' := [some (.ref 0), some (.int (0 : Int32)), none]) (⟨rfl, ⟨rfl, trivial⟩⟩) ?_
  exact jX12_orderTanks_7 FU (0 : Int32) h1 H

noncomputable def fX12_momentWith_39 (k8 : Int32 → Int32 → Int32 → Int32 → HS → Option (Int32 × HS)) (v2 : Int32) (v3 : Int32) (v4 : Int32) (v5 : Int32) (s1 : Int32) (h : HS) : Option (Int32 × HS) := ck (inb s1 15) (nm ((gI h 21 s1.toNatClampNeg)) (fun v6_4 => ck (inb v6_4 15) (nm ((imin v3 (gI h 4 v6_4.toNatClampNeg))) (fun v7_6 => ck (inb v6_4 15) (nm ((v4 + ((gI h 2 v6_4.toNatClampNeg) * v7_6))) (fun v4_8 => nm ((v3 - v7_6)) (fun v3_9 => nm (v5 + (1 : Int32)) (fun v5_10 => k8 v2 v3_9 v4_8 v5_10 h))))))))
set_option maxRecDepth 100000 in
theorem jX12_momentWith_39 {r : Int32} {h0 : HS} (k8 : Int32 → Int32 → Int32 → Int32 → HS → Option (Int32 × HS)) (hk8 : ∀ (v2 : Int32) (v3 : Int32) (v4 : Int32) (v5 : Int32) (h : HS), k8 v2 v3 v4 v5 h = some (r, h0) → Jx skM RX12 cX12_momentWith 8 (some .int) 0 (some (.int r)) h0 8 [some (.ref 0), none, some (.int v2), some (.int v3), some (.int v4), some (.int v5), none, none] [] h) (v2 : Int32) (v3 : Int32) (v4 : Int32) (v5 : Int32) (s1 : Int32) (h : HS) (H : fX12_momentWith_39 k8 v2 v3 v4 v5 s1 h = some (r, h0)) : Jx skM RX12 cX12_momentWith 8 (some .int) 0 (some (.int r)) h0 39 [some (.ref 0), none, some (.int v2), some (.int v3), some (.int v4), some (.int v5), none, none] [.int s1, .ref 21] h := by
  unfold fX12_momentWith_39 at H
  obtain ⟨b3, H⟩ := ck_x H
  refine j_iaload (pc := 39) dX12_momentWith_39 rfl b3 rfl ?_
  obtain ⟨v6_4, ev6_4, H⟩ := nm_x H
  refine j_topi ev6_4 ?_
  refine j_istore (pc := 40) (L' := [some (.ref 0), none, some (.int v2), some (.int v3), some (.int v4), some (.int v5), some (.int v6_4), none]) dX12_momentWith_40 (by decide) rfl ?_
  refine j_iload_n (pc := 42) dX12_momentWith_42 rfl ?_
  refine j_aload_n (pc := 43) dX12_momentWith_43 rfl ?_
  refine j_getR (pc := 44) (b := 4) dX12_momentWith_44 flX12_19 rfl ?_
  refine j_iload (pc := 47) dX12_momentWith_47 rfl ?_
  obtain ⟨b5, H⟩ := ck_x H
  refine j_iaload (pc := 49) dX12_momentWith_49 rfl b5 rfl ?_
  refine j_mmin (pc := 50) dX12_momentWith_50 wmX12_153 (by simp [Value.category]) ?_
  obtain ⟨v7_6, ev7_6, H⟩ := nm_x H
  refine j_topi ev7_6 ?_
  refine j_istore (pc := 53) (L' := [some (.ref 0), none, some (.int v2), some (.int v3), some (.int v4), some (.int v5), some (.int v6_4), some (.int v7_6)]) dX12_momentWith_53 (by decide) rfl ?_
  refine j_iload (pc := 55) dX12_momentWith_55 rfl ?_
  refine j_aload_n (pc := 57) dX12_momentWith_57 rfl ?_
  refine j_getR (pc := 58) (b := 2) dX12_momentWith_58 flX12_13 rfl ?_
  refine j_iload (pc := 61) dX12_momentWith_61 rfl ?_
  obtain ⟨b7, H⟩ := ck_x H
  refine j_iaload (pc := 63) dX12_momentWith_63 rfl b7 rfl ?_
  refine j_iload (pc := 64) dX12_momentWith_64 rfl ?_
  refine j_imul (pc := 66) dX12_momentWith_66 ?_
  refine j_iadd (pc := 67) dX12_momentWith_67 ?_
  obtain ⟨v4_8, ev4_8, H⟩ := nm_x H
  refine j_topi ev4_8 ?_
  refine j_istore (pc := 68) (L' := [some (.ref 0), none, some (.int v2), some (.int v3), some (.int v4_8), some (.int v5), some (.int v6_4), some (.int v7_6)]) dX12_momentWith_68 (by decide) rfl ?_
  refine j_iload_n (pc := 70) dX12_momentWith_70 rfl ?_
  refine j_iload (pc := 71) dX12_momentWith_71 rfl ?_
  refine j_isub (pc := 73) dX12_momentWith_73 ?_
  obtain ⟨v3_9, ev3_9, H⟩ := nm_x H
  refine j_topi ev3_9 ?_
  refine j_istore_n (pc := 74) (L' := [some (.ref 0), none, some (.int v2), some (.int v3_9), some (.int v4_8), some (.int v5), some (.int v6_4), some (.int v7_6)]) dX12_momentWith_74 (by decide) rfl ?_
  obtain ⟨v5_10, ev5_10, H⟩ := nm_x H
  refine j_iinc (pc := 75) (L' := [some (.ref 0), none, some (.int v2), some (.int v3_9), some (.int v4_8), some (.int v5_10), some (.int v6_4), some (.int v7_6)]) (w := 1) dX12_momentWith_75 rfl (by decide) (by decide) v5_10 ev5_10 rfl ?_
  refine j_goto (pc := 78) (tgt := 8) dX12_momentWith_78 (by decide) ?_
  refine Jx.sub (L' := [some (.ref 0), none, some (.int v2), some (.int v3_9), some (.int v4_8), some (.int v5_10), none, none]) (⟨rfl, ⟨rfl, ⟨rfl, ⟨rfl, ⟨rfl, trivial⟩⟩⟩⟩⟩) ?_
  exact hk8 v2 v3_9 v4_8 v5_10 h H
noncomputable def fX12_momentWith_8 : Nat → Int32 → Int32 → Int32 → Int32 → HS → Option (Int32 × HS)
  | 0, _, _, _, _, _ => none
  | n + 1, v2, v3, v4, v5, h => if (gI h 0 45) ≤ v5 then (some (v4, h)) else (if v2 = 0 then (fX12_momentWith_39 (fX12_momentWith_8 n) v2 v3 v4 v5 ((((gI h 0 45) - (1 : Int32)) - v5)) h) else (fX12_momentWith_39 (fX12_momentWith_8 n) v2 v3 v4 v5 v5 h))
set_option maxRecDepth 100000 in
theorem jX12_momentWith_8 {r : Int32} {h0 : HS} : ∀ (n : Nat) (v2 : Int32) (v3 : Int32) (v4 : Int32) (v5 : Int32) (h : HS), fX12_momentWith_8 n v2 v3 v4 v5 h = some (r, h0) → Jx skM RX12 cX12_momentWith 8 (some .int) 0 (some (.int r)) h0 8 [some (.ref 0), none, some (.int v2), some (.int v3), some (.int v4), some (.int v5), none, none] [] h := by
  intro n
  induction n with
  | zero => intro v2 v3 v4 v5  h H; cases H
  | succ n ih =>
    intro v2 v3 v4 v5  h H
    rw [fX12_momentWith_8] at H
    refine j_iload (pc := 8) dX12_momentWith_8 rfl ?_
    refine j_aload_n (pc := 10) dX12_momentWith_10 rfl ?_
    refine j_getI (pc := 11) dX12_momentWith_11 flX12_313 rfl ?_
    refine j_icmp_ge (pc := 14) (tgt := 81) dX12_momentWith_14 (by decide) (fun c1 => ?_) (fun c1 => ?_)
    · rw [if_pos c1] at H
      refine j_iload (pc := 81) dX12_momentWith_81 rfl ?_
      exact j_ireturn (pc := 83) dX12_momentWith_83 rfl (ri_1 H) (ri_2 H)
    · rw [if_neg c1] at H
      refine j_aload_n (pc := 17) dX12_momentWith_17 rfl ?_
      refine j_getR (pc := 18) (b := 21) dX12_momentWith_18 flX12_79 rfl ?_
      refine j_iload_n (pc := 21) dX12_momentWith_21 rfl ?_
      refine j_if_eq (pc := 22) (tgt := 30) dX12_momentWith_22 (by decide) (fun c2 => ?_) (fun c2 => ?_)
      · rw [if_pos c2] at H
        refine j_aload_n (pc := 30) dX12_momentWith_30 rfl ?_
        refine j_getI (pc := 31) dX12_momentWith_31 flX12_313 rfl ?_
        refine j_iconst (pc := 34) (v := 1) dX12_momentWith_34 (by decide) ?_
        refine j_isub (pc := 35) dX12_momentWith_35 ?_
        refine j_iload (pc := 36) dX12_momentWith_36 rfl ?_
        refine j_isub (pc := 38) dX12_momentWith_38 ?_
        refine Jx.sub (L' := [some (.ref 0), none, some (.int v2), some (.int v3), some (.int v4), some (.int v5), none, none]) (⟨rfl, ⟨rfl, ⟨rfl, ⟨rfl, ⟨rfl, trivial⟩⟩⟩⟩⟩) ?_
        exact jX12_momentWith_39 _ ih v2 v3 v4 v5 ((((gI h 0 45) - (1 : Int32)) - v5)) h H
      · rw [if_neg c2] at H
        refine j_iload (pc := 25) dX12_momentWith_25 rfl ?_
        refine j_goto (pc := 27) (tgt := 39) dX12_momentWith_27 (by decide) ?_
        refine Jx.sub (L' := [some (.ref 0), none, some (.int v2), some (.int v3), some (.int v4), some (.int v5), none, none]) (⟨rfl, ⟨rfl, ⟨rfl, ⟨rfl, ⟨rfl, trivial⟩⟩⟩⟩⟩) ?_
        exact jX12_momentWith_39 _ ih v2 v3 v4 v5 v5 h H
noncomputable def fX12_momentWith (p1 : Int32) (p2 : Int32) (h : HS) : Option (Int32 × HS) := fX12_momentWith_8 FU p2 p1 (0 : Int32) (0 : Int32) h
set_option maxRecDepth 100000 in
theorem tX12_momentWith {p1 : Int32} {p2 : Int32} {r : Int32} {h h0 : HS} (H : fX12_momentWith p1 p2 h = some (r, h0)) : Cn skM yX12_momentWith cX12_momentWith 8 (some .int) 0 [.ref 0, .int p1, .int p2] h (some (.int r)) h0 := by
  refine Cn_of (L := [some (.ref 0), some (.int p1), some (.int p2), none, none, none, none, none]) (by decide +kernel) (by simp [lg_sl, Value.category]) (fun ad => by simp [lg_sl, tv, Value.category]) (⟨rfl, ⟨rfl, ⟨rfl, trivial⟩⟩⟩) ?_
  unfold fX12_momentWith at H
  refine j_iload_n (pc := 0) dX12_momentWith_0 rfl ?_
  refine j_istore_n (pc := 1) (L' := [some (.ref 0), some (.int p1), some (.int p2), some (.int p1), none, none, none, none]) dX12_momentWith_1 (by decide) rfl ?_
  refine j_iconst (pc := 2) (v := 0) dX12_momentWith_2 (by decide) ?_
  refine j_istore (pc := 3) (L' := [some (.ref 0), some (.int p1), some (.int p2), some (.int p1), some (.int (0 : Int32)), none, none, none]) dX12_momentWith_3 (by decide) rfl ?_
  refine j_iconst (pc := 5) (v := 0) dX12_momentWith_5 (by decide) ?_
  refine j_istore (pc := 6) (L' := [some (.ref 0), some (.int p1), some (.int p2), some (.int p1), some (.int (0 : Int32)), some (.int (0 : Int32)), none, none]) dX12_momentWith_6 (by decide) rfl ?_
  refine Jx.sub (L' := [some (.ref 0), none, some (.int p2), some (.int p1), some (.int (0 : Int32)), some (.int (0 : Int32)), none, none]) (⟨rfl, ⟨rfl, ⟨rfl, ⟨rfl, ⟨rfl, trivial⟩⟩⟩⟩⟩) ?_
  exact jX12_momentWith_8 FU p2 p1 (0 : Int32) (0 : Int32) h H
