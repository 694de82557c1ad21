theorem dX1_letter_0 : decode cX1_letter 0 = .ok (.iload_n 1, 1) := by decide +kernel
theorem dX1_letter_1 : decode cX1_letter 1 = .ok (.tableswitch 78 100 109 #[70, 78, 78, 78, 55, 78, 78, 78, 65, 60], 55) := by decide +kernel
theorem dX1_letter_56 : decode cX1_letter 56 = .ok (.aload_n 0, 1) := by decide +kernel
theorem dX1_letter_57 : decode cX1_letter 57 = .ok (.getfield 95, 3) := by decide +kernel
theorem dX1_letter_60 : decode cX1_letter 60 = .ok (.ireturn, 1) := by decide +kernel
theorem dX1_letter_61 : decode cX1_letter 61 = .ok (.aload_n 0, 1) := by decide +kernel
theorem dX1_letter_62 : decode cX1_letter 62 = .ok (.getfield 102, 3) := by decide +kernel
theorem dX1_letter_65 : decode cX1_letter 65 = .ok (.ireturn, 1) := by decide +kernel
theorem dX1_letter_66 : decode cX1_letter 66 = .ok (.aload_n 0, 1) := by decide +kernel
theorem dX1_letter_67 : decode cX1_letter 67 = .ok (.getfield 107, 3) := by decide +kernel
theorem dX1_letter_70 : decode cX1_letter 70 = .ok (.ireturn, 1) := by decide +kernel
theorem dX1_letter_71 : decode cX1_letter 71 = .ok (.aload_n 0, 1) := by decide +kernel
theorem dX1_letter_72 : decode cX1_letter 72 = .ok (.getfield 31, 3) := by decide +kernel
theorem dX1_letter_75 : decode cX1_letter 75 = .ok (.getfield 150, 3) := by decide +kernel
theorem dX1_letter_78 : decode cX1_letter 78 = .ok (.ireturn, 1) := by decide +kernel
theorem dX1_letter_79 : decode cX1_letter 79 = .ok (.aload_n 0, 1) := by decide +kernel
theorem dX1_letter_80 : decode cX1_letter 80 = .ok (.getfield 118, 3) := by decide +kernel
theorem dX1_letter_83 : decode cX1_letter 83 = .ok (.ireturn, 1) := by decide +kernel
theorem dX1_thing_0 : decode cX1_thing 0 = .ok (.aload_n 0, 1) := by decide +kernel
theorem dX1_thing_1 : decode cX1_thing 1 = .ok (.getfield 12, 3) := by decide +kernel
theorem dX1_thing_4 : decode cX1_thing 4 = .ok (.invokevirtual 127, 3) := by decide +kernel
theorem dX1_thing_7 : decode cX1_thing 7 = .ok (.istore_n 2, 1) := by decide +kernel
theorem dX1_thing_8 : decode cX1_thing 8 = .ok (.iload_n 2, 1) := by decide +kernel
theorem dX1_thing_9 : decode cX1_thing 9 = .ok (.invokestatic 89, 3) := by decide +kernel
theorem dX1_thing_12 : decode cX1_thing 12 = .ok (.ifCond .eq 12, 3) := by decide +kernel
theorem dX1_thing_15 : decode cX1_thing 15 = .ok (.aload_n 0, 1) := by decide +kernel
theorem dX1_thing_16 : decode cX1_thing 16 = .ok (.getfield 12, 3) := by decide +kernel
theorem dX1_thing_19 : decode cX1_thing 19 = .ok (.iconst 4, 1) := by decide +kernel
theorem dX1_thing_20 : decode cX1_thing 20 = .ok (.invokevirtual 130, 3) := by decide +kernel
theorem dX1_thing_23 : decode cX1_thing 23 = .ok (.ireturn, 1) := by decide +kernel
theorem dX1_thing_24 : decode cX1_thing 24 = .ok (.iload_n 2, 1) := by decide +kernel
theorem dX1_thing_25 : decode cX1_thing 25 = .ok (.bipush 40, 2) := by decide +kernel
theorem dX1_thing_27 : decode cX1_thing 27 = .ok (.if_icmp .ne 40, 3) := by decide +kernel
theorem dX1_thing_30 : decode cX1_thing 30 = .ok (.iload_n 1, 1) := by decide +kernel
theorem dX1_thing_31 : decode cX1_thing 31 = .ok (.iconst 4, 1) := by decide +kernel
theorem dX1_thing_32 : decode cX1_thing 32 = .ok (.if_icmp .ge 35, 3) := by decide +kernel
theorem dX1_thing_35 : decode cX1_thing 35 = .ok (.aload_n 0, 1) := by decide +kernel
theorem dX1_thing_36 : decode cX1_thing 36 = .ok (.getfield 12, 3) := by decide +kernel
theorem dX1_thing_39 : decode cX1_thing 39 = .ok (.dup, 1) := by decide +kernel
theorem dX1_thing_40 : decode cX1_thing 40 = .ok (.getfield 133, 3) := by decide +kernel
theorem dX1_thing_43 : decode cX1_thing 43 = .ok (.iconst 1, 1) := by decide +kernel
theorem dX1_thing_44 : decode cX1_thing 44 = .ok (.iadd, 1) := by decide +kernel
theorem dX1_thing_45 : decode cX1_thing 45 = .ok (.putfield 133, 3) := by decide +kernel
theorem dX1_thing_48 : decode cX1_thing 48 = .ok (.aload_n 0, 1) := by decide +kernel
theorem dX1_thing_49 : decode cX1_thing 49 = .ok (.iload_n 1, 1) := by decide +kernel
theorem dX1_thing_50 : decode cX1_thing 50 = .ok (.iconst 1, 1) := by decide +kernel
theorem dX1_thing_51 : decode cX1_thing 51 = .ok (.iadd, 1) := by decide +kernel
theorem dX1_thing_52 : decode cX1_thing 52 = .ok (.invokevirtual 83, 3) := by decide +kernel
theorem dX1_thing_55 : decode cX1_thing 55 = .ok (.istore_n 3, 1) := by decide +kernel
theorem dX1_thing_56 : decode cX1_thing 56 = .ok (.aload_n 0, 1) := by decide +kernel
theorem dX1_thing_57 : decode cX1_thing 57 = .ok (.getfield 12, 3) := by decide +kernel
theorem dX1_thing_60 : decode cX1_thing 60 = .ok (.bipush 41, 2) := by decide +kernel
theorem dX1_thing_62 : decode cX1_thing 62 = .ok (.invokevirtual 79, 3) := by decide +kernel
theorem dX1_thing_65 : decode cX1_thing 65 = .ok (.iload_n 3, 1) := by decide +kernel
theorem dX1_thing_66 : decode cX1_thing 66 = .ok (.ireturn, 1) := by decide +kernel
theorem dX1_thing_67 : decode cX1_thing 67 = .ok (.iload_n 2, 1) := by decide +kernel
theorem dX1_thing_68 : decode cX1_thing 68 = .ok (.bipush 110, 2) := by decide +kernel
theorem dX1_thing_70 : decode cX1_thing 70 = .ok (.if_icmp .ne 51, 3) := by decide +kernel
theorem dX1_thing_73 : decode cX1_thing 73 = .ok (.aload_n 0, 1) := by decide +kernel
theorem dX1_thing_74 : decode cX1_thing 74 = .ok (.getfield 12, 3) := by decide +kernel
theorem dX1_thing_77 : decode cX1_thing 77 = .ok (.dup, 1) := by decide +kernel
theorem dX1_thing_78 : decode cX1_thing 78 = .ok (.getfield 133, 3) := by decide +kernel
theorem dX1_thing_81 : decode cX1_thing 81 = .ok (.iconst 1, 1) := by decide +kernel
theorem dX1_thing_82 : decode cX1_thing 82 = .ok (.iadd, 1) := by decide +kernel
theorem dX1_thing_83 : decode cX1_thing 83 = .ok (.putfield 133, 3) := by decide +kernel
theorem dX1_thing_86 : decode cX1_thing 86 = .ok (.aload_n 0, 1) := by decide +kernel
theorem dX1_thing_87 : decode cX1_thing 87 = .ok (.getfield 12, 3) := by decide +kernel
theorem dX1_thing_90 : decode cX1_thing 90 = .ok (.bipush 16, 2) := by decide +kernel
theorem dX1_thing_92 : decode cX1_thing 92 = .ok (.invokevirtual 76, 3) := by decide +kernel
theorem dX1_thing_95 : decode cX1_thing 95 = .ok (.istore_n 3, 1) := by decide +kernel
theorem dX1_thing_96 : decode cX1_thing 96 = .ok (.aload_n 0, 1) := by decide +kernel
theorem dX1_thing_97 : decode cX1_thing 97 = .ok (.getfield 41, 3) := by decide +kernel
theorem dX1_thing_100 : decode cX1_thing 100 = .ok (.iload_n 3, 1) := by decide +kernel
theorem dX1_thing_101 : decode cX1_thing 101 = .ok (.invokevirtual 136, 3) := by decide +kernel
theorem dX1_thing_104 : decode cX1_thing 104 = .ok (.ifCond .eq 15, 3) := by decide +kernel
theorem dX1_thing_107 : decode cX1_thing 107 = .ok (.aload_n 0, 1) := by decide +kernel
theorem dX1_thing_108 : decode cX1_thing 108 = .ok (.getfield 41, 3) := by decide +kernel
theorem dX1_thing_111 : decode cX1_thing 111 = .ok (.getfield 141, 3) := by decide +kernel
theorem dX1_thing_114 : decode cX1_thing 114 = .ok (.iload_n 3, 1) := by decide +kernel
theorem dX1_thing_115 : decode cX1_thing 115 = .ok (.iaload, 1) := by decide +kernel
theorem dX1_thing_116 : decode cX1_thing 116 = .ok (.goto 4, 3) := by decide +kernel
theorem dX1_thing_119 : decode cX1_thing 119 = .ok (.iconst 0, 1) := by decide +kernel
theorem dX1_thing_120 : decode cX1_thing 120 = .ok (.ireturn, 1) := by decide +kernel
theorem dX1_thing_121 : decode cX1_thing 121 = .ok (.iload_n 2, 1) := by decide +kernel
theorem dX1_thing_122 : decode cX1_thing 122 = .ok (.bipush 104, 2) := by decide +kernel
theorem dX1_thing_124 : decode cX1_thing 124 = .ok (.if_icmp .eq 43, 3) := by decide +kernel
theorem dX1_thing_127 : decode cX1_thing 127 = .ok (.iload_n 2, 1) := by decide +kernel
theorem dX1_thing_128 : decode cX1_thing 128 = .ok (.bipush 109, 2) := by decide +kernel
theorem dX1_thing_130 : decode cX1_thing 130 = .ok (.if_icmp .eq 37, 3) := by decide +kernel
theorem dX1_thing_133 : decode cX1_thing 133 = .ok (.iload_n 2, 1) := by decide +kernel
theorem dX1_thing_134 : decode cX1_thing 134 = .ok (.bipush 108, 2) := by decide +kernel
theorem dX1_thing_136 : decode cX1_thing 136 = .ok (.if_icmp .eq 31, 3) := by decide +kernel
theorem dX1_thing_139 : decode cX1_thing 139 = .ok (.iload_n 2, 1) := by decide +kernel
theorem dX1_thing_140 : decode cX1_thing 140 = .ok (.bipush 100, 2) := by decide +kernel
theorem dX1_thing_142 : decode cX1_thing 142 = .ok (.if_icmp .eq 25, 3) := by decide +kernel
theorem dX1_thing_145 : decode cX1_thing 145 = .ok (.iload_n 2, 1) := by decide +kernel
theorem dX1_thing_146 : decode cX1_thing 146 = .ok (.bipush 119, 2) := by decide +kernel
theorem dX1_thing_148 : decode cX1_thing 148 = .ok (.if_icmp .eq 19, 3) := by decide +kernel
theorem dX1_thing_151 : decode cX1_thing 151 = .ok (.aload_n 0, 1) := by decide +kernel
theorem dX1_thing_152 : decode cX1_thing 152 = .ok (.getfield 12, 3) := by decide +kernel
theorem dX1_thing_155 : decode cX1_thing 155 = .ok (.aload_n 0, 1) := by decide +kernel
theorem dX1_thing_156 : decode cX1_thing 156 = .ok (.getfield 12, 3) := by decide +kernel
theorem dX1_thing_159 : decode cX1_thing 159 = .ok (.getfield 133, 3) := by decide +kernel
theorem dX1_thing_162 : decode cX1_thing 162 = .ok (.invokevirtual 144, 3) := by decide +kernel
theorem dX1_thing_165 : decode cX1_thing 165 = .ok (.iconst 0, 1) := by decide +kernel
theorem dX1_thing_166 : decode cX1_thing 166 = .ok (.ireturn, 1) := by decide +kernel
theorem dX1_thing_167 : decode cX1_thing 167 = .ok (.aload_n 0, 1) := by decide +kernel
theorem dX1_thing_168 : decode cX1_thing 168 = .ok (.getfield 12, 3) := by decide +kernel
theorem dX1_thing_171 : decode cX1_thing 171 = .ok (.dup, 1) := by decide +kernel
theorem dX1_thing_172 : decode cX1_thing 172 = .ok (.getfield 133, 3) := by decide +kernel
theorem dX1_thing_175 : decode cX1_thing 175 = .ok (.iconst 1, 1) := by decide +kernel
theorem dX1_thing_176 : decode cX1_thing 176 = .ok (.iadd, 1) := by decide +kernel
theorem dX1_thing_177 : decode cX1_thing 177 = .ok (.putfield 133, 3) := by decide +kernel
theorem dX1_thing_180 : decode cX1_thing 180 = .ok (.aload_n 0, 1) := by decide +kernel
theorem dX1_thing_181 : decode cX1_thing 181 = .ok (.iload_n 2, 1) := by decide +kernel
theorem dX1_thing_182 : decode cX1_thing 182 = .ok (.invokevirtual 147, 3) := by decide +kernel
theorem dX1_thing_185 : decode cX1_thing 185 = .ok (.ireturn, 1) := by decide +kernel
theorem dX1_product_0 : decode cX1_product 0 = .ok (.iconst 1, 1) := by decide +kernel
theorem dX1_product_1 : decode cX1_product 1 = .ok (.istore_n 2, 1) := by decide +kernel
theorem dX1_product_2 : decode cX1_product 2 = .ok (.iconst 0, 1) := by decide +kernel
theorem dX1_product_3 : decode cX1_product 3 = .ok (.istore_n 3, 1) := by decide +kernel
theorem dX1_product_4 : decode cX1_product 4 = .ok (.iload_n 3, 1) := by decide +kernel
theorem dX1_product_5 : decode cX1_product 5 = .ok (.bipush 60, 2) := by decide +kernel
theorem dX1_product_7 : decode cX1_product 7 = .ok (.if_icmp .ge 63, 3) := by decide +kernel
theorem dX1_product_10 : decode cX1_product 10 = .ok (.iconst 0, 1) := by decide +kernel
theorem dX1_product_11 : decode cX1_product 11 = .ok (.istore 4, 2) := by decide +kernel
theorem dX1_product_13 : decode cX1_product 13 = .ok (.iload 4, 2) := by decide +kernel
theorem dX1_product_15 : decode cX1_product 15 = .ok (.bipush 60, 2) := by decide +kernel
theorem dX1_product_17 : decode cX1_product 17 = .ok (.if_icmp .ge 24, 3) := by decide +kernel
theorem dX1_product_20 : decode cX1_product 20 = .ok (.aload_n 0, 1) := by decide +kernel
theorem dX1_product_21 : decode cX1_product 21 = .ok (.getfield 12, 3) := by decide +kernel
theorem dX1_product_24 : decode cX1_product 24 = .ok (.bipush 45, 2) := by decide +kernel
theorem dX1_product_26 : decode cX1_product 26 = .ok (.invokevirtual 55, 3) := by decide +kernel
theorem dX1_product_29 : decode cX1_product 29 = .ok (.ifCond .eq 12, 3) := by decide +kernel
theorem dX1_product_32 : decode cX1_product 32 = .ok (.iload_n 2, 1) := by decide +kernel
theorem dX1_product_33 : decode cX1_product 33 = .ok (.ineg, 1) := by decide +kernel
theorem dX1_product_34 : decode cX1_product 34 = .ok (.istore_n 2, 1) := by decide +kernel
theorem dX1_product_35 : decode cX1_product 35 = .ok (.iinc 4 1, 3) := by decide +kernel
theorem dX1_product_38 : decode cX1_product 38 = .ok (.goto (-25), 3) := by decide +kernel
theorem dX1_product_41 : decode cX1_product 41 = .ok (.iload_n 2, 1) := by decide +kernel
theorem dX1_product_42 : decode cX1_product 42 = .ok (.aload_n 0, 1) := by decide +kernel
theorem dX1_product_43 : decode cX1_product 43 = .ok (.iload_n 1, 1) := by decide +kernel
theorem dX1_product_44 : decode cX1_product 44 = .ok (.invokevirtual 124, 3) := by decide +kernel
theorem dX1_product_47 : decode cX1_product 47 = .ok (.imul, 1) := by decide +kernel
theorem dX1_product_48 : decode cX1_product 48 = .ok (.istore_n 2, 1) := by decide +kernel
theorem dX1_product_49 : decode cX1_product 49 = .ok (.aload_n 0, 1) := by decide +kernel
theorem dX1_product_50 : decode cX1_product 50 = .ok (.getfield 12, 3) := by decide +kernel
theorem dX1_product_53 : decode cX1_product 53 = .ok (.bipush 42, 2) := by decide +kernel
theorem dX1_product_55 : decode cX1_product 55 = .ok (.invokevirtual 55, 3) := by decide +kernel
theorem dX1_product_58 : decode cX1_product 58 = .ok (.ifCond .ne 6, 3) := by decide +kernel
theorem dX1_product_61 : decode cX1_product 61 = .ok (.goto 9, 3) := by decide +kernel
theorem dX1_product_64 : decode cX1_product 64 = .ok (.iinc 3 1, 3) := by decide +kernel
theorem dX1_product_67 : decode cX1_product 67 = .ok (.goto (-63), 3) := by decide +kernel
theorem dX1_product_70 : decode cX1_product 70 = .ok (.iload_n 2, 1) := by decide +kernel
theorem dX1_product_71 : decode cX1_product 71 = .ok (.ireturn, 1) := by decide +kernel
theorem dX1_expression_0 : decode cX1_expression 0 = .ok (.aload_n 0, 1) := by decide +kernel
theorem dX1_expression_1 : decode cX1_expression 1 = .ok (.iload_n 1, 1) := by decide +kernel
theorem dX1_expression_2 : decode cX1_expression 2 = .ok (.invokevirtual 121, 3) := by decide +kernel
theorem dX1_expression_5 : decode cX1_expression 5 = .ok (.istore_n 2, 1) := by decide +kernel
theorem dX1_expression_6 : decode cX1_expression 6 = .ok (.iconst 0, 1) := by decide +kernel
theorem dX1_expression_7 : decode cX1_expression 7 = .ok (.istore_n 3, 1) := by decide +kernel
theorem dX1_expression_8 : decode cX1_expression 8 = .ok (.iload_n 3, 1) := by decide +kernel
theorem dX1_expression_9 : decode cX1_expression 9 = .ok (.bipush 60, 2) := by decide +kernel
theorem dX1_expression_11 : decode cX1_expression 11 = .ok (.if_icmp .ge 52, 3) := by decide +kernel
theorem dX1_expression_14 : decode cX1_expression 14 = .ok (.aload_n 0, 1) := by decide +kernel
theorem dX1_expression_15 : decode cX1_expression 15 = .ok (.getfield 12, 3) := by decide +kernel
theorem dX1_expression_18 : decode cX1_expression 18 = .ok (.bipush 43, 2) := by decide +kernel
theorem dX1_expression_20 : decode cX1_expression 20 = .ok (.invokevirtual 55, 3) := by decide +kernel
theorem dX1_expression_23 : decode cX1_expression 23 = .ok (.ifCond .eq 14, 3) := by decide +kernel
theorem dX1_expression_26 : decode cX1_expression 26 = .ok (.iload_n 2, 1) := by decide +kernel
theorem dX1_expression_27 : decode cX1_expression 27 = .ok (.aload_n 0, 1) := by decide +kernel
theorem dX1_expression_28 : decode cX1_expression 28 = .ok (.iload_n 1, 1) := by decide +kernel
theorem dX1_expression_29 : decode cX1_expression 29 = .ok (.invokevirtual 121, 3) := by decide +kernel
theorem dX1_expression_32 : decode cX1_expression 32 = .ok (.iadd, 1) := by decide +kernel
theorem dX1_expression_33 : decode cX1_expression 33 = .ok (.istore_n 2, 1) := by decide +kernel
theorem dX1_expression_34 : decode cX1_expression 34 = .ok (.goto 23, 3) := by decide +kernel
theorem dX1_expression_37 : decode cX1_expression 37 = .ok (.aload_n 0, 1) := by decide +kernel
theorem dX1_expression_38 : decode cX1_expression 38 = .ok (.getfield 12, 3) := by decide +kernel
theorem dX1_expression_41 : decode cX1_expression 41 = .ok (.bipush 45, 2) := by decide +kernel
theorem dX1_expression_43 : decode cX1_expression 43 = .ok (.invokevirtual 55, 3) := by decide +kernel
theorem dX1_expression_46 : decode cX1_expression 46 = .ok (.ifCond .eq 17, 3) := by decide +kernel
theorem dX1_expression_49 : decode cX1_expression 49 = .ok (.iload_n 2, 1) := by decide +kernel
theorem dX1_expression_50 : decode cX1_expression 50 = .ok (.aload_n 0, 1) := by decide +kernel
theorem dX1_expression_51 : decode cX1_expression 51 = .ok (.iload_n 1, 1) := by decide +kernel
theorem dX1_expression_52 : decode cX1_expression 52 = .ok (.invokevirtual 121, 3) := by decide +kernel
theorem dX1_expression_55 : decode cX1_expression 55 = .ok (.isub, 1) := by decide +kernel
theorem dX1_expression_56 : decode cX1_expression 56 = .ok (.istore_n 2, 1) := by decide +kernel
theorem dX1_expression_57 : decode cX1_expression 57 = .ok (.iinc 3 1, 3) := by decide +kernel
theorem dX1_expression_60 : decode cX1_expression 60 = .ok (.goto (-52), 3) := by decide +kernel
theorem dX1_expression_63 : decode cX1_expression 63 = .ok (.iload_n 2, 1) := by decide +kernel
theorem dX1_expression_64 : decode cX1_expression 64 = .ok (.ireturn, 1) := by decide +kernel
theorem dX1_readLine_0 : decode cX1_readLine 0 = .ok (.aload_n 0, 1) := by decide +kernel
theorem dX1_readLine_1 : decode cX1_readLine 1 = .ok (.getfield 12, 3) := by decide +kernel
theorem dX1_readLine_4 : decode cX1_readLine 4 = .ok (.bipush 16, 2) := by decide +kernel
theorem dX1_readLine_6 : decode cX1_readLine 6 = .ok (.invokevirtual 76, 3) := by decide +kernel
theorem dX1_readLine_9 : decode cX1_readLine 9 = .ok (.pop, 1) := by decide +kernel
theorem dX1_readLine_10 : decode cX1_readLine 10 = .ok (.aload_n 0, 1) := by decide +kernel
theorem dX1_readLine_11 : decode cX1_readLine 11 = .ok (.getfield 12, 3) := by decide +kernel
theorem dX1_readLine_14 : decode cX1_readLine 14 = .ok (.bipush 61, 2) := by decide +kernel
theorem dX1_readLine_16 : decode cX1_readLine 16 = .ok (.invokevirtual 79, 3) := by decide +kernel
theorem dX1_readLine_19 : decode cX1_readLine 19 = .ok (.aload_n 0, 1) := by decide +kernel
theorem dX1_readLine_20 : decode cX1_readLine 20 = .ok (.iconst 0, 1) := by decide +kernel
theorem dX1_readLine_21 : decode cX1_readLine 21 = .ok (.invokevirtual 83, 3) := by decide +kernel
theorem dX1_readLine_24 : decode cX1_readLine 24 = .ok (.pop, 1) := by decide +kernel
theorem dX1_readLine_25 : decode cX1_readLine 25 = .ok (.return_, 1) := by decide +kernel
theorem dX1_markLines_0 : decode cX1_markLines 0 = .ok (.aload_n 0, 1) := by decide +kernel
theorem dX1_markLines_1 : decode cX1_markLines 1 = .ok (.iconst 0, 1) := by decide +kernel
theorem dX1_markLines_2 : decode cX1_markLines 2 = .ok (.putfield 86, 3) := by decide +kernel
theorem dX1_markLines_5 : decode cX1_markLines 5 = .ok (.iconst 1, 1) := by decide +kernel
theorem dX1_markLines_6 : decode cX1_markLines 6 = .ok (.istore_n 1, 1) := by decide +kernel
theorem dX1_markLines_7 : decode cX1_markLines 7 = .ok (.iload_n 1, 1) := by decide +kernel
theorem dX1_markLines_8 : decode cX1_markLines 8 = .ok (.aload_n 0, 1) := by decide +kernel
theorem dX1_markLines_9 : decode cX1_markLines 9 = .ok (.getfield 63, 3) := by decide +kernel
theorem dX1_markLines_12 : decode cX1_markLines 12 = .ok (.if_icmp .ge 111, 3) := by decide +kernel
theorem dX1_markLines_15 : decode cX1_markLines 15 = .ok (.aload_n 0, 1) := by decide +kernel
theorem dX1_markLines_16 : decode cX1_markLines 16 = .ok (.getfield 18, 3) := by decide +kernel
theorem dX1_markLines_19 : decode cX1_markLines 19 = .ok (.iload_n 1, 1) := by decide +kernel
theorem dX1_markLines_20 : decode cX1_markLines 20 = .ok (.iaload, 1) := by decide +kernel
theorem dX1_markLines_21 : decode cX1_markLines 21 = .ok (.bipush 61, 2) := by decide +kernel
theorem dX1_markLines_23 : decode cX1_markLines 23 = .ok (.if_icmp .ne 94, 3) := by decide +kernel
theorem dX1_markLines_26 : decode cX1_markLines 26 = .ok (.aload_n 0, 1) := by decide +kernel
theorem dX1_markLines_27 : decode cX1_markLines 27 = .ok (.getfield 86, 3) := by decide +kernel
theorem dX1_markLines_30 : decode cX1_markLines 30 = .ok (.bipush 15, 2) := by decide +kernel
theorem dX1_markLines_32 : decode cX1_markLines 32 = .ok (.if_icmp .ge 85, 3) := by decide +kernel
theorem dX1_markLines_35 : decode cX1_markLines 35 = .ok (.iload_n 1, 1) := by decide +kernel
theorem dX1_markLines_36 : decode cX1_markLines 36 = .ok (.iconst 2, 1) := by decide +kernel
theorem dX1_markLines_37 : decode cX1_markLines 37 = .ok (.if_icmp .lt 31, 3) := by decide +kernel
theorem dX1_markLines_40 : decode cX1_markLines 40 = .ok (.aload_n 0, 1) := by decide +kernel
theorem dX1_markLines_41 : decode cX1_markLines 41 = .ok (.getfield 18, 3) := by decide +kernel
theorem dX1_markLines_44 : decode cX1_markLines 44 = .ok (.iload_n 1, 1) := by decide +kernel
theorem dX1_markLines_45 : decode cX1_markLines 45 = .ok (.iconst 2, 1) := by decide +kernel
theorem dX1_markLines_46 : decode cX1_markLines 46 = .ok (.isub, 1) := by decide +kernel
theorem dX1_markLines_47 : decode cX1_markLines 47 = .ok (.iaload, 1) := by decide +kernel
theorem dX1_markLines_48 : decode cX1_markLines 48 = .ok (.invokestatic 89, 3) := by decide +kernel
theorem dX1_markLines_51 : decode cX1_markLines 51 = .ok (.ifCond .eq 17, 3) := by decide +kernel
theorem dX1_markLines_54 : decode cX1_markLines 54 = .ok (.aload_n 0, 1) := by decide +kernel
theorem dX1_markLines_55 : decode cX1_markLines 55 = .ok (.getfield 18, 3) := by decide +kernel
theorem dX1_markLines_58 : decode cX1_markLines 58 = .ok (.iload_n 1, 1) := by decide +kernel
theorem dX1_markLines_59 : decode cX1_markLines 59 = .ok (.iconst 2, 1) := by decide +kernel
theorem dX1_markLines_60 : decode cX1_markLines 60 = .ok (.isub, 1) := by decide +kernel
theorem dX1_markLines_61 : decode cX1_markLines 61 = .ok (.iaload, 1) := by decide +kernel
theorem dX1_markLines_62 : decode cX1_markLines 62 = .ok (.bipush 48, 2) := by decide +kernel
theorem dX1_markLines_64 : decode cX1_markLines 64 = .ok (.isub, 1) := by decide +kernel
theorem dX1_markLines_65 : decode cX1_markLines 65 = .ok (.goto 4, 3) := by decide +kernel
theorem dX1_markLines_68 : decode cX1_markLines 68 = .ok (.iconst 0, 1) := by decide +kernel
theorem dX1_markLines_69 : decode cX1_markLines 69 = .ok (.istore_n 2, 1) := by decide +kernel
theorem dX1_markLines_70 : decode cX1_markLines 70 = .ok (.aload_n 0, 1) := by decide +kernel
theorem dX1_markLines_71 : decode cX1_markLines 71 = .ok (.getfield 22, 3) := by decide +kernel
theorem dX1_markLines_74 : decode cX1_markLines 74 = .ok (.aload_n 0, 1) := by decide +kernel
theorem dX1_markLines_75 : decode cX1_markLines 75 = .ok (.getfield 86, 3) := by decide +kernel
theorem dX1_markLines_78 : decode cX1_markLines 78 = .ok (.iload_n 2, 1) := by decide +kernel
theorem dX1_markLines_79 : decode cX1_markLines 79 = .ok (.bipush 10, 2) := by decide +kernel
theorem dX1_markLines_81 : decode cX1_markLines 81 = .ok (.imul, 1) := by decide +kernel
theorem dX1_markLines_82 : decode cX1_markLines 82 = .ok (.aload_n 0, 1) := by decide +kernel
theorem dX1_markLines_83 : decode cX1_markLines 83 = .ok (.getfield 18, 3) := by decide +kernel
theorem dX1_markLines_86 : decode cX1_markLines 86 = .ok (.iload_n 1, 1) := by decide +kernel
theorem dX1_markLines_87 : decode cX1_markLines 87 = .ok (.iconst 1, 1) := by decide +kernel
theorem dX1_markLines_88 : decode cX1_markLines 88 = .ok (.isub, 1) := by decide +kernel
theorem dX1_markLines_89 : decode cX1_markLines 89 = .ok (.iaload, 1) := by decide +kernel
theorem dX1_markLines_90 : decode cX1_markLines 90 = .ok (.iadd, 1) := by decide +kernel
theorem dX1_markLines_91 : decode cX1_markLines 91 = .ok (.bipush 48, 2) := by decide +kernel
theorem dX1_markLines_93 : decode cX1_markLines 93 = .ok (.isub, 1) := by decide +kernel
theorem dX1_markLines_94 : decode cX1_markLines 94 = .ok (.iastore, 1) := by decide +kernel
theorem dX1_markLines_95 : decode cX1_markLines 95 = .ok (.aload_n 0, 1) := by decide +kernel
theorem dX1_markLines_96 : decode cX1_markLines 96 = .ok (.getfield 25, 3) := by decide +kernel
theorem dX1_markLines_99 : decode cX1_markLines 99 = .ok (.aload_n 0, 1) := by decide +kernel
theorem dX1_markLines_100 : decode cX1_markLines 100 = .ok (.getfield 86, 3) := by decide +kernel
theorem dX1_markLines_103 : decode cX1_markLines 103 = .ok (.iload_n 1, 1) := by decide +kernel
theorem dX1_markLines_104 : decode cX1_markLines 104 = .ok (.iconst 1, 1) := by decide +kernel
theorem dX1_markLines_105 : decode cX1_markLines 105 = .ok (.iadd, 1) := by decide +kernel
theorem dX1_markLines_106 : decode cX1_markLines 106 = .ok (.iastore, 1) := by decide +kernel
theorem dX1_markLines_107 : decode cX1_markLines 107 = .ok (.aload_n 0, 1) := by decide +kernel
theorem dX1_markLines_108 : decode cX1_markLines 108 = .ok (.dup, 1) := by decide +kernel
theorem dX1_markLines_109 : decode cX1_markLines 109 = .ok (.getfield 86, 3) := by decide +kernel
theorem dX1_markLines_112 : decode cX1_markLines 112 = .ok (.iconst 1, 1) := by decide +kernel
theorem dX1_markLines_113 : decode cX1_markLines 113 = .ok (.iadd, 1) := by decide +kernel
theorem dX1_markLines_114 : decode cX1_markLines 114 = .ok (.putfield 86, 3) := by decide +kernel
theorem dX1_markLines_117 : decode cX1_markLines 117 = .ok (.iinc 1 1, 3) := by decide +kernel
theorem dX1_markLines_120 : decode cX1_markLines 120 = .ok (.goto (-113), 3) := by decide +kernel
theorem dX1_markLines_123 : decode cX1_markLines 123 = .ok (.return_, 1) := by decide +kernel
theorem dX1_read_0 : decode cX1_read 0 = .ok (.aload_n 0, 1) := by decide +kernel
theorem dX1_read_1 : decode cX1_read 1 = .ok (.getfield 12, 3) := by decide +kernel
theorem dX1_read_4 : decode cX1_read 4 = .ok (.aload_n 1, 1) := by decide +kernel
theorem dX1_read_5 : decode cX1_read 5 = .ok (.iconst 0, 1) := by decide +kernel
theorem dX1_read_6 : decode cX1_read 6 = .ok (.iload_n 2, 1) := by decide +kernel
theorem dX1_read_7 : decode cX1_read 7 = .ok (.bipush 60, 2) := by decide +kernel
theorem dX1_read_9 : decode cX1_read 9 = .ok (.invokestatic 42, 3) := by decide +kernel
theorem dX1_read_12 : decode cX1_read 12 = .ok (.invokevirtual 48, 3) := by decide +kernel
theorem dX1_read_15 : decode cX1_read 15 = .ok (.iload_n 2, 1) := by decide +kernel
theorem dX1_read_16 : decode cX1_read 16 = .ok (.ifCond .le 7, 3) := by decide +kernel
theorem dX1_read_19 : decode cX1_read 19 = .ok (.aload_n 0, 1) := by decide +kernel
theorem dX1_read_20 : decode cX1_read 20 = .ok (.invokevirtual 52, 3) := by decide +kernel
theorem dX1_read_23 : decode cX1_read 23 = .ok (.iconst 0, 1) := by decide +kernel
theorem dX1_read_24 : decode cX1_read 24 = .ok (.istore_n 3, 1) := by decide +kernel
theorem dX1_read_25 : decode cX1_read 25 = .ok (.iload_n 3, 1) := by decide +kernel
theorem dX1_read_26 : decode cX1_read 26 = .ok (.bipush 60, 2) := by decide +kernel
theorem dX1_read_28 : decode cX1_read 28 = .ok (.if_icmp .ge 25, 3) := by decide +kernel
theorem dX1_read_31 : decode cX1_read 31 = .ok (.aload_n 0, 1) := by decide +kernel
theorem dX1_read_32 : decode cX1_read 32 = .ok (.getfield 12, 3) := by decide +kernel
theorem dX1_read_35 : decode cX1_read 35 = .ok (.bipush 59, 2) := by decide +kernel
theorem dX1_read_37 : decode cX1_read 37 = .ok (.invokevirtual 55, 3) := by decide +kernel
theorem dX1_read_40 : decode cX1_read 40 = .ok (.ifCond .eq 13, 3) := by decide +kernel
theorem dX1_read_43 : decode cX1_read 43 = .ok (.aload_n 0, 1) := by decide +kernel
theorem dX1_read_44 : decode cX1_read 44 = .ok (.invokevirtual 52, 3) := by decide +kernel
theorem dX1_read_47 : decode cX1_read 47 = .ok (.iinc 3 1, 3) := by decide +kernel
theorem dX1_read_50 : decode cX1_read 50 = .ok (.goto (-25), 3) := by decide +kernel
theorem dX1_read_53 : decode cX1_read 53 = .ok (.aload_n 0, 1) := by decide +kernel
theorem dX1_read_54 : decode cX1_read 54 = .ok (.getfield 12, 3) := by decide +kernel
theorem dX1_read_57 : decode cX1_read 57 = .ok (.iload_n 2, 1) := by decide +kernel
theorem dX1_read_58 : decode cX1_read 58 = .ok (.invokevirtual 59, 3) := by decide +kernel
theorem dX1_read_61 : decode cX1_read 61 = .ok (.istore_n 3, 1) := by decide +kernel
theorem dX1_read_62 : decode cX1_read 62 = .ok (.iload_n 3, 1) := by decide +kernel
theorem dX1_read_63 : decode cX1_read 63 = .ok (.iconst (-1), 1) := by decide +kernel
theorem dX1_read_64 : decode cX1_read 64 = .ok (.if_icmp .ne 26, 3) := by decide +kernel
theorem dX1_read_67 : decode cX1_read 67 = .ok (.aload_n 0, 1) := by decide +kernel
theorem dX1_read_68 : decode cX1_read 68 = .ok (.iload_n 2, 1) := by decide +kernel
theorem dX1_read_69 : decode cX1_read 69 = .ok (.putfield 63, 3) := by decide +kernel
theorem dX1_read_72 : decode cX1_read 72 = .ok (.aload_n 1, 1) := by decide +kernel
theorem dX1_read_73 : decode cX1_read 73 = .ok (.iconst 0, 1) := by decide +kernel
theorem dX1_read_74 : decode cX1_read 74 = .ok (.aload_n 0, 1) := by decide +kernel
theorem dX1_read_75 : decode cX1_read 75 = .ok (.getfield 18, 3) := by decide +kernel
theorem dX1_read_78 : decode cX1_read 78 = .ok (.iconst 0, 1) := by decide +kernel
theorem dX1_read_79 : decode cX1_read 79 = .ok (.aload_n 0, 1) := by decide +kernel
theorem dX1_read_80 : decode cX1_read 80 = .ok (.getfield 63, 3) := by decide +kernel
theorem dX1_read_83 : decode cX1_read 83 = .ok (.invokestatic 67, 3) := by decide +kernel
theorem dX1_read_86 : decode cX1_read 86 = .ok (.aload_n 0, 1) := by decide +kernel
theorem dX1_read_87 : decode cX1_read 87 = .ok (.invokevirtual 73, 3) := by decide +kernel
theorem dX1_read_90 : decode cX1_read 90 = .ok (.iload_n 3, 1) := by decide +kernel
theorem dX1_read_91 : decode cX1_read 91 = .ok (.ireturn, 1) := by decide +kernel
theorem dX1_valueOf_0 : decode cX1_valueOf 0 = .ok (.aload_n 0, 1) := by decide +kernel
theorem dX1_valueOf_1 : decode cX1_valueOf 1 = .ok (.aload_n 0, 1) := by decide +kernel
theorem dX1_valueOf_2 : decode cX1_valueOf 2 = .ok (.getfield 31, 3) := by decide +kernel
theorem dX1_valueOf_5 : decode cX1_valueOf 5 = .ok (.iconst 0, 1) := by decide +kernel
theorem dX1_valueOf_6 : decode cX1_valueOf 6 = .ok (.invokevirtual 92, 3) := by decide +kernel
theorem dX1_valueOf_9 : decode cX1_valueOf 9 = .ok (.putfield 95, 3) := by decide +kernel
theorem dX1_valueOf_12 : decode cX1_valueOf 12 = .ok (.aload_n 0, 1) := by decide +kernel
theorem dX1_valueOf_13 : decode cX1_valueOf 13 = .ok (.aload_n 0, 1) := by decide +kernel
theorem dX1_valueOf_14 : decode cX1_valueOf 14 = .ok (.getfield 31, 3) := by decide +kernel
theorem dX1_valueOf_17 : decode cX1_valueOf 17 = .ok (.invokevirtual 98, 3) := by decide +kernel
theorem dX1_valueOf_20 : decode cX1_valueOf 20 = .ok (.putfield 102, 3) := by decide +kernel
theorem dX1_valueOf_23 : decode cX1_valueOf 23 = .ok (.aload_n 0, 1) := by decide +kernel
theorem dX1_valueOf_24 : decode cX1_valueOf 24 = .ok (.aload_n 0, 1) := by decide +kernel
theorem dX1_valueOf_25 : decode cX1_valueOf 25 = .ok (.getfield 31, 3) := by decide +kernel
theorem dX1_valueOf_28 : decode cX1_valueOf 28 = .ok (.invokevirtual 104, 3) := by decide +kernel
theorem dX1_valueOf_31 : decode cX1_valueOf 31 = .ok (.putfield 107, 3) := by decide +kernel
theorem dX1_valueOf_34 : decode cX1_valueOf 34 = .ok (.aload_n 0, 1) := by decide +kernel
theorem dX1_valueOf_35 : decode cX1_valueOf 35 = .ok (.aload_n 0, 1) := by decide +kernel
theorem dX1_valueOf_36 : decode cX1_valueOf 36 = .ok (.getfield 31, 3) := by decide +kernel
theorem dX1_valueOf_39 : decode cX1_valueOf 39 = .ok (.getfield 109, 3) := by decide +kernel
theorem dX1_valueOf_42 : decode cX1_valueOf 42 = .ok (.iconst 0, 1) := by decide +kernel
theorem dX1_valueOf_43 : decode cX1_valueOf 43 = .ok (.invokevirtual 113, 3) := by decide +kernel
theorem dX1_valueOf_46 : decode cX1_valueOf 46 = .ok (.putfield 118, 3) := by decide +kernel
theorem dX1_valueOf_49 : decode cX1_valueOf 49 = .ok (.aload_n 0, 1) := by decide +kernel
theorem dX1_valueOf_50 : decode cX1_valueOf 50 = .ok (.getfield 12, 3) := by decide +kernel
theorem dX1_valueOf_53 : decode cX1_valueOf 53 = .ok (.aload_n 0, 1) := by decide +kernel
theorem dX1_valueOf_54 : decode cX1_valueOf 54 = .ok (.getfield 18, 3) := by decide +kernel
theorem dX1_valueOf_57 : decode cX1_valueOf 57 = .ok (.aload_n 0, 1) := by decide +kernel
theorem dX1_valueOf_58 : decode cX1_valueOf 58 = .ok (.getfield 25, 3) := by decide +kernel
theorem dX1_valueOf_61 : decode cX1_valueOf 61 = .ok (.iload_n 1, 1) := by decide +kernel
theorem dX1_valueOf_62 : decode cX1_valueOf 62 = .ok (.iaload, 1) := by decide +kernel
theorem dX1_valueOf_63 : decode cX1_valueOf 63 = .ok (.aload_n 0, 1) := by decide +kernel
theorem dX1_valueOf_64 : decode cX1_valueOf 64 = .ok (.getfield 63, 3) := by decide +kernel
theorem dX1_valueOf_67 : decode cX1_valueOf 67 = .ok (.invokevirtual 48, 3) := by decide +kernel
theorem dX1_valueOf_70 : decode cX1_valueOf 70 = .ok (.aload_n 0, 1) := by decide +kernel
theorem dX1_valueOf_71 : decode cX1_valueOf 71 = .ok (.iconst 0, 1) := by decide +kernel
theorem dX1_valueOf_72 : decode cX1_valueOf 72 = .ok (.invokevirtual 83, 3) := by decide +kernel
theorem dX1_valueOf_75 : decode cX1_valueOf 75 = .ok (.ireturn, 1) := by decide +kernel
theorem dX1_doMorning_0 : decode cX1_doMorning 0 = .ok (.iconst 0, 1) := by decide +kernel
theorem dX1_doMorning_1 : decode cX1_doMorning 1 = .ok (.istore_n 1, 1) := by decide +kernel
theorem dX1_doMorning_2 : decode cX1_doMorning 2 = .ok (.aload_n 0, 1) := by decide +kernel
theorem dX1_doMorning_3 : decode cX1_doMorning 3 = .ok (.iconst 0, 1) := by decide +kernel
theorem dX1_doMorning_4 : decode cX1_doMorning 4 = .ok (.putfield 153, 3) := by decide +kernel
theorem dX1_doMorning_7 : decode cX1_doMorning 7 = .ok (.aload_n 0, 1) := by decide +kernel
theorem dX1_doMorning_8 : decode cX1_doMorning 8 = .ok (.iconst 0, 1) := by decide +kernel
theorem dX1_doMorning_9 : decode cX1_doMorning 9 = .ok (.putfield 156, 3) := by decide +kernel
theorem dX1_doMorning_12 : decode cX1_doMorning 12 = .ok (.iconst 0, 1) := by decide +kernel
theorem dX1_doMorning_13 : decode cX1_doMorning 13 = .ok (.istore_n 2, 1) := by decide +kernel
theorem dX1_doMorning_14 : decode cX1_doMorning 14 = .ok (.iload_n 2, 1) := by decide +kernel
theorem dX1_doMorning_15 : decode cX1_doMorning 15 = .ok (.aload_n 0, 1) := by decide +kernel
theorem dX1_doMorning_16 : decode cX1_doMorning 16 = .ok (.getfield 86, 3) := by decide +kernel
theorem dX1_doMorning_19 : decode cX1_doMorning 19 = .ok (.if_icmp .ge 124, 3) := by decide +kernel
theorem dX1_doMorning_22 : decode cX1_doMorning 22 = .ok (.aload_n 0, 1) := by decide +kernel
theorem dX1_doMorning_23 : decode cX1_doMorning 23 = .ok (.getfield 22, 3) := by decide +kernel
theorem dX1_doMorning_26 : decode cX1_doMorning 26 = .ok (.iload_n 2, 1) := by decide +kernel
theorem dX1_doMorning_27 : decode cX1_doMorning 27 = .ok (.iaload, 1) := by decide +kernel
theorem dX1_doMorning_28 : decode cX1_doMorning 28 = .ok (.istore_n 3, 1) := by decide +kernel
theorem dX1_doMorning_29 : decode cX1_doMorning 29 = .ok (.aload_n 0, 1) := by decide +kernel
theorem dX1_doMorning_30 : decode cX1_doMorning 30 = .ok (.getfield 28, 3) := by decide +kernel
theorem dX1_doMorning_33 : decode cX1_doMorning 33 = .ok (.iload_n 2, 1) := by decide +kernel
theorem dX1_doMorning_34 : decode cX1_doMorning 34 = .ok (.iconst (-1), 1) := by decide +kernel
theorem dX1_doMorning_35 : decode cX1_doMorning 35 = .ok (.iastore, 1) := by decide +kernel
theorem dX1_doMorning_36 : decode cX1_doMorning 36 = .ok (.aload_n 0, 1) := by decide +kernel
theorem dX1_doMorning_37 : decode cX1_doMorning 37 = .ok (.getfield 41, 3) := by decide +kernel
theorem dX1_doMorning_40 : decode cX1_doMorning 40 = .ok (.iload_n 3, 1) := by decide +kernel
theorem dX1_doMorning_41 : decode cX1_doMorning 41 = .ok (.iconst 0, 1) := by decide +kernel
theorem dX1_doMorning_42 : decode cX1_doMorning 42 = .ok (.invokevirtual 159, 3) := by decide +kernel
theorem dX1_doMorning_45 : decode cX1_doMorning 45 = .ok (.ifCond .eq 92, 3) := by decide +kernel
theorem dX1_doMorning_48 : decode cX1_doMorning 48 = .ok (.aload_n 0, 1) := by decide +kernel
theorem dX1_doMorning_49 : decode cX1_doMorning 49 = .ok (.getfield 28, 3) := by decide +kernel
theorem dX1_doMorning_52 : decode cX1_doMorning 52 = .ok (.iload_n 2, 1) := by decide +kernel
theorem dX1_doMorning_53 : decode cX1_doMorning 53 = .ok (.aload_n 0, 1) := by decide +kernel
theorem dX1_doMorning_54 : decode cX1_doMorning 54 = .ok (.getfield 41, 3) := by decide +kernel
theorem dX1_doMorning_57 : decode cX1_doMorning 57 = .ok (.getfield 141, 3) := by decide +kernel
theorem dX1_doMorning_60 : decode cX1_doMorning 60 = .ok (.iload_n 3, 1) := by decide +kernel
theorem dX1_doMorning_61 : decode cX1_doMorning 61 = .ok (.iaload, 1) := by decide +kernel
theorem dX1_doMorning_62 : decode cX1_doMorning 62 = .ok (.iastore, 1) := by decide +kernel
theorem dX1_doMorning_63 : decode cX1_doMorning 63 = .ok (.aload_n 0, 1) := by decide +kernel
theorem dX1_doMorning_64 : decode cX1_doMorning 64 = .ok (.getfield 41, 3) := by decide +kernel
theorem dX1_doMorning_67 : decode cX1_doMorning 67 = .ok (.iload_n 3, 1) := by decide +kernel
theorem dX1_doMorning_68 : decode cX1_doMorning 68 = .ok (.aload_n 0, 1) := by decide +kernel
theorem dX1_doMorning_69 : decode cX1_doMorning 69 = .ok (.iload_n 2, 1) := by decide +kernel
theorem dX1_doMorning_70 : decode cX1_doMorning 70 = .ok (.invokevirtual 163, 3) := by decide +kernel
theorem dX1_doMorning_73 : decode cX1_doMorning 73 = .ok (.invokevirtual 166, 3) := by decide +kernel
theorem dX1_doMorning_76 : decode cX1_doMorning 76 = .ok (.aload_n 0, 1) := by decide +kernel
theorem dX1_doMorning_77 : decode cX1_doMorning 77 = .ok (.dup, 1) := by decide +kernel
theorem dX1_doMorning_78 : decode cX1_doMorning 78 = .ok (.getfield 153, 3) := by decide +kernel
theorem dX1_doMorning_81 : decode cX1_doMorning 81 = .ok (.iconst 0, 1) := by decide +kernel
theorem dX1_doMorning_82 : decode cX1_doMorning 82 = .ok (.aload_n 0, 1) := by decide +kernel
theorem dX1_doMorning_83 : decode cX1_doMorning 83 = .ok (.getfield 41, 3) := by decide +kernel
theorem dX1_doMorning_86 : decode cX1_doMorning 86 = .ok (.getfield 141, 3) := by decide +kernel
theorem dX1_doMorning_89 : decode cX1_doMorning 89 = .ok (.iload_n 3, 1) := by decide +kernel
theorem dX1_doMorning_90 : decode cX1_doMorning 90 = .ok (.iaload, 1) := by decide +kernel
theorem dX1_doMorning_91 : decode cX1_doMorning 91 = .ok (.aload_n 0, 1) := by decide +kernel
theorem dX1_doMorning_92 : decode cX1_doMorning 92 = .ok (.getfield 28, 3) := by decide +kernel
theorem dX1_doMorning_95 : decode cX1_doMorning 95 = .ok (.iload_n 2, 1) := by decide +kernel
theorem dX1_doMorning_96 : decode cX1_doMorning 96 = .ok (.iaload, 1) := by decide +kernel
theorem dX1_doMorning_97 : decode cX1_doMorning 97 = .ok (.isub, 1) := by decide +kernel
theorem dX1_doMorning_98 : decode cX1_doMorning 98 = .ok (.invokestatic 170, 3) := by decide +kernel
theorem dX1_doMorning_101 : decode cX1_doMorning 101 = .ok (.iadd, 1) := by decide +kernel
theorem dX1_doMorning_102 : decode cX1_doMorning 102 = .ok (.putfield 153, 3) := by decide +kernel
theorem dX1_doMorning_105 : decode cX1_doMorning 105 = .ok (.aload_n 0, 1) := by decide +kernel
theorem dX1_doMorning_106 : decode cX1_doMorning 106 = .ok (.dup, 1) := by decide +kernel
theorem dX1_doMorning_107 : decode cX1_doMorning 107 = .ok (.getfield 156, 3) := by decide +kernel
theorem dX1_doMorning_110 : decode cX1_doMorning 110 = .ok (.iconst 0, 1) := by decide +kernel
theorem dX1_doMorning_111 : decode cX1_doMorning 111 = .ok (.aload_n 0, 1) := by decide +kernel
theorem dX1_doMorning_112 : decode cX1_doMorning 112 = .ok (.getfield 28, 3) := by decide +kernel
theorem dX1_doMorning_115 : decode cX1_doMorning 115 = .ok (.iload_n 2, 1) := by decide +kernel
theorem dX1_doMorning_116 : decode cX1_doMorning 116 = .ok (.iaload, 1) := by decide +kernel
theorem dX1_doMorning_117 : decode cX1_doMorning 117 = .ok (.aload_n 0, 1) := by decide +kernel
theorem dX1_doMorning_118 : decode cX1_doMorning 118 = .ok (.getfield 41, 3) := by decide +kernel
theorem dX1_doMorning_121 : decode cX1_doMorning 121 = .ok (.getfield 141, 3) := by decide +kernel
theorem dX1_doMorning_124 : decode cX1_doMorning 124 = .ok (.iload_n 3, 1) := by decide +kernel
theorem dX1_doMorning_125 : decode cX1_doMorning 125 = .ok (.iaload, 1) := by decide +kernel
theorem dX1_doMorning_126 : decode cX1_doMorning 126 = .ok (.isub, 1) := by decide +kernel
theorem dX1_doMorning_127 : decode cX1_doMorning 127 = .ok (.invokestatic 170, 3) := by decide +kernel
theorem dX1_doMorning_130 : decode cX1_doMorning 130 = .ok (.iadd, 1) := by decide +kernel
theorem dX1_doMorning_131 : decode cX1_doMorning 131 = .ok (.putfield 156, 3) := by decide +kernel
theorem dX1_doMorning_134 : decode cX1_doMorning 134 = .ok (.iinc 1 1, 3) := by decide +kernel
theorem dX1_doMorning_137 : decode cX1_doMorning 137 = .ok (.iinc 2 1, 3) := by decide +kernel
theorem dX1_doMorning_140 : decode cX1_doMorning 140 = .ok (.goto (-126), 3) := by decide +kernel
theorem dX1_doMorning_143 : decode cX1_doMorning 143 = .ok (.iload_n 1, 1) := by decide +kernel
theorem dX1_doMorning_144 : decode cX1_doMorning 144 = .ok (.ireturn, 1) := by decide +kernel
noncomputable def fX1_letter (p1 : Int32) (h : HS) : Option (Int32 × HS) := if p1 = (100 : Int32) then (some ((gI h 1 7), h)) else (if p1 = (101 : Int32) then (some ((gI h 5 14), h)) else (if p1 = (102 : Int32) then (some ((gI h 5 14), h)) else (if p1 = (103 : Int32) then (some ((gI h 5 14), h)) else (if p1 = (104 : Int32) then (some ((gI h 5 11), h)) else (if p1 = (105 : Int32) then (some ((gI h 5 14), h)) else (if p1 = (106 : Int32) then (some ((gI h 5 14), h)) else (if p1 = (107 : Int32) then (some ((gI h 5 14), h)) else (if p1 = (108 : Int32) then (some ((gI h 5 13), h)) else (if p1 = (109 : Int32) then (some ((gI h 5 12), h)) else (some ((gI h 5 14), h)))))))))))
set_option maxRecDepth 100000 in
theorem tX1_letter {p1 : Int32} {r : Int32} {h h0 : HS} (H : fX1_letter p1 h = some (r, h0)) : Cn skC yX1_letter cX1_letter 2 (some .int) 0 [.ref 5, .int p1] h (some (.int r)) h0 := by
  refine Cn_of (L := [some (.ref 5), some (.int p1)]) (by decide +kernel) (by simp [lg_sl, Value.category]) (fun ad => by simp [lg_sl, tv, Value.category]) (⟨rfl, ⟨rfl, trivial⟩⟩) ?_
  unfold fX1_letter at H
  refine j_iload_n (pc := 0) dX1_letter_0 rfl ?_
  by_cases c1 : p1 = 100
  · rw [if_pos c1] at H
    refine j_tableIn (pc := 1) (tgt := 71) dX1_letter_1 (by rw [c1]; decide) (by rw [c1]; decide) (by rw [c1]; rfl) (by decide) ?_
    refine j_aload_n (pc := 71) dX1_letter_71 rfl ?_
    refine j_getR (pc := 72) (b := 1) dX1_letter_72 flX1_31 rfl ?_
    refine j_getI (pc := 75) dX1_letter_75 flX1_150 rfl ?_
    exact j_ireturn (pc := 78) dX1_letter_78 rfl (ri_1 H) (ri_2 H)
  · rw [if_neg c1] at H
    by_cases c2 : p1 = 101
    · rw [if_pos c2] at H
      refine j_tableIn (pc := 1) (tgt := 79) dX1_letter_1 (by rw [c2]; decide) (by rw [c2]; decide) (by rw [c2]; rfl) (by decide) ?_
      refine j_aload_n (pc := 79) dX1_letter_79 rfl ?_
      refine j_getI (pc := 80) dX1_letter_80 flX1_118 rfl ?_
      exact j_ireturn (pc := 83) dX1_letter_83 rfl (ri_1 H) (ri_2 H)
    · rw [if_neg c2] at H
      by_cases c3 : p1 = 102
      · rw [if_pos c3] at H
        refine j_tableIn (pc := 1) (tgt := 79) dX1_letter_1 (by rw [c3]; decide) (by rw [c3]; decide) (by rw [c3]; rfl) (by decide) ?_
        refine j_aload_n (pc := 79) dX1_letter_79 rfl ?_
        refine j_getI (pc := 80) dX1_letter_80 flX1_118 rfl ?_
        exact j_ireturn (pc := 83) dX1_letter_83 rfl (ri_1 H) (ri_2 H)
      · rw [if_neg c3] at H
        by_cases c4 : p1 = 103
        · rw [if_pos c4] at H
          refine j_tableIn (pc := 1) (tgt := 79) dX1_letter_1 (by rw [c4]; decide) (by rw [c4]; decide) (by rw [c4]; rfl) (by decide) ?_
          refine j_aload_n (pc := 79) dX1_letter_79 rfl ?_
          refine j_getI (pc := 80) dX1_letter_80 flX1_118 rfl ?_
          exact j_ireturn (pc := 83) dX1_letter_83 rfl (ri_1 H) (ri_2 H)
        · rw [if_neg c4] at H
          by_cases c5 : p1 = 104
          · rw [if_pos c5] at H
            refine j_tableIn (pc := 1) (tgt := 56) dX1_letter_1 (by rw [c5]; decide) (by rw [c5]; decide) (by rw [c5]; rfl) (by decide) ?_
            refine j_aload_n (pc := 56) dX1_letter_56 rfl ?_
            refine j_getI (pc := 57) dX1_letter_57 flX1_95 rfl ?_
            exact j_ireturn (pc := 60) dX1_letter_60 rfl (ri_1 H) (ri_2 H)
          · rw [if_neg c5] at H
            by_cases c6 : p1 = 105
            · rw [if_pos c6] at H
              refine j_tableIn (pc := 1) (tgt := 79) dX1_letter_1 (by rw [c6]; decide) (by rw [c6]; decide) (by rw [c6]; rfl) (by decide) ?_
              refine j_aload_n (pc := 79) dX1_letter_79 rfl ?_
              refine j_getI (pc := 80) dX1_letter_80 flX1_118 rfl ?_
              exact j_ireturn (pc := 83) dX1_letter_83 rfl (ri_1 H) (ri_2 H)
            · rw [if_neg c6] at H
              by_cases c7 : p1 = 106
              · rw [if_pos c7] at H
                refine j_tableIn (pc := 1) (tgt := 79) dX1_letter_1 (by rw [c7]; decide) (by rw [c7]; decide) (by rw [c7]; rfl) (by decide) ?_
                refine j_aload_n (pc := 79) dX1_letter_79 rfl ?_
                refine j_getI (pc := 80) dX1_letter_80 flX1_118 rfl ?_
                exact j_ireturn (pc := 83) dX1_letter_83 rfl (ri_1 H) (ri_2 H)
              · rw [if_neg c7] at H
                by_cases c8 : p1 = 107
                · rw [if_pos c8] at H
                  refine j_tableIn (pc := 1) (tgt := 79) dX1_letter_1 (by rw [c8]; decide) (by rw [c8]; decide) (by rw [c8]; rfl) (by decide) ?_
                  refine j_aload_n (pc := 79) dX1_letter_79 rfl ?_
                  refine j_getI (pc := 80) dX1_letter_80 flX1_118 rfl ?_
                  exact j_ireturn (pc := 83) dX1_letter_83 rfl (ri_1 H) (ri_2 H)
                · rw [if_neg c8] at H
                  by_cases c9 : p1 = 108
                  · rw [if_pos c9] at H
                    refine j_tableIn (pc := 1) (tgt := 66) dX1_letter_1 (by rw [c9]; decide) (by rw [c9]; decide) (by rw [c9]; rfl) (by decide) ?_
                    refine j_aload_n (pc := 66) dX1_letter_66 rfl ?_
                    refine j_getI (pc := 67) dX1_letter_67 flX1_107 rfl ?_
                    exact j_ireturn (pc := 70) dX1_letter_70 rfl (ri_1 H) (ri_2 H)
                  · rw [if_neg c9] at H
                    by_cases c10 : p1 = 109
                    · rw [if_pos c10] at H
                      refine j_tableIn (pc := 1) (tgt := 61) dX1_letter_1 (by rw [c10]; decide) (by rw [c10]; decide) (by rw [c10]; rfl) (by decide) ?_
                      refine j_aload_n (pc := 61) dX1_letter_61 rfl ?_
                      refine j_getI (pc := 62) dX1_letter_62 flX1_102 rfl ?_
                      exact j_ireturn (pc := 65) dX1_letter_65 rfl (ri_1 H) (ri_2 H)
                    · rw [if_neg c10] at H
                      refine j_tableOut (pc := 1) (tgt := 79) dX1_letter_1 (tb_out (fun k k1 k2 => ?_)) (by decide) ?_
                      · have hk : k = 100 ∨ k = 101 ∨ k = 102 ∨ k = 103 ∨ k = 104 ∨ k = 105 ∨ k = 106 ∨ k = 107 ∨ k = 108 ∨ k = 109 := by omega
                        rcases hk with rfl | rfl | rfl | rfl | rfl | rfl | rfl | rfl | rfl | rfl
                        · exact c1
                        · exact c2
                        · exact c3
                        · exact c4
                        · exact c5
                        · exact c6
                        · exact c7
                        · exact c8
                        · exact c9
                        · exact c10
                      · refine j_aload_n (pc := 79) dX1_letter_79 rfl ?_
                        refine j_getI (pc := 80) dX1_letter_80 flX1_118 rfl ?_
                        exact j_ireturn (pc := 83) dX1_letter_83 rfl (ri_1 H) (ri_2 H)

noncomputable def fX1_thing_167 (g_expression : Int32 → HS → Option (Int32 × HS)) (v2 : Int32) (h : HS) : Option (Int32 × HS) := nm (pI h 14 2 ((gI h 14 2) + (1 : Int32))) (fun h28 => bd (fX1_letter v2 h28) (fun r30 h29 => some (r30, h29)))
set_option maxRecDepth 100000 in
theorem jX1_thing_167 {r : Int32} {h0 : HS} {g_expression : Int32 → HS → Option (Int32 × HS)} {dd : Nat} (hdb : 2 ≤ dd) {d_expression : Nat} (hd_expression : d_expression + 1 ≤ dd) (hg_expression : ∀ (p1 : Int32) (h : HS) (r : Int32) (h1 : HS), g_expression p1 h = some (r, h1) → Cn skC yX1_expression cX1_expression 4 (some .int) d_expression [.ref 5, .int p1] h (some (.int r)) h1) (v2 : Int32) (h : HS) (H : fX1_thing_167 g_expression v2 h = some (r, h0)) : Jx skC RX1 cX1_thing 4 (some .int) dd (some (.int r)) h0 167 [some (.ref 5), none, some (.int v2), none] [] h := by
  unfold fX1_thing_167 at H
  refine j_aload_n (pc := 167) dX1_thing_167 rfl ?_
  refine j_getR (pc := 168) (b := 14) dX1_thing_168 flX1_12 rfl ?_
  refine j_dup (pc := 171) dX1_thing_171 rfl ?_
  refine j_getI (pc := 172) dX1_thing_172 flX1_133 rfl ?_
  refine j_iconst (pc := 175) (v := 1) dX1_thing_175 (by decide) ?_
  refine j_iadd (pc := 176) dX1_thing_176 ?_
  obtain ⟨h28, eh28, H⟩ := nm_x H
  refine j_putI (pc := 177) dX1_thing_177 fpX1_133 rfl h28 eh28 ?_
  refine j_aload_n (pc := 180) dX1_thing_180 rfl ?_
  refine j_iload_n (pc := 181) dX1_thing_181 rfl ?_
  obtain ⟨r30, h29, eh29, H⟩ := bd_x H
  refine j_callV (pc := 182) dX1_thing_182 mlX1_147 wyX1_letter (tX1_letter eh29) (Nat.le_trans (by decide) hdb) rfl rfl rfl rfl (by simp [Value.category]) rfl ?_
  exact j_ireturn (pc := 185) dX1_thing_185 rfl (ri_1 H) (ri_2 H)
noncomputable def fX1_thing_67 (g_expression : Int32 → HS → Option (Int32 × HS)) (v2 : Int32) (h : HS) : Option (Int32 × HS) := if v2 = (110 : Int32) then (nm (pI h 14 2 ((gI h 14 2) + (1 : Int32))) (fun h21 => bd (fX2_loadBelow 14 (16 : Int32) h21) (fun r23 h22 => bd (fX4_there r23 h22) (fun r25 h24 => if r25 = 0 then (some ((0 : Int32), h24)) else (ck (inb r23 15) (some ((gI h24 30 r23.toNatClampNeg), h24))))))) else (if v2 = (104 : Int32) then (fX1_thing_167 g_expression v2 h) else (if v2 = (109 : Int32) then (fX1_thing_167 g_expression v2 h) else (if v2 = (108 : Int32) then (fX1_thing_167 g_expression v2 h) else (if v2 = (100 : Int32) then (fX1_thing_167 g_expression v2 h) else (if v2 = (119 : Int32) then (fX1_thing_167 g_expression v2 h) else (bv (fX2_fail 14 ((gI h 14 2)) h) (fun h20 => some ((0 : Int32), h20))))))))
set_option maxRecDepth 100000 in
theorem jX1_thing_67 {r : Int32} {h0 : HS} {g_expression : Int32 → HS → Option (Int32 × HS)} {dd : Nat} (hdb : 2 ≤ dd) {d_expression : Nat} (hd_expression : d_expression + 1 ≤ dd) (hg_expression : ∀ (p1 : Int32) (h : HS) (r : Int32) (h1 : HS), g_expression p1 h = some (r, h1) → Cn skC yX1_expression cX1_expression 4 (some .int) d_expression [.ref 5, .int p1] h (some (.int r)) h1) (v2 : Int32) (h : HS) (H : fX1_thing_67 g_expression v2 h = some (r, h0)) : Jx skC RX1 cX1_thing 4 (some .int) dd (some (.int r)) h0 67 [some (.ref 5), none, some (.int v2), none] [] h := by
  unfold fX1_thing_67 at H
  refine j_iload_n (pc := 67) dX1_thing_67 rfl ?_
  refine j_bipush (pc := 68) (v := 110) dX1_thing_68 (by decide) ?_
  refine j_icmp_ne (pc := 70) (tgt := 121) dX1_thing_70 (by decide) (fun c14 => ?_) (fun c14 => ?_)
  · rw [if_neg c14] at H
    refine j_iload_n (pc := 121) dX1_thing_121 rfl ?_
    refine j_bipush (pc := 122) (v := 104) dX1_thing_122 (by decide) ?_
    refine j_icmp_eq (pc := 124) (tgt := 167) dX1_thing_124 (by decide) (fun c15 => ?_) (fun c15 => ?_)
    · rw [if_pos c15] at H
      refine Jx.sub (L' := [some (.ref 5), none, some (.int v2), none]) (⟨rfl, ⟨rfl, trivial⟩⟩) ?_
      exact jX1_thing_167 hdb hd_expression hg_expression v2 h H
    · rw [if_neg c15] at H
      refine j_iload_n (pc := 127) dX1_thing_127 rfl ?_
      refine j_bipush (pc := 128) (v := 109) dX1_thing_128 (by decide) ?_
      refine j_icmp_eq (pc := 130) (tgt := 167) dX1_thing_130 (by decide) (fun c16 => ?_) (fun c16 => ?_)
      · rw [if_pos c16] at H
        refine Jx.sub (L' := [some (.ref 5), none, some (.int v2), none]) (⟨rfl, ⟨rfl, trivial⟩⟩) ?_
        exact jX1_thing_167 hdb hd_expression hg_expression v2 h H
      · rw [if_neg c16] at H
        refine j_iload_n (pc := 133) dX1_thing_133 rfl ?_
        refine j_bipush (pc := 134) (v := 108) dX1_thing_134 (by decide) ?_
        refine j_icmp_eq (pc := 136) (tgt := 167) dX1_thing_136 (by decide) (fun c17 => ?_) (fun c17 => ?_)
        · rw [if_pos c17] at H
          refine Jx.sub (L' := [some (.ref 5), none, some (.int v2), none]) (⟨rfl, ⟨rfl, trivial⟩⟩) ?_
          exact jX1_thing_167 hdb hd_expression hg_expression v2 h H
        · rw [if_neg c17] at H
          refine j_iload_n (pc := 139) dX1_thing_139 rfl ?_
          refine j_bipush (pc := 140) (v := 100) dX1_thing_140 (by decide) ?_
          refine j_icmp_eq (pc := 142) (tgt := 167) dX1_thing_142 (by decide) (fun c18 => ?_) (fun c18 => ?_)
          · rw [if_pos c18] at H
            refine Jx.sub (L' := [some (.ref 5), none, some (.int v2), none]) (⟨rfl, ⟨rfl, trivial⟩⟩) ?_
            exact jX1_thing_167 hdb hd_expression hg_expression v2 h H
          · rw [if_neg c18] at H
            refine j_iload_n (pc := 145) dX1_thing_145 rfl ?_
            refine j_bipush (pc := 146) (v := 119) dX1_thing_146 (by decide) ?_
            refine j_icmp_eq (pc := 148) (tgt := 167) dX1_thing_148 (by decide) (fun c19 => ?_) (fun c19 => ?_)
            · rw [if_pos c19] at H
              refine Jx.sub (L' := [some (.ref 5), none, some (.int v2), none]) (⟨rfl, ⟨rfl, trivial⟩⟩) ?_
              exact jX1_thing_167 hdb hd_expression hg_expression v2 h H
            · rw [if_neg c19] at H
              refine j_aload_n (pc := 151) dX1_thing_151 rfl ?_
              refine j_getR (pc := 152) (b := 14) dX1_thing_152 flX1_12 rfl ?_
              refine j_aload_n (pc := 155) dX1_thing_155 rfl ?_
              refine j_getR (pc := 156) (b := 14) dX1_thing_156 flX1_12 rfl ?_
              refine j_getI (pc := 159) dX1_thing_159 flX1_133 rfl ?_
              obtain ⟨h20, eh20, H⟩ := bv_x H
              refine j_callV (pc := 162) dX1_thing_162 mlX1_144 wyX2_fail (tX2_fail rfl eh20) (Nat.le_trans (by decide) hdb) rfl rfl rfl rfl (by simp [Value.category]) rfl ?_
              refine j_iconst (pc := 165) (v := 0) dX1_thing_165 (by decide) ?_
              exact j_ireturn (pc := 166) dX1_thing_166 rfl (ri_1 H) (ri_2 H)
  · rw [if_pos c14] at H
    refine j_aload_n (pc := 73) dX1_thing_73 rfl ?_
    refine j_getR (pc := 74) (b := 14) dX1_thing_74 flX1_12 rfl ?_
    refine j_dup (pc := 77) dX1_thing_77 rfl ?_
    refine j_getI (pc := 78) dX1_thing_78 flX1_133 rfl ?_
    refine j_iconst (pc := 81) (v := 1) dX1_thing_81 (by decide) ?_
    refine j_iadd (pc := 82) dX1_thing_82 ?_
    obtain ⟨h21, eh21, H⟩ := nm_x H
    refine j_putI (pc := 83) dX1_thing_83 fpX1_133 rfl h21 eh21 ?_
    refine j_aload_n (pc := 86) dX1_thing_86 rfl ?_
    refine j_getR (pc := 87) (b := 14) dX1_thing_87 flX1_12 rfl ?_
    refine j_bipush (pc := 90) (v := 16) dX1_thing_90 (by decide) ?_
    obtain ⟨r23, h22, eh22, H⟩ := bd_x H
    refine j_callV (pc := 92) dX1_thing_92 mlX1_76 wyX2_loadBelow (tX2_loadBelow rfl eh22) (Nat.le_trans (by decide) hdb) rfl rfl rfl rfl (by simp [Value.category]) rfl ?_
    refine j_istore_n (pc := 95) (L' := [some (.ref 5), none, some (.int v2), some (.int r23)]) dX1_thing_95 (by decide) rfl ?_
    refine j_aload_n (pc := 96) dX1_thing_96 rfl ?_
    refine j_getR (pc := 97) (b := 2) dX1_thing_97 flX1_41 rfl ?_
    refine j_iload_n (pc := 100) dX1_thing_100 rfl ?_
    obtain ⟨r25, h24, eh24, H⟩ := bd_x H
    refine j_callV (pc := 101) dX1_thing_101 mlX1_136 wyX4_there (tX4_there eh24) (Nat.le_trans (by decide) hdb) rfl rfl rfl rfl (by simp [Value.category]) rfl ?_
    refine j_if_eq (pc := 104) (tgt := 119) dX1_thing_104 (by decide) (fun c26 => ?_) (fun c26 => ?_)
    · rw [if_pos c26] at H
      refine j_iconst (pc := 119) (v := 0) dX1_thing_119 (by decide) ?_
      exact j_ireturn (pc := 120) dX1_thing_120 rfl (ri_1 H) (ri_2 H)
    · rw [if_neg c26] at H
      refine j_aload_n (pc := 107) dX1_thing_107 rfl ?_
      refine j_getR (pc := 108) (b := 2) dX1_thing_108 flX1_41 rfl ?_
      refine j_getR (pc := 111) (b := 30) dX1_thing_111 flX1_141 rfl ?_
      refine j_iload_n (pc := 114) dX1_thing_114 rfl ?_
      obtain ⟨b27, H⟩ := ck_x H
      refine j_iaload (pc := 115) dX1_thing_115 rfl b27 rfl ?_
      refine j_goto (pc := 116) (tgt := 120) dX1_thing_116 (by decide) ?_
      exact j_ireturn (pc := 120) dX1_thing_120 rfl (ri_1 H) (ri_2 H)
noncomputable def fX1_thing (g_expression : Int32 → HS → Option (Int32 × HS)) (p1 : Int32) (h : HS) : Option (Int32 × HS) := bd (fX2_peek 14 h) (fun r2 h1 => bd (fX11_isDigit r2 h1) (fun r4 h3 => if r4 = 0 then (if r2 = (40 : Int32) then (if (4 : Int32) ≤ p1 then (fX1_thing_67 g_expression r2 h3) else (nm (pI h3 14 2 ((gI h3 14 2) + (1 : Int32))) (fun h8 => bd (g_expression ((p1 + (1 : Int32))) h8) (fun r10 h9 => bv (fX2_expect 14 (41 : Int32) h9) (fun h11 => some (r10, h11)))))) else (fX1_thing_67 g_expression r2 h3)) else (bd (fX2_number 14 (4 : Int32) h3) (fun r13 h12 => some (r13, h12)))))
set_option maxRecDepth 100000 in
theorem tX1_thing {p1 : Int32} {r : Int32} {h h0 : HS} {g_expression : Int32 → HS → Option (Int32 × HS)} {dd : Nat} (hdb : 2 ≤ dd) {d_expression : Nat} (hd_expression : d_expression + 1 ≤ dd) (hg_expression : ∀ (p1 : Int32) (h : HS) (r : Int32) (h1 : HS), g_expression p1 h = some (r, h1) → Cn skC yX1_expression cX1_expression 4 (some .int) d_expression [.ref 5, .int p1] h (some (.int r)) h1) (H : fX1_thing g_expression p1 h = some (r, h0)) : Cn skC yX1_thing cX1_thing 4 (some .int) dd [.ref 5, .int p1] h (some (.int r)) h0 := by
  refine Cn_of (L := [some (.ref 5), some (.int p1), none, none]) (by decide +kernel) (by simp [lg_sl, Value.category]) (fun ad => by simp [lg_sl, tv, Value.category]) (⟨rfl, ⟨rfl, trivial⟩⟩) ?_
  unfold fX1_thing at H
  refine j_aload_n (pc := 0) dX1_thing_0 rfl ?_
  refine j_getR (pc := 1) (b := 14) dX1_thing_1 flX1_12 rfl ?_
  obtain ⟨r2, h1, eh1, H⟩ := bd_x H
  refine j_callV (pc := 4) dX1_thing_4 mlX1_127 wyX2_peek (tX2_peek rfl eh1) (Nat.le_trans (by decide) hdb) rfl rfl rfl rfl (by simp [Value.category]) rfl ?_
  refine j_istore_n (pc := 7) (L' := [some (.ref 5), some (.int p1), some (.int r2), none]) dX1_thing_7 (by decide) rfl ?_
  refine j_iload_n (pc := 8) dX1_thing_8 rfl ?_
  obtain ⟨r4, h3, eh3, H⟩ := bd_x H
  refine j_callSN (pc := 9) dX1_thing_9 mlX1_89 wyX11_isDigit (tX11_isDigit eh3) (Nat.le_trans (by decide) hdb) rfl (by simp [Value.category]) rfl ?_
  refine j_if_eq (pc := 12) (tgt := 24) dX1_thing_12 (by decide) (fun c5 => ?_) (fun c5 => ?_)
  · rw [if_pos c5] at H
    refine j_iload_n (pc := 24) dX1_thing_24 rfl ?_
    refine j_bipush (pc := 25) (v := 40) dX1_thing_25 (by decide) ?_
    refine j_icmp_ne (pc := 27) (tgt := 67) dX1_thing_27 (by decide) (fun c6 => ?_) (fun c6 => ?_)
    · rw [if_neg c6] at H
      refine Jx.sub (L' := [some (.ref 5), none, some (.int r2), none]) (⟨rfl, ⟨rfl, trivial⟩⟩) ?_
      exact jX1_thing_67 hdb hd_expression hg_expression r2 h3 H
    · rw [if_pos c6] at H
      refine j_iload_n (pc := 30) dX1_thing_30 rfl ?_
      refine j_iconst (pc := 31) (v := 4) dX1_thing_31 (by decide) ?_
      refine j_icmp_ge (pc := 32) (tgt := 67) dX1_thing_32 (by decide) (fun c7 => ?_) (fun c7 => ?_)
      · rw [if_pos c7] at H
        refine Jx.sub (L' := [some (.ref 5), none, some (.int r2), none]) (⟨rfl, ⟨rfl, trivial⟩⟩) ?_
        exact jX1_thing_67 hdb hd_expression hg_expression r2 h3 H
      · rw [if_neg c7] at H
        refine j_aload_n (pc := 35) dX1_thing_35 rfl ?_
        refine j_getR (pc := 36) (b := 14) dX1_thing_36 flX1_12 rfl ?_
        refine j_dup (pc := 39) dX1_thing_39 rfl ?_
        refine j_getI (pc := 40) dX1_thing_40 flX1_133 rfl ?_
        refine j_iconst (pc := 43) (v := 1) dX1_thing_43 (by decide) ?_
        refine j_iadd (pc := 44) dX1_thing_44 ?_
        obtain ⟨h8, eh8, H⟩ := nm_x H
        refine j_putI (pc := 45) dX1_thing_45 fpX1_133 rfl h8 eh8 ?_
        refine j_aload_n (pc := 48) dX1_thing_48 rfl ?_
        refine j_iload_n (pc := 49) dX1_thing_49 rfl ?_
        refine j_iconst (pc := 50) (v := 1) dX1_thing_50 (by decide) ?_
        refine j_iadd (pc := 51) dX1_thing_51 ?_
        obtain ⟨r10, h9, eh9, H⟩ := bd_x H
        refine j_callV (pc := 52) dX1_thing_52 mlX1_83 wyX1_expression (hg_expression _ _ _ _ eh9) hd_expression rfl rfl rfl rfl (by simp [Value.category]) rfl ?_
        refine j_istore_n (pc := 55) (L' := [some (.ref 5), some (.int p1), some (.int r2), some (.int r10)]) dX1_thing_55 (by decide) rfl ?_
        refine j_aload_n (pc := 56) dX1_thing_56 rfl ?_
        refine j_getR (pc := 57) (b := 14) dX1_thing_57 flX1_12 rfl ?_
        refine j_bipush (pc := 60) (v := 41) dX1_thing_60 (by decide) ?_
        obtain ⟨h11, eh11, H⟩ := bv_x H
        refine j_callV (pc := 62) dX1_thing_62 mlX1_79 wyX2_expect (tX2_expect rfl eh11) (Nat.le_trans (by decide) hdb) rfl rfl rfl rfl (by simp [Value.category]) rfl ?_
        refine j_iload_n (pc := 65) dX1_thing_65 rfl ?_
        exact j_ireturn (pc := 66) dX1_thing_66 rfl (ri_1 H) (ri_2 H)
  · rw [if_neg c5] at H
    refine j_aload_n (pc := 15) dX1_thing_15 rfl ?_
    refine j_getR (pc := 16) (b := 14) dX1_thing_16 flX1_12 rfl ?_
    refine j_iconst (pc := 19) (v := 4) dX1_thing_19 (by decide) ?_
    obtain ⟨r13, h12, eh12, H⟩ := bd_x H
    refine j_callV (pc := 20) dX1_thing_20 mlX1_130 wyX2_number (tX2_number rfl eh12) (Nat.le_trans (by decide) hdb) rfl rfl rfl rfl (by simp [Value.category]) rfl ?_
    exact j_ireturn (pc := 23) dX1_thing_23 rfl (ri_1 H) (ri_2 H)

noncomputable def fX1_product_41 (g_thing : Int32 → HS → Option (Int32 × HS)) (k4 : Int32 → Int32 → Int32 → HS → Option (Int32 × HS)) (v1 : Int32) (v2 : Int32) (v3 : Int32) (h : HS) : Option (Int32 × HS) := bd (g_thing v1 h) (fun r9 h8 => nm ((v2 * r9)) (fun v2_10 => bd (fX2_take 14 (42 : Int32) h8) (fun r12 h11 => if r12 = 0 then (some (v2_10, h11)) else (nm (v3 + (1 : Int32)) (fun v3_14 => k4 v1 v2_10 v3_14 h11)))))
set_option maxRecDepth 100000 in
theorem jX1_product_41 {r : Int32} {h0 : HS} {g_thing : Int32 → HS → Option (Int32 × HS)} {dd : Nat} (hdb : 2 ≤ dd) {d_thing : Nat} (hd_thing : d_thing + 1 ≤ dd) (hg_thing : ∀ (p1 : Int32) (h : HS) (r : Int32) (h1 : HS), g_thing p1 h = some (r, h1) → Cn skC yX1_thing cX1_thing 4 (some .int) d_thing [.ref 5, .int p1] h (some (.int r)) h1) (k4 : Int32 → Int32 → Int32 → HS → Option (Int32 × HS)) (hk4 : ∀ (v1 : Int32) (v2 : Int32) (v3 : Int32) (h : HS), k4 v1 v2 v3 h = some (r, h0) → Jx skC RX1 cX1_product 5 (some .int) dd (some (.int r)) h0 4 [some (.ref 5), some (.int v1), some (.int v2), some (.int v3), none] [] h) (v1 : Int32) (v2 : Int32) (v3 : Int32) (h : HS) (H : fX1_product_41 g_thing k4 v1 v2 v3 h = some (r, h0)) : Jx skC RX1 cX1_product 5 (some .int) dd (some (.int r)) h0 41 [some (.ref 5), some (.int v1), some (.int v2), some (.int v3), none] [] h := by
  unfold fX1_product_41 at H
  refine j_iload_n (pc := 41) dX1_product_41 rfl ?_
  refine j_aload_n (pc := 42) dX1_product_42 rfl ?_
  refine j_iload_n (pc := 43) dX1_product_43 rfl ?_
  obtain ⟨r9, h8, eh8, H⟩ := bd_x H
  refine j_callV (pc := 44) dX1_product_44 mlX1_124 wyX1_thing (hg_thing _ _ _ _ eh8) hd_thing rfl rfl rfl rfl (by simp [Value.category]) rfl ?_
  refine j_imul (pc := 47) dX1_product_47 ?_
  obtain ⟨v2_10, ev2_10, H⟩ := nm_x H
  refine j_topi ev2_10 ?_
  refine j_istore_n (pc := 48) (L' := [some (.ref 5), some (.int v1), some (.int v2_10), some (.int v3), none]) dX1_product_48 (by decide) rfl ?_
  refine j_aload_n (pc := 49) dX1_product_49 rfl ?_
  refine j_getR (pc := 50) (b := 14) dX1_product_50 flX1_12 rfl ?_
  refine j_bipush (pc := 53) (v := 42) dX1_product_53 (by decide) ?_
  obtain ⟨r12, h11, eh11, H⟩ := bd_x H
  refine j_callV (pc := 55) dX1_product_55 mlX1_55 wyX2_take (tX2_take rfl eh11) (Nat.le_trans (by decide) hdb) rfl rfl rfl rfl (by simp [Value.category]) rfl ?_
  refine j_if_ne (pc := 58) (tgt := 64) dX1_product_58 (by decide) (fun c13 => ?_) (fun c13 => ?_)
  · rw [if_neg c13] at H
    obtain ⟨v3_14, ev3_14, H⟩ := nm_x H
    refine j_iinc (pc := 64) (L' := [some (.ref 5), some (.int v1), some (.int v2_10), some (.int v3_14), none]) (w := 1) dX1_product_64 rfl (by decide) (by decide) v3_14 ev3_14 rfl ?_
    refine j_goto (pc := 67) (tgt := 4) dX1_product_67 (by decide) ?_
    refine Jx.sub (L' := [some (.ref 5), some (.int v1), some (.int v2_10), some (.int v3_14), none]) (⟨rfl, ⟨rfl, ⟨rfl, ⟨rfl, trivial⟩⟩⟩⟩) ?_
    exact hk4 v1 v2_10 v3_14 h11 H
  · rw [if_pos c13] at H
    refine j_goto (pc := 61) (tgt := 70) dX1_product_61 (by decide) ?_
    refine j_iload_n (pc := 70) dX1_product_70 rfl ?_
    exact j_ireturn (pc := 71) dX1_product_71 rfl (ri_1 H) (ri_2 H)
noncomputable def fX1_product_13 (g_thing : Int32 → HS → Option (Int32 × HS)) (k4 : Int32 → Int32 → Int32 → HS → Option (Int32 × HS)) : Nat → Int32 → Int32 → Int32 → Int32 → HS → Option (Int32 × HS)
  | 0, _, _, _, _, _ => none
  | n + 1, v1, v2, v3, v4, h => if (60 : Int32) ≤ v4 then (fX1_product_41 g_thing k4 v1 v2 v3 h) else (bd (fX2_take 14 (45 : Int32) h) (fun r4 h3 => if r4 = 0 then (fX1_product_41 g_thing k4 v1 v2 v3 h3) else (nm ((-v2)) (fun v2_6 => nm (v4 + (1 : Int32)) (fun v4_7 => fX1_product_13 g_thing k4 n v1 v2_6 v3 v4_7 h3)))))
set_option maxRecDepth 100000 in
theorem jX1_product_13 {r : Int32} {h0 : HS} {g_thing : Int32 → HS → Option (Int32 × HS)} {dd : Nat} (hdb : 2 ≤ dd) {d_thing : Nat} (hd_thing : d_thing + 1 ≤ dd) (hg_thing : ∀ (p1 : Int32) (h : HS) (r : Int32) (h1 : HS), g_thing p1 h = some (r, h1) → Cn skC yX1_thing cX1_thing 4 (some .int) d_thing [.ref 5, .int p1] h (some (.int r)) h1) (k4 : Int32 → Int32 → Int32 → HS → Option (Int32 × HS)) (hk4 : ∀ (v1 : Int32) (v2 : Int32) (v3 : Int32) (h : HS), k4 v1 v2 v3 h = some (r, h0) → Jx skC RX1 cX1_product 5 (some .int) dd (some (.int r)) h0 4 [some (.ref 5), some (.int v1), some (.int v2), some (.int v3), none] [] h) : ∀ (n : Nat) (v1 : Int32) (v2 : Int32) (v3 : Int32) (v4 : Int32) (h : HS), fX1_product_13 g_thing k4 n v1 v2 v3 v4 h = some (r, h0) → Jx skC RX1 cX1_product 5 (some .int) dd (some (.int r)) h0 13 [some (.ref 5), some (.int v1), some (.int v2), some (.int v3), some (.int v4)] [] h := by
  intro n
  induction n with
  | zero => intro v1 v2 v3 v4  h H; cases H
  | succ n ih =>
    intro v1 v2 v3 v4  h H
    rw [fX1_product_13] at H
    refine j_iload (pc := 13) dX1_product_13 rfl ?_
    refine j_bipush (pc := 15) (v := 60) dX1_product_15 (by decide) ?_
    refine j_icmp_ge (pc := 17) (tgt := 41) dX1_product_17 (by decide) (fun c2 => ?_) (fun c2 => ?_)
    · rw [if_pos c2] at H
      refine Jx.sub (L' := [some (.ref 5), some (.int v1), some (.int v2), some (.int v3), none]) (⟨rfl, ⟨rfl, ⟨rfl, ⟨rfl, trivial⟩⟩⟩⟩) ?_
      exact jX1_product_41 hdb hd_thing hg_thing _ hk4 v1 v2 v3 h H
    · rw [if_neg c2] at H
      refine j_aload_n (pc := 20) dX1_product_20 rfl ?_
      refine j_getR (pc := 21) (b := 14) dX1_product_21 flX1_12 rfl ?_
      refine j_bipush (pc := 24) (v := 45) dX1_product_24 (by decide) ?_
      obtain ⟨r4, h3, eh3, H⟩ := bd_x H
      refine j_callV (pc := 26) dX1_product_26 mlX1_55 wyX2_take (tX2_take rfl eh3) (Nat.le_trans (by decide) hdb) rfl rfl rfl rfl (by simp [Value.category]) rfl ?_
      refine j_if_eq (pc := 29) (tgt := 41) dX1_product_29 (by decide) (fun c5 => ?_) (fun c5 => ?_)
      · rw [if_pos c5] at H
        refine Jx.sub (L' := [some (.ref 5), some (.int v1), some (.int v2), some (.int v3), none]) (⟨rfl, ⟨rfl, ⟨rfl, ⟨rfl, trivial⟩⟩⟩⟩) ?_
        exact jX1_product_41 hdb hd_thing hg_thing _ hk4 v1 v2 v3 h3 H
      · rw [if_neg c5] at H
        refine j_iload_n (pc := 32) dX1_product_32 rfl ?_
        refine j_ineg (pc := 33) dX1_product_33 ?_
        obtain ⟨v2_6, ev2_6, H⟩ := nm_x H
        refine j_topi ev2_6 ?_
        refine j_istore_n (pc := 34) (L' := [some (.ref 5), some (.int v1), some (.int v2_6), some (.int v3), some (.int v4)]) dX1_product_34 (by decide) rfl ?_
        obtain ⟨v4_7, ev4_7, H⟩ := nm_x H
        refine j_iinc (pc := 35) (L' := [some (.ref 5), some (.int v1), some (.int v2_6), some (.int v3), some (.int v4_7)]) (w := 1) dX1_product_35 rfl (by decide) (by decide) v4_7 ev4_7 rfl ?_
        refine j_goto (pc := 38) (tgt := 13) dX1_product_38 (by decide) ?_
        refine Jx.sub (L' := [some (.ref 5), some (.int v1), some (.int v2_6), some (.int v3), some (.int v4_7)]) (⟨rfl, ⟨rfl, ⟨rfl, ⟨rfl, ⟨rfl, trivial⟩⟩⟩⟩⟩) ?_
        exact ih v1 v2_6 v3 v4_7 h3 H
noncomputable def fX1_product_4 (g_thing : Int32 → HS → Option (Int32 × HS)) : Nat → Int32 → Int32 → Int32 → HS → Option (Int32 × HS)
  | 0, _, _, _, _ => none
  | n + 1, v1, v2, v3, h => if (60 : Int32) ≤ v3 then (some (v2, h)) else (fX1_product_13 g_thing (fX1_product_4 g_thing n) FU v1 v2 v3 (0 : Int32) h)
set_option maxRecDepth 100000 in
theorem jX1_product_4 {r : Int32} {h0 : HS} {g_thing : Int32 → HS → Option (Int32 × HS)} {dd : Nat} (hdb : 2 ≤ dd) {d_thing : Nat} (hd_thing : d_thing + 1 ≤ dd) (hg_thing : ∀ (p1 : Int32) (h : HS) (r : Int32) (h1 : HS), g_thing p1 h = some (r, h1) → Cn skC yX1_thing cX1_thing 4 (some .int) d_thing [.ref 5, .int p1] h (some (.int r)) h1) : ∀ (n : Nat) (v1 : Int32) (v2 : Int32) (v3 : Int32) (h : HS), fX1_product_4 g_thing n v1 v2 v3 h = some (r, h0) → Jx skC RX1 cX1_product 5 (some .int) dd (some (.int r)) h0 4 [some (.ref 5), some (.int v1), some (.int v2), some (.int v3), none] [] h := by
  intro n
  induction n with
  | zero => intro v1 v2 v3  h H; cases H
  | succ n ih =>
    intro v1 v2 v3  h H
    rw [fX1_product_4] at H
    refine j_iload_n (pc := 4) dX1_product_4 rfl ?_
    refine j_bipush (pc := 5) (v := 60) dX1_product_5 (by decide) ?_
    refine j_icmp_ge (pc := 7) (tgt := 70) dX1_product_7 (by decide) (fun c1 => ?_) (fun c1 => ?_)
    · rw [if_pos c1] at H
      refine j_iload_n (pc := 70) dX1_product_70 rfl ?_
      exact j_ireturn (pc := 71) dX1_product_71 rfl (ri_1 H) (ri_2 H)
    · rw [if_neg c1] at H
      refine j_iconst (pc := 10) (v := 0) dX1_product_10 (by decide) ?_
      refine j_istore (pc := 11) (L' := [some (.ref 5), some (.int v1), some (.int v2), some (.int v3), some (.int (0 : Int32))]) dX1_product_11 (by decide) rfl ?_
      refine Jx.sub (L' := [some (.ref 5), some (.int v1), some (.int v2), some (.int v3), some (.int (0 : Int32))]) (⟨rfl, ⟨rfl, ⟨rfl, ⟨rfl, ⟨rfl, trivial⟩⟩⟩⟩⟩) ?_
      exact jX1_product_13 hdb hd_thing hg_thing _ ih FU v1 v2 v3 (0 : Int32) h H
noncomputable def fX1_product (g_thing : Int32 → HS → Option (Int32 × HS)) (p1 : Int32) (h : HS) : Option (Int32 × HS) := fX1_product_4 g_thing FU p1 (1 : Int32) (0 : Int32) h
set_option maxRecDepth 100000 in
theorem tX1_product {p1 : Int32} {r : Int32} {h h0 : HS} {g_thing : Int32 → HS → Option (Int32 × HS)} {dd : Nat} (hdb : 2 ≤ dd) {d_thing : Nat} (hd_thing : d_thing + 1 ≤ dd) (hg_thing : ∀ (p1 : Int32) (h : HS) (r : Int32) (h1 : HS), g_thing p1 h = some (r, h1) → Cn skC yX1_thing cX1_thing 4 (some .int) d_thing [.ref 5, .int p1] h (some (.int r)) h1) (H : fX1_product g_thing p1 h = some (r, h0)) : Cn skC yX1_product cX1_product 5 (some .int) dd [.ref 5, .int p1] h (some (.int r)) h0 := by
  refine Cn_of (L := [some (.ref 5), some (.int p1), none, none, none]) (by decide +kernel) (by simp [lg_sl, Value.category]) (fun ad => by simp [lg_sl, tv, Value.category]) (⟨rfl, ⟨rfl, trivial⟩⟩) ?_
  unfold fX1_product at H
  refine j_iconst (pc := 0) (v := 1) dX1_product_0 (by decide) ?_
  refine j_istore_n (pc := 1) (L' := [some (.ref 5), some (.int p1), some (.int (1 : Int32)), none, none]) dX1_product_1 (by decide) rfl ?_
  refine j_iconst (pc := 2) (v := 0) dX1_product_2 (by decide) ?_
  refine j_istore_n (pc := 3) (L' := [some (.ref 5), some (.int p1), some (.int (1 : Int32)), some (.int (0 : Int32)), none]) dX1_product_3 (by decide) rfl ?_
  refine Jx.sub (L' := [some (.ref 5), some (.int p1), some (.int (1 : Int32)), some (.int (0 : Int32)), none]) (⟨rfl, ⟨rfl, ⟨rfl, ⟨rfl, trivial⟩⟩⟩⟩) ?_
  exact jX1_product_4 hdb hd_thing hg_thing FU p1 (1 : Int32) (0 : Int32) h H

noncomputable def fX1_expression_8 (g_product : Int32 → HS → Option (Int32 × HS)) : Nat → Int32 → Int32 → Int32 → HS → Option (Int32 × HS)
  | 0, _, _, _, _ => none
  | n + 1, v1, v2, v3, h => if (60 : Int32) ≤ v3 then (some (v2, h)) else (bd (fX2_take 14 (43 : Int32) h) (fun r5 h4 => if r5 = 0 then (bd (fX2_take 14 (45 : Int32) h4) (fun r8 h7 => if r8 = 0 then (some (v2, h7)) else (bd (g_product v1 h7) (fun r11 h10 => nm ((v2 - r11)) (fun v2_12 => nm (v3 + (1 : Int32)) (fun v3_13 => fX1_expression_8 g_product n v1 v2_12 v3_13 h10)))))) else (bd (g_product v1 h4) (fun r15 h14 => nm ((v2 + r15)) (fun v2_16 => nm (v3 + (1 : Int32)) (fun v3_17 => fX1_expression_8 g_product n v1 v2_16 v3_17 h14))))))
set_option maxRecDepth 100000 in
theorem jX1_expression_8 {r : Int32} {h0 : HS} {g_product : Int32 → HS → Option (Int32 × HS)} {dd : Nat} (hdb : 2 ≤ dd) {d_product : Nat} (hd_product : d_product + 1 ≤ dd) (hg_product : ∀ (p1 : Int32) (h : HS) (r : Int32) (h1 : HS), g_product p1 h = some (r, h1) → Cn skC yX1_product cX1_product 5 (some .int) d_product [.ref 5, .int p1] h (some (.int r)) h1) : ∀ (n : Nat) (v1 : Int32) (v2 : Int32) (v3 : Int32) (h : HS), fX1_expression_8 g_product n v1 v2 v3 h = some (r, h0) → Jx skC RX1 cX1_expression 4 (some .int) dd (some (.int r)) h0 8 [some (.ref 5), some (.int v1), some (.int v2), some (.int v3)] [] h := by
  intro n
  induction n with
  | zero => intro v1 v2 v3  h H; cases H
  | succ n ih =>
    intro v1 v2 v3  h H
    rw [fX1_expression_8] at H
    refine j_iload_n (pc := 8) dX1_expression_8 rfl ?_
    refine j_bipush (pc := 9) (v := 60) dX1_expression_9 (by decide) ?_
    refine j_icmp_ge (pc := 11) (tgt := 63) dX1_expression_11 (by decide) (fun c3 => ?_) (fun c3 => ?_)
    · rw [if_pos c3] at H
      refine j_iload_n (pc := 63) dX1_expression_63 rfl ?_
      exact j_ireturn (pc := 64) dX1_expression_64 rfl (ri_1 H) (ri_2 H)
    · rw [if_neg c3] at H
      refine j_aload_n (pc := 14) dX1_expression_14 rfl ?_
      refine j_getR (pc := 15) (b := 14) dX1_expression_15 flX1_12 rfl ?_
      refine j_bipush (pc := 18) (v := 43) dX1_expression_18 (by decide) ?_
      obtain ⟨r5, h4, eh4, H⟩ := bd_x H
      refine j_callV (pc := 20) dX1_expression_20 mlX1_55 wyX2_take (tX2_take rfl eh4) (Nat.le_trans (by decide) hdb) rfl rfl rfl rfl (by simp [Value.category]) rfl ?_
      refine j_if_eq (pc := 23) (tgt := 37) dX1_expression_23 (by decide) (fun c6 => ?_) (fun c6 => ?_)
      · rw [if_pos c6] at H
        refine j_aload_n (pc := 37) dX1_expression_37 rfl ?_
        refine j_getR (pc := 38) (b := 14) dX1_expression_38 flX1_12 rfl ?_
        refine j_bipush (pc := 41) (v := 45) dX1_expression_41 (by decide) ?_
        obtain ⟨r8, h7, eh7, H⟩ := bd_x H
        refine j_callV (pc := 43) dX1_expression_43 mlX1_55 wyX2_take (tX2_take rfl eh7) (Nat.le_trans (by decide) hdb) rfl rfl rfl rfl (by simp [Value.category]) rfl ?_
        refine j_if_eq (pc := 46) (tgt := 63) dX1_expression_46 (by decide) (fun c9 => ?_) (fun c9 => ?_)
        · rw [if_pos c9] at H
          refine j_iload_n (pc := 63) dX1_expression_63 rfl ?_
          exact j_ireturn (pc := 64) dX1_expression_64 rfl (ri_1 H) (ri_2 H)
        · rw [if_neg c9] at H
          refine j_iload_n (pc := 49) dX1_expression_49 rfl ?_
          refine j_aload_n (pc := 50) dX1_expression_50 rfl ?_
          refine j_iload_n (pc := 51) dX1_expression_51 rfl ?_
          obtain ⟨r11, h10, eh10, H⟩ := bd_x H
          refine j_callV (pc := 52) dX1_expression_52 mlX1_121 wyX1_product (hg_product _ _ _ _ eh10) hd_product rfl rfl rfl rfl (by simp [Value.category]) rfl ?_
          refine j_isub (pc := 55) dX1_expression_55 ?_
          obtain ⟨v2_12, ev2_12, H⟩ := nm_x H
          refine j_topi ev2_12 ?_
          refine j_istore_n (pc := 56) (L' := [some (.ref 5), some (.int v1), some (.int v2_12), some (.int v3)]) dX1_expression_56 (by decide) rfl ?_
          obtain ⟨v3_13, ev3_13, H⟩ := nm_x H
          refine j_iinc (pc := 57) (L' := [some (.ref 5), some (.int v1), some (.int v2_12), some (.int v3_13)]) (w := 1) dX1_expression_57 rfl (by decide) (by decide) v3_13 ev3_13 rfl ?_
          refine j_goto (pc := 60) (tgt := 8) dX1_expression_60 (by decide) ?_
          refine Jx.sub (L' := [some (.ref 5), some (.int v1), some (.int v2_12), some (.int v3_13)]) (⟨rfl, ⟨rfl, ⟨rfl, ⟨rfl, trivial⟩⟩⟩⟩) ?_
          exact ih v1 v2_12 v3_13 h10 H
      · rw [if_neg c6] at H
        refine j_iload_n (pc := 26) dX1_expression_26 rfl ?_
        refine j_aload_n (pc := 27) dX1_expression_27 rfl ?_
        refine j_iload_n (pc := 28) dX1_expression_28 rfl ?_
        obtain ⟨r15, h14, eh14, H⟩ := bd_x H
        refine j_callV (pc := 29) dX1_expression_29 mlX1_121 wyX1_product (hg_product _ _ _ _ eh14) hd_product rfl rfl rfl rfl (by simp [Value.category]) rfl ?_
        refine j_iadd (pc := 32) dX1_expression_32 ?_
        obtain ⟨v2_16, ev2_16, H⟩ := nm_x H
        refine j_topi ev2_16 ?_
        refine j_istore_n (pc := 33) (L' := [some (.ref 5), some (.int v1), some (.int v2_16), some (.int v3)]) dX1_expression_33 (by decide) rfl ?_
        refine j_goto (pc := 34) (tgt := 57) dX1_expression_34 (by decide) ?_
        obtain ⟨v3_17, ev3_17, H⟩ := nm_x H
        refine j_iinc (pc := 57) (L' := [some (.ref 5), some (.int v1), some (.int v2_16), some (.int v3_17)]) (w := 1) dX1_expression_57 rfl (by decide) (by decide) v3_17 ev3_17 rfl ?_
        refine j_goto (pc := 60) (tgt := 8) dX1_expression_60 (by decide) ?_
        refine Jx.sub (L' := [some (.ref 5), some (.int v1), some (.int v2_16), some (.int v3_17)]) (⟨rfl, ⟨rfl, ⟨rfl, ⟨rfl, trivial⟩⟩⟩⟩) ?_
        exact ih v1 v2_16 v3_17 h14 H
noncomputable def fX1_expression (g_product : Int32 → HS → Option (Int32 × HS)) (p1 : Int32) (h : HS) : Option (Int32 × HS) := bd (g_product p1 h) (fun r2 h1 => fX1_expression_8 g_product FU p1 r2 (0 : Int32) h1)
set_option maxRecDepth 100000 in
theorem tX1_expression {p1 : Int32} {r : Int32} {h h0 : HS} {g_product : Int32 → HS → Option (Int32 × HS)} {dd : Nat} (hdb : 2 ≤ dd) {d_product : Nat} (hd_product : d_product + 1 ≤ dd) (hg_product : ∀ (p1 : Int32) (h : HS) (r : Int32) (h1 : HS), g_product p1 h = some (r, h1) → Cn skC yX1_product cX1_product 5 (some .int) d_product [.ref 5, .int p1] h (some (.int r)) h1) (H : fX1_expression g_product p1 h = some (r, h0)) : Cn skC yX1_expression cX1_expression 4 (some .int) dd [.ref 5, .int p1] h (some (.int r)) h0 := by
  refine Cn_of (L := [some (.ref 5), some (.int p1), none, none]) (by decide +kernel) (by simp [lg_sl, Value.category]) (fun ad => by simp [lg_sl, tv, Value.category]) (⟨rfl, ⟨rfl, trivial⟩⟩) ?_
  unfold fX1_expression at H
  refine j_aload_n (pc := 0) dX1_expression_0 rfl ?_
  refine j_iload_n (pc := 1) dX1_expression_1 rfl ?_
  obtain ⟨r2, h1, eh1, H⟩ := bd_x H
  refine j_callV (pc := 2) dX1_expression_2 mlX1_121 wyX1_product (hg_product _ _ _ _ eh1) hd_product rfl rfl rfl rfl (by simp [Value.category]) rfl ?_
  refine j_istore_n (pc := 5) (L' := [some (.ref 5), some (.int p1), some (.int r2), none]) dX1_expression_5 (by decide) rfl ?_
  refine j_iconst (pc := 6) (v := 0) dX1_expression_6 (by decide) ?_
  refine j_istore_n (pc := 7) (L' := [some (.ref 5), some (.int p1), some (.int r2), some (.int (0 : Int32))]) dX1_expression_7 (by decide) rfl ?_
  refine Jx.sub (L' := [some (.ref 5), some (.int p1), some (.int r2), some (.int (0 : Int32))]) (⟨rfl, ⟨rfl, ⟨rfl, ⟨rfl, trivial⟩⟩⟩⟩) ?_
  exact jX1_expression_8 hdb hd_product hg_product FU p1 r2 (0 : Int32) h1 H
noncomputable def rX1_thing : Nat → (Int32 → HS → Option (Int32 × HS))
  | 0 => fun _ _ => none
  | n + 1 => fX1_thing (fX1_expression (fX1_product (rX1_thing n)))
theorem trX1_thing : ∀ (n : Nat) (p1 : Int32) (h : HS) (r : Int32) (h1 : HS), rX1_thing n p1 h = some (r, h1) → Cn skC yX1_thing cX1_thing 4 (some .int) (10 + 3 * n) [.ref 5, .int p1] h (some (.int r)) h1 := by
  intro n
  induction n with
  | zero => intro p1 h r h1 H; cases H
  | succ n ih =>
    intro p1 h r h1 H
    exact tX1_thing (by omega) (d_expression := 10 + 3 * n + 2) (by omega) (fun p1 h r h1 H1 => tX1_expression (by omega) (d_product := 10 + 3 * n + 1) (by omega) (fun p1 h r h1 H2 => tX1_product (by omega) (d_thing := 10 + 3 * n) (by omega) ih H2) H1) H
noncomputable def gX1_thing : Int32 → HS → Option (Int32 × HS) := rX1_thing 6
noncomputable def gX1_product : Int32 → HS → Option (Int32 × HS) := fX1_product gX1_thing
noncomputable def gX1_expression : Int32 → HS → Option (Int32 × HS) := fX1_expression gX1_product
theorem tgX1_expression {p1 r : Int32} {h h1 : HS} (H : gX1_expression p1 h = some (r, h1)) : Cn skC yX1_expression cX1_expression 4 (some .int) 30 [.ref 5, .int p1] h (some (.int r)) h1 := tX1_expression (by decide) (d_product := 29) (by decide) (fun p1 h r h1 H2 => tX1_product (by decide) (d_thing := 28) (by decide) (trX1_thing 6) H2) H

noncomputable def fX1_readLine (h : HS) : Option HS := bd (fX2_loadBelow 14 (16 : Int32) h) (fun r2 h1 => bv (fX2_expect 14 (61 : Int32) h1) (fun h3 => bd (gX1_expression (0 : Int32) h3) (fun r5 h4 => some h4)))
set_option maxRecDepth 100000 in
theorem tX1_readLine {h h0 : HS} (H : fX1_readLine h = some h0) : Cn skC yX1_readLine cX1_readLine 1 none 31 [.ref 5] h none h0 := by
  refine Cn_of (L := [some (.ref 5)]) (by decide +kernel) (by simp [lg_sl, Value.category]) (fun ad => by simp [lg_sl, tv, Value.category]) (⟨rfl, trivial⟩) ?_
  unfold fX1_readLine at H
  refine j_aload_n (pc := 0) dX1_readLine_0 rfl ?_
  refine j_getR (pc := 1) (b := 14) dX1_readLine_1 flX1_12 rfl ?_
  refine j_bipush (pc := 4) (v := 16) dX1_readLine_4 (by decide) ?_
  obtain ⟨r2, h1, eh1, H⟩ := bd_x H
  refine j_callV (pc := 6) dX1_readLine_6 mlX1_76 wyX2_loadBelow (tX2_loadBelow rfl eh1) (by decide) rfl rfl rfl rfl (by simp [Value.category]) rfl ?_
  refine j_pop (pc := 9) dX1_readLine_9 rfl ?_
  refine j_aload_n (pc := 10) dX1_readLine_10 rfl ?_
  refine j_getR (pc := 11) (b := 14) dX1_readLine_11 flX1_12 rfl ?_
  refine j_bipush (pc := 14) (v := 61) dX1_readLine_14 (by decide) ?_
  obtain ⟨h3, eh3, H⟩ := bv_x H
  refine j_callV (pc := 16) dX1_readLine_16 mlX1_79 wyX2_expect (tX2_expect rfl eh3) (by decide) rfl rfl rfl rfl (by simp [Value.category]) rfl ?_
  refine j_aload_n (pc := 19) dX1_readLine_19 rfl ?_
  refine j_iconst (pc := 20) (v := 0) dX1_readLine_20 (by decide) ?_
  obtain ⟨r5, h4, eh4, H⟩ := bd_x H
  refine j_callV (pc := 21) dX1_readLine_21 mlX1_83 wyX1_expression (tgX1_expression eh4) (by decide) rfl rfl rfl rfl (by simp [Value.category]) rfl ?_
  refine j_pop (pc := 24) dX1_readLine_24 rfl ?_
  exact j_return (pc := 25) dX1_readLine_25 rfl rfl (rv_2 H)

noncomputable def fX1_markLines_69 (k7 : Int32 → HS → Option HS) (v1 : Int32) (s0 : Int32) (h : HS) : Option HS := ck (inb (v1 - (1 : Int32)) 60) (ck (inb (gI h 5 5) 15) (nm (pI h 37 (gI h 5 5).toNatClampNeg (((s0 * (10 : Int32)) + (gI h 36 (v1 - (1 : Int32)).toNatClampNeg)) - (48 : Int32))) (fun h15 => ck (inb (gI h15 5 5) 15) (nm (pI h15 38 (gI h15 5 5).toNatClampNeg (v1 + (1 : Int32))) (fun h17 => nm (pI h17 5 5 ((gI h17 5 5) + (1 : Int32))) (fun h19 => nm (v1 + (1 : Int32)) (fun v1_20 => k7 v1_20 h19)))))))
set_option maxRecDepth 100000 in
theorem jX1_markLines_69 {h0 : HS} (k7 : Int32 → HS → Option HS) (hk7 : ∀ (v1 : Int32) (h : HS), k7 v1 h = some h0 → Jx skC RX1 cX1_markLines 3 none 1 none h0 7 [some (.ref 5), some (.int v1), none] [] h) (v1 : Int32) (s0 : Int32) (h : HS) (H : fX1_markLines_69 k7 v1 s0 h = some h0) : Jx skC RX1 cX1_markLines 3 none 1 none h0 69 [some (.ref 5), some (.int v1), none] [.int s0] h := by
  unfold fX1_markLines_69 at H
  refine j_istore_n (pc := 69) (L' := [some (.ref 5), some (.int v1), some (.int s0)]) dX1_markLines_69 (by decide) rfl ?_
  refine j_aload_n (pc := 70) dX1_markLines_70 rfl ?_
  refine j_getR (pc := 71) (b := 37) dX1_markLines_71 flX1_22 rfl ?_
  refine j_aload_n (pc := 74) dX1_markLines_74 rfl ?_
  refine j_getI (pc := 75) dX1_markLines_75 flX1_86 rfl ?_
  refine j_iload_n (pc := 78) dX1_markLines_78 rfl ?_
  refine j_bipush (pc := 79) (v := 10) dX1_markLines_79 (by decide) ?_
  refine j_imul (pc := 81) dX1_markLines_81 ?_
  refine j_aload_n (pc := 82) dX1_markLines_82 rfl ?_
  refine j_getR (pc := 83) (b := 36) dX1_markLines_83 flX1_18 rfl ?_
  refine j_iload_n (pc := 86) dX1_markLines_86 rfl ?_
  refine j_iconst (pc := 87) (v := 1) dX1_markLines_87 (by decide) ?_
  refine j_isub (pc := 88) dX1_markLines_88 ?_
  obtain ⟨b14, H⟩ := ck_x H
  refine j_iaload (pc := 89) dX1_markLines_89 rfl b14 rfl ?_
  refine j_iadd (pc := 90) dX1_markLines_90 ?_
  refine j_bipush (pc := 91) (v := 48) dX1_markLines_91 (by decide) ?_
  refine j_isub (pc := 93) dX1_markLines_93 ?_
  obtain ⟨b16, H⟩ := ck_x H
  obtain ⟨h15, eh15, H⟩ := nm_x H
  refine j_iastore (pc := 94) dX1_markLines_94 rfl b16 rfl h15 eh15 ?_
  refine j_aload_n (pc := 95) dX1_markLines_95 rfl ?_
  refine j_getR (pc := 96) (b := 38) dX1_markLines_96 flX1_25 rfl ?_
  refine j_aload_n (pc := 99) dX1_markLines_99 rfl ?_
  refine j_getI (pc := 100) dX1_markLines_100 flX1_86 rfl ?_
  refine j_iload_n (pc := 103) dX1_markLines_103 rfl ?_
  refine j_iconst (pc := 104) (v := 1) dX1_markLines_104 (by decide) ?_
  refine j_iadd (pc := 105) dX1_markLines_105 ?_
  obtain ⟨b18, H⟩ := ck_x H
  obtain ⟨h17, eh17, H⟩ := nm_x H
  refine j_iastore (pc := 106) dX1_markLines_106 rfl b18 rfl h17 eh17 ?_
  refine j_aload_n (pc := 107) dX1_markLines_107 rfl ?_
  refine j_dup (pc := 108) dX1_markLines_108 rfl ?_
  refine j_getI (pc := 109) dX1_markLines_109 flX1_86 rfl ?_
  refine j_iconst (pc := 112) (v := 1) dX1_markLines_112 (by decide) ?_
  refine j_iadd (pc := 113) dX1_markLines_113 ?_
  obtain ⟨h19, eh19, H⟩ := nm_x H
  refine j_putI (pc := 114) dX1_markLines_114 fpX1_86 rfl h19 eh19 ?_
  obtain ⟨v1_20, ev1_20, H⟩ := nm_x H
  refine j_iinc (pc := 117) (L' := [some (.ref 5), some (.int v1_20), some (.int s0)]) (w := 1) dX1_markLines_117 rfl (by decide) (by decide) v1_20 ev1_20 rfl ?_
  refine j_goto (pc := 120) (tgt := 7) dX1_markLines_120 (by decide) ?_
  refine Jx.sub (L' := [some (.ref 5), some (.int v1_20), none]) (⟨rfl, ⟨rfl, trivial⟩⟩) ?_
  exact hk7 v1_20 h19 H
noncomputable def fX1_markLines_68 (k7 : Int32 → HS → Option HS) (v1 : Int32) (h : HS) : Option HS := fX1_markLines_69 k7 v1 (0 : Int32) h
set_option maxRecDepth 100000 in
theorem jX1_markLines_68 {h0 : HS} (k7 : Int32 → HS → Option HS) (hk7 : ∀ (v1 : Int32) (h : HS), k7 v1 h = some h0 → Jx skC RX1 cX1_markLines 3 none 1 none h0 7 [some (.ref 5), some (.int v1), none] [] h) (v1 : Int32) (h : HS) (H : fX1_markLines_68 k7 v1 h = some h0) : Jx skC RX1 cX1_markLines 3 none 1 none h0 68 [some (.ref 5), some (.int v1), none] [] h := by
  unfold fX1_markLines_68 at H
  refine j_iconst (pc := 68) (v := 0) dX1_markLines_68 (by decide) ?_
  refine Jx.sub (L' := [some (.ref 5), some (.int v1), none]) (⟨rfl, ⟨rfl, trivial⟩⟩) ?_
  exact jX1_markLines_69 _ hk7 v1 (0 : Int32) h H
noncomputable def fX1_markLines_7 : Nat → Int32 → HS → Option HS
  | 0, _, _ => none
  | n + 1, v1, h => if (gI h 5 4) ≤ v1 then (some h) else (ck (inb v1 60) (if (gI h 36 v1.toNatClampNeg) = (61 : Int32) then (if (15 : Int32) ≤ (gI h 5 5) then (nm (v1 + (1 : Int32)) (fun v1_7 => fX1_markLines_7 n v1_7 h)) else (if v1 < (2 : Int32) then (fX1_markLines_68 (fX1_markLines_7 n) v1 h) else (ck (inb (v1 - (2 : Int32)) 60) (bd (fX11_isDigit ((gI h 36 (v1 - (2 : Int32)).toNatClampNeg)) h) (fun r11 h10 => if r11 = 0 then (fX1_markLines_68 (fX1_markLines_7 n) v1 h10) else (ck (inb (v1 - (2 : Int32)) 60) (fX1_markLines_69 (fX1_markLines_7 n) v1 (((gI h10 36 (v1 - (2 : Int32)).toNatClampNeg) - (48 : Int32))) h10))))))) else (nm (v1 + (1 : Int32)) (fun v1_5 => fX1_markLines_7 n v1_5 h))))
set_option maxRecDepth 100000 in
theorem jX1_markLines_7 {h0 : HS} : ∀ (n : Nat) (v1 : Int32) (h : HS), fX1_markLines_7 n v1 h = some h0 → Jx skC RX1 cX1_markLines 3 none 1 none h0 7 [some (.ref 5), some (.int v1), none] [] h := by
  intro n
  induction n with
  | zero => intro v1  h H; cases H
  | succ n ih =>
    intro v1  h H
    rw [fX1_markLines_7] at H
    refine j_iload_n (pc := 7) dX1_markLines_7 rfl ?_
    refine j_aload_n (pc := 8) dX1_markLines_8 rfl ?_
    refine j_getI (pc := 9) dX1_markLines_9 flX1_63 rfl ?_
    refine j_icmp_ge (pc := 12) (tgt := 123) dX1_markLines_12 (by decide) (fun c2 => ?_) (fun c2 => ?_)
    · rw [if_pos c2] at H
      exact j_return (pc := 123) dX1_markLines_123 rfl rfl (rv_2 H)
    · rw [if_neg c2] at H
      refine j_aload_n (pc := 15) dX1_markLines_15 rfl ?_
      refine j_getR (pc := 16) (b := 36) dX1_markLines_16 flX1_18 rfl ?_
      refine j_iload_n (pc := 19) dX1_markLines_19 rfl ?_
      obtain ⟨b3, H⟩ := ck_x H
      refine j_iaload (pc := 20) dX1_markLines_20 rfl b3 rfl ?_
      refine j_bipush (pc := 21) (v := 61) dX1_markLines_21 (by decide) ?_
      refine j_icmp_ne (pc := 23) (tgt := 117) dX1_markLines_23 (by decide) (fun c4 => ?_) (fun c4 => ?_)
      · rw [if_neg c4] at H
        obtain ⟨v1_5, ev1_5, H⟩ := nm_x H
        refine j_iinc (pc := 117) (L' := [some (.ref 5), some (.int v1_5), none]) (w := 1) dX1_markLines_117 rfl (by decide) (by decide) v1_5 ev1_5 rfl ?_
        refine j_goto (pc := 120) (tgt := 7) dX1_markLines_120 (by decide) ?_
        refine Jx.sub (L' := [some (.ref 5), some (.int v1_5), none]) (⟨rfl, ⟨rfl, trivial⟩⟩) ?_
        exact ih v1_5 h H
      · rw [if_pos c4] at H
        refine j_aload_n (pc := 26) dX1_markLines_26 rfl ?_
        refine j_getI (pc := 27) dX1_markLines_27 flX1_86 rfl ?_
        refine j_bipush (pc := 30) (v := 15) dX1_markLines_30 (by decide) ?_
        refine j_icmp_ge (pc := 32) (tgt := 117) dX1_markLines_32 (by decide) (fun c6 => ?_) (fun c6 => ?_)
        · rw [if_pos c6] at H
          obtain ⟨v1_7, ev1_7, H⟩ := nm_x H
          refine j_iinc (pc := 117) (L' := [some (.ref 5), some (.int v1_7), none]) (w := 1) dX1_markLines_117 rfl (by decide) (by decide) v1_7 ev1_7 rfl ?_
          refine j_goto (pc := 120) (tgt := 7) dX1_markLines_120 (by decide) ?_
          refine Jx.sub (L' := [some (.ref 5), some (.int v1_7), none]) (⟨rfl, ⟨rfl, trivial⟩⟩) ?_
          exact ih v1_7 h H
        · rw [if_neg c6] at H
          refine j_iload_n (pc := 35) dX1_markLines_35 rfl ?_
          refine j_iconst (pc := 36) (v := 2) dX1_markLines_36 (by decide) ?_
          refine j_icmp_lt (pc := 37) (tgt := 68) dX1_markLines_37 (by decide) (fun c8 => ?_) (fun c8 => ?_)
          · rw [if_pos c8] at H
            refine Jx.sub (L' := [some (.ref 5), some (.int v1), none]) (⟨rfl, ⟨rfl, trivial⟩⟩) ?_
            exact jX1_markLines_68 _ ih v1 h H
          · rw [if_neg c8] at H
            refine j_aload_n (pc := 40) dX1_markLines_40 rfl ?_
            refine j_getR (pc := 41) (b := 36) dX1_markLines_41 flX1_18 rfl ?_
            refine j_iload_n (pc := 44) dX1_markLines_44 rfl ?_
            refine j_iconst (pc := 45) (v := 2) dX1_markLines_45 (by decide) ?_
            refine j_isub (pc := 46) dX1_markLines_46 ?_
            obtain ⟨b9, H⟩ := ck_x H
            refine j_iaload (pc := 47) dX1_markLines_47 rfl b9 rfl ?_
            obtain ⟨r11, h10, eh10, H⟩ := bd_x H
            refine j_callSN (pc := 48) dX1_markLines_48 mlX1_89 wyX11_isDigit (tX11_isDigit eh10) (by decide) rfl (by simp [Value.category]) rfl ?_
            refine j_if_eq (pc := 51) (tgt := 68) dX1_markLines_51 (by decide) (fun c12 => ?_) (fun c12 => ?_)
            · rw [if_pos c12] at H
              refine Jx.sub (L' := [some (.ref 5), some (.int v1), none]) (⟨rfl, ⟨rfl, trivial⟩⟩) ?_
              exact jX1_markLines_68 _ ih v1 h10 H
            · rw [if_neg c12] at H
              refine j_aload_n (pc := 54) dX1_markLines_54 rfl ?_
              refine j_getR (pc := 55) (b := 36) dX1_markLines_55 flX1_18 rfl ?_
              refine j_iload_n (pc := 58) dX1_markLines_58 rfl ?_
              refine j_iconst (pc := 59) (v := 2) dX1_markLines_59 (by decide) ?_
              refine j_isub (pc := 60) dX1_markLines_60 ?_
              obtain ⟨b13, H⟩ := ck_x H
              refine j_iaload (pc := 61) dX1_markLines_61 rfl b13 rfl ?_
              refine j_bipush (pc := 62) (v := 48) dX1_markLines_62 (by decide) ?_
              refine j_isub (pc := 64) dX1_markLines_64 ?_
              refine j_goto (pc := 65) (tgt := 69) dX1_markLines_65 (by decide) ?_
              refine Jx.sub (L' := [some (.ref 5), some (.int v1), none]) (⟨rfl, ⟨rfl, trivial⟩⟩) ?_
              exact jX1_markLines_69 _ ih v1 (((gI h10 36 (v1 - (2 : Int32)).toNatClampNeg) - (48 : Int32))) h10 H
noncomputable def fX1_markLines (h : HS) : Option HS := nm (pI h 5 5 (0 : Int32)) (fun h1 => fX1_markLines_7 FU (1 : Int32) h1)
set_option maxRecDepth 100000 in
theorem tX1_markLines {h h0 : HS} (H : fX1_markLines h = some h0) : Cn skC yX1_markLines cX1_markLines 3 none 1 [.ref 5] h none h0 := by
  refine Cn_of (L := [some (.ref 5), none, none]) (by decide +kernel) (by simp [lg_sl, Value.category]) (fun ad => by simp [lg_sl, tv, Value.category]) (⟨rfl, trivial⟩) ?_
  unfold fX1_markLines at H
  refine j_aload_n (pc := 0) dX1_markLines_0 rfl ?_
  refine j_iconst (pc := 1) (v := 0) dX1_markLines_1 (by decide) ?_
  obtain ⟨h1, eh1, H⟩ := nm_x H
  refine j_putI (pc := 2) dX1_markLines_2 fpX1_86 rfl h1 eh1 ?_
  refine j_iconst (pc := 5) (v := 1) dX1_markLines_5 (by decide) ?_
  refine j_istore_n (pc := 6) (L' := [some (.ref 5), some (.int (1 : Int32)), none]) dX1_markLines_6 (by decide) rfl ?_
  refine Jx.sub (L' := [some (.ref 5), some (.int (1 : Int32)), none]) (⟨rfl, ⟨rfl, trivial⟩⟩) ?_
  exact jX1_markLines_7 FU (1 : Int32) h1 H

noncomputable def fX1_read_53 (p1 : Nat) (v2 : Int32) (h : HS) : Option (Int32 × HS) := bd (fX2_finish 14 v2 h) (fun r11 h10 => if r11 = (-1 : Int32) then (nm (pI h10 5 4 v2) (fun h13 => bA skC 1 p1 (fun n14 => ck (cpok (0 : Int32) (0 : Int32) (gI h13 5 4) n14 60) (nm (cpI h13 p1 36 (0 : Int32).toNatClampNeg (0 : Int32).toNatClampNeg (gI h13 5 4).toNatClampNeg) (fun h16 => bv (fX1_markLines h16) (fun h17 => some (r11, h17))))))) else (some (r11, h10)))
set_option maxRecDepth 100000 in
theorem jX1_read_53 {r : Int32} {h0 : HS} (p1 : Nat) (v2 : Int32) (h : HS) (H : fX1_read_53 p1 v2 h = some (r, h0)) : Jx skC RX1 cX1_read 4 (some .int) 32 (some (.int r)) h0 53 [some (.ref 5), some (.ref p1), some (.int v2), none] [] h := by
  unfold fX1_read_53 at H
  refine j_aload_n (pc := 53) dX1_read_53 rfl ?_
  refine j_getR (pc := 54) (b := 14) dX1_read_54 flX1_12 rfl ?_
  refine j_iload_n (pc := 57) dX1_read_57 rfl ?_
  obtain ⟨r11, h10, eh10, H⟩ := bd_x H
  refine j_callV (pc := 58) dX1_read_58 mlX1_59 wyX2_finish (tX2_finish rfl eh10) (by decide) rfl rfl rfl rfl (by simp [Value.category]) rfl ?_
  refine j_istore_n (pc := 61) (L' := [some (.ref 5), some (.ref p1), some (.int v2), some (.int r11)]) dX1_read_61 (by decide) rfl ?_
  refine j_iload_n (pc := 62) dX1_read_62 rfl ?_
  refine j_iconst (pc := 63) (v := -1) dX1_read_63 (by decide) ?_
  refine j_icmp_ne (pc := 64) (tgt := 90) dX1_read_64 (by decide) (fun c12 => ?_) (fun c12 => ?_)
  · rw [if_neg c12] at H
    refine j_iload_n (pc := 90) dX1_read_90 rfl ?_
    exact j_ireturn (pc := 91) dX1_read_91 rfl (ri_1 H) (ri_2 H)
  · rw [if_pos c12] at H
    refine j_aload_n (pc := 67) dX1_read_67 rfl ?_
    refine j_iload_n (pc := 68) dX1_read_68 rfl ?_
    obtain ⟨h13, eh13, H⟩ := nm_x H
    refine j_putI (pc := 69) dX1_read_69 fpX1_63 rfl h13 eh13 ?_
    refine j_aload_n (pc := 72) dX1_read_72 rfl ?_
    refine j_iconst (pc := 73) (v := 0) dX1_read_73 (by decide) ?_
    refine j_aload_n (pc := 74) dX1_read_74 rfl ?_
    refine j_getR (pc := 75) (b := 36) dX1_read_75 flX1_18 rfl ?_
    refine j_iconst (pc := 78) (v := 0) dX1_read_78 (by decide) ?_
    refine j_aload_n (pc := 79) dX1_read_79 rfl ?_
    refine j_getI (pc := 80) dX1_read_80 flX1_63 rfl ?_
    obtain ⟨n14, en14, H⟩ := bA_x H
    obtain ⟨b15, H⟩ := ck_x H
    obtain ⟨h16, eh16, H⟩ := nm_x H
    refine j_copyB (pc := 83) dX1_read_83 wcX1_67 en14 rfl b15 (by decide) h16 eh16 ?_
    refine j_aload_n (pc := 86) dX1_read_86 rfl ?_
    obtain ⟨h17, eh17, H⟩ := bv_x H
    refine j_callV (pc := 87) dX1_read_87 mlX1_73 wyX1_markLines (tX1_markLines eh17) (by decide) rfl rfl rfl rfl (by simp [Value.category]) rfl ?_
    refine j_iload_n (pc := 90) dX1_read_90 rfl ?_
    exact j_ireturn (pc := 91) dX1_read_91 rfl (ri_1 H) (ri_2 H)
noncomputable def fX1_read_25 (p1 : Nat) : Nat → Int32 → Int32 → HS → Option (Int32 × HS)
  | 0, _, _, _ => none
  | n + 1, v2, v3, h => if (60 : Int32) ≤ v3 then (fX1_read_53 p1 v2 h) else (bd (fX2_take 14 (59 : Int32) h) (fun r6 h5 => if r6 = 0 then (fX1_read_53 p1 v2 h5) else (bv (fX1_readLine h5) (fun h8 => nm (v3 + (1 : Int32)) (fun v3_9 => fX1_read_25 p1 n v2 v3_9 h8)))))
set_option maxRecDepth 100000 in
theorem jX1_read_25 {r : Int32} {h0 : HS} (p1 : Nat) : ∀ (n : Nat) (v2 : Int32) (v3 : Int32) (h : HS), fX1_read_25 p1 n v2 v3 h = some (r, h0) → Jx skC RX1 cX1_read 4 (some .int) 32 (some (.int r)) h0 25 [some (.ref 5), some (.ref p1), some (.int v2), some (.int v3)] [] h := by
  intro n
  induction n with
  | zero => intro v2 v3  h H; cases H
  | succ n ih =>
    intro v2 v3  h H
    rw [fX1_read_25] at H
    refine j_iload_n (pc := 25) dX1_read_25 rfl ?_
    refine j_bipush (pc := 26) (v := 60) dX1_read_26 (by decide) ?_
    refine j_icmp_ge (pc := 28) (tgt := 53) dX1_read_28 (by decide) (fun c4 => ?_) (fun c4 => ?_)
    · rw [if_pos c4] at H
      refine Jx.sub (L' := [some (.ref 5), some (.ref p1), some (.int v2), none]) (⟨rfl, ⟨rfl, ⟨rfl, trivial⟩⟩⟩) ?_
      exact jX1_read_53 p1 v2 h H
    · rw [if_neg c4] at H
      refine j_aload_n (pc := 31) dX1_read_31 rfl ?_
      refine j_getR (pc := 32) (b := 14) dX1_read_32 flX1_12 rfl ?_
      refine j_bipush (pc := 35) (v := 59) dX1_read_35 (by decide) ?_
      obtain ⟨r6, h5, eh5, H⟩ := bd_x H
      refine j_callV (pc := 37) dX1_read_37 mlX1_55 wyX2_take (tX2_take rfl eh5) (by decide) rfl rfl rfl rfl (by simp [Value.category]) rfl ?_
      refine j_if_eq (pc := 40) (tgt := 53) dX1_read_40 (by decide) (fun c7 => ?_) (fun c7 => ?_)
      · rw [if_pos c7] at H
        refine Jx.sub (L' := [some (.ref 5), some (.ref p1), some (.int v2), none]) (⟨rfl, ⟨rfl, ⟨rfl, trivial⟩⟩⟩) ?_
        exact jX1_read_53 p1 v2 h5 H
      · rw [if_neg c7] at H
        refine j_aload_n (pc := 43) dX1_read_43 rfl ?_
        obtain ⟨h8, eh8, H⟩ := bv_x H
        refine j_callV (pc := 44) dX1_read_44 mlX1_52 wyX1_readLine (tX1_readLine eh8) (by decide) rfl rfl rfl rfl (by simp [Value.category]) rfl ?_
        obtain ⟨v3_9, ev3_9, H⟩ := nm_x H
        refine j_iinc (pc := 47) (L' := [some (.ref 5), some (.ref p1), some (.int v2), some (.int v3_9)]) (w := 1) dX1_read_47 rfl (by decide) (by decide) v3_9 ev3_9 rfl ?_
        refine j_goto (pc := 50) (tgt := 25) dX1_read_50 (by decide) ?_
        refine Jx.sub (L' := [some (.ref 5), some (.ref p1), some (.int v2), some (.int v3_9)]) (⟨rfl, ⟨rfl, ⟨rfl, ⟨rfl, trivial⟩⟩⟩⟩) ?_
        exact ih v2 v3_9 h8 H
noncomputable def fX1_read (p1 : Nat) (p2 : Int32) (h : HS) : Option (Int32 × HS) := bv (fX2_begin 14 p1 (0 : Int32) ((imin p2 (60 : Int32))) h) (fun h1 => if p2 ≤ 0 then (fX1_read_25 p1 FU p2 (0 : Int32) h1) else (bv (fX1_readLine h1) (fun h3 => fX1_read_25 p1 FU p2 (0 : Int32) h3)))
set_option maxRecDepth 100000 in
theorem tX1_read {p1 : Nat} {p2 : Int32} {r : Int32} {h h0 : HS} (H : fX1_read p1 p2 h = some (r, h0)) : Cn skC yX1_read cX1_read 4 (some .int) 32 [.ref 5, .ref p1, .int p2] h (some (.int r)) h0 := by
  refine Cn_of (L := [some (.ref 5), some (.ref p1), some (.int p2), none]) (by decide +kernel) (by simp [lg_sl, Value.category]) (fun ad => by simp [lg_sl, tv, Value.category]) (⟨rfl, ⟨rfl, ⟨rfl, trivial⟩⟩⟩) ?_
  unfold fX1_read at H
  refine j_aload_n (pc := 0) dX1_read_0 rfl ?_
  refine j_getR (pc := 1) (b := 14) dX1_read_1 flX1_12 rfl ?_
  refine j_aload_n (pc := 4) dX1_read_4 rfl ?_
  refine j_iconst (pc := 5) (v := 0) dX1_read_5 (by decide) ?_
  refine j_iload_n (pc := 6) dX1_read_6 rfl ?_
  refine j_bipush (pc := 7) (v := 60) dX1_read_7 (by decide) ?_
  refine j_mmin (pc := 9) dX1_read_9 wmX1_42 (by simp [Value.category]) ?_
  obtain ⟨h1, eh1, H⟩ := bv_x H
  refine j_callV (pc := 12) dX1_read_12 mlX1_48 wyX2_begin (tX2_begin rfl eh1) (by decide) rfl rfl rfl rfl (by simp [Value.category]) rfl ?_
  refine j_iload_n (pc := 15) dX1_read_15 rfl ?_
  refine j_if_le (pc := 16) (tgt := 23) dX1_read_16 (by decide) (fun c2 => ?_) (fun c2 => ?_)
  · rw [if_pos c2] at H
    refine j_iconst (pc := 23) (v := 0) dX1_read_23 (by decide) ?_
    refine j_istore_n (pc := 24) (L' := [some (.ref 5), some (.ref p1), some (.int p2), some (.int (0 : Int32))]) dX1_read_24 (by decide) rfl ?_
    refine Jx.sub (L' := [some (.ref 5), some (.ref p1), some (.int p2), some (.int (0 : Int32))]) (⟨rfl, ⟨rfl, ⟨rfl, ⟨rfl, trivial⟩⟩⟩⟩) ?_
    exact jX1_read_25 p1 FU p2 (0 : Int32) h1 H
  · rw [if_neg c2] at H
    refine j_aload_n (pc := 19) dX1_read_19 rfl ?_
    obtain ⟨h3, eh3, H⟩ := bv_x H
    refine j_callV (pc := 20) dX1_read_20 mlX1_52 wyX1_readLine (tX1_readLine eh3) (by decide) rfl rfl rfl rfl (by simp [Value.category]) rfl ?_
    refine j_iconst (pc := 23) (v := 0) dX1_read_23 (by decide) ?_
    refine j_istore_n (pc := 24) (L' := [some (.ref 5), some (.ref p1), some (.int p2), some (.int (0 : Int32))]) dX1_read_24 (by decide) rfl ?_
    refine Jx.sub (L' := [some (.ref 5), some (.ref p1), some (.int p2), some (.int (0 : Int32))]) (⟨rfl, ⟨rfl, ⟨rfl, ⟨rfl, trivial⟩⟩⟩⟩) ?_
    exact jX1_read_25 p1 FU p2 (0 : Int32) h3 H

noncomputable def fX1_valueOf (p1 : Int32) (h : HS) : Option (Int32 × HS) := bd (fX0_heavyAt (0 : Int32) h) (fun r2 h1 => nm (pI h1 5 11 r2) (fun h3 => bd (fX0_momentNow h3) (fun r5 h4 => nm (pI h4 5 12 r5) (fun h6 => bd (fX0_listNow h6) (fun r8 h7 => nm (pI h7 5 13 r8) (fun h9 => bd (fX10_densityAt (0 : Int32) h9) (fun r11 h10 => nm (pI h10 5 14 r11) (fun h12 => ck (inb p1 15) (bv (fX2_begin 14 36 ((gI h12 38 p1.toNatClampNeg)) ((gI h12 5 4)) h12) (fun h14 => bd (gX1_expression (0 : Int32) h14) (fun r16 h15 => some (r16, h15))))))))))))
set_option maxRecDepth 100000 in
theorem tX1_valueOf {p1 : Int32} {r : Int32} {h h0 : HS} (H : fX1_valueOf p1 h = some (r, h0)) : Cn skC yX1_valueOf cX1_valueOf 2 (some .int) 31 [.ref 5, .int p1] h (some (.int r)) h0 := by
  refine Cn_of (L := [some (.ref 5), some (.int p1)]) (by decide +kernel) (by simp [lg_sl, Value.category]) (fun ad => by simp [lg_sl, tv, Value.category]) (⟨rfl, ⟨rfl, trivial⟩⟩) ?_
  unfold fX1_valueOf at H
  refine j_aload_n (pc := 0) dX1_valueOf_0 rfl ?_
  refine j_aload_n (pc := 1) dX1_valueOf_1 rfl ?_
  refine j_getR (pc := 2) (b := 1) dX1_valueOf_2 flX1_31 rfl ?_
  refine j_iconst (pc := 5) (v := 0) dX1_valueOf_5 (by decide) ?_
  obtain ⟨r2, h1, eh1, H⟩ := bd_x H
  refine j_callV (pc := 6) dX1_valueOf_6 mlX1_92 wyX0_heavyAt (tX0_heavyAt eh1) (by decide) rfl rfl rfl rfl (by simp [Value.category]) rfl ?_
  obtain ⟨h3, eh3, H⟩ := nm_x H
  refine j_putI (pc := 9) dX1_valueOf_9 fpX1_95 rfl h3 eh3 ?_
  refine j_aload_n (pc := 12) dX1_valueOf_12 rfl ?_
  refine j_aload_n (pc := 13) dX1_valueOf_13 rfl ?_
  refine j_getR (pc := 14) (b := 1) dX1_valueOf_14 flX1_31 rfl ?_
  obtain ⟨r5, h4, eh4, H⟩ := bd_x H
  refine j_callV (pc := 17) dX1_valueOf_17 mlX1_98 wyX0_momentNow (tX0_momentNow eh4) (by decide) rfl rfl rfl rfl (by simp [Value.category]) rfl ?_
  obtain ⟨h6, eh6, H⟩ := nm_x H
  refine j_putI (pc := 20) dX1_valueOf_20 fpX1_102 rfl h6 eh6 ?_
  refine j_aload_n (pc := 23) dX1_valueOf_23 rfl ?_
  refine j_aload_n (pc := 24) dX1_valueOf_24 rfl ?_
  refine j_getR (pc := 25) (b := 1) dX1_valueOf_25 flX1_31 rfl ?_
  obtain ⟨r8, h7, eh7, H⟩ := bd_x H
  refine j_callV (pc := 28) dX1_valueOf_28 mlX1_104 wyX0_listNow (tX0_listNow eh7) (by decide) rfl rfl rfl rfl (by simp [Value.category]) rfl ?_
  obtain ⟨h9, eh9, H⟩ := nm_x H
  refine j_putI (pc := 31) dX1_valueOf_31 fpX1_107 rfl h9 eh9 ?_
  refine j_aload_n (pc := 34) dX1_valueOf_34 rfl ?_
  refine j_aload_n (pc := 35) dX1_valueOf_35 rfl ?_
  refine j_getR (pc := 36) (b := 1) dX1_valueOf_36 flX1_31 rfl ?_
  refine j_getR (pc := 39) (b := 3) dX1_valueOf_39 flX1_109 rfl ?_
  refine j_iconst (pc := 42) (v := 0) dX1_valueOf_42 (by decide) ?_
  obtain ⟨r11, h10, eh10, H⟩ := bd_x H
  refine j_callV (pc := 43) dX1_valueOf_43 mlX1_113 wyX10_densityAt (tX10_densityAt eh10) (by decide) rfl rfl rfl rfl (by simp [Value.category]) rfl ?_
  obtain ⟨h12, eh12, H⟩ := nm_x H
  refine j_putI (pc := 46) dX1_valueOf_46 fpX1_118 rfl h12 eh12 ?_
  refine j_aload_n (pc := 49) dX1_valueOf_49 rfl ?_
  refine j_getR (pc := 50) (b := 14) dX1_valueOf_50 flX1_12 rfl ?_
  refine j_aload_n (pc := 53) dX1_valueOf_53 rfl ?_
  refine j_getR (pc := 54) (b := 36) dX1_valueOf_54 flX1_18 rfl ?_
  refine j_aload_n (pc := 57) dX1_valueOf_57 rfl ?_
  refine j_getR (pc := 58) (b := 38) dX1_valueOf_58 flX1_25 rfl ?_
  refine j_iload_n (pc := 61) dX1_valueOf_61 rfl ?_
  obtain ⟨b13, H⟩ := ck_x H
  refine j_iaload (pc := 62) dX1_valueOf_62 rfl b13 rfl ?_
  refine j_aload_n (pc := 63) dX1_valueOf_63 rfl ?_
  refine j_getI (pc := 64) dX1_valueOf_64 flX1_63 rfl ?_
  obtain ⟨h14, eh14, H⟩ := bv_x H
  refine j_callV (pc := 67) dX1_valueOf_67 mlX1_48 wyX2_begin (tX2_begin rfl eh14) (by decide) rfl rfl rfl rfl (by simp [Value.category]) rfl ?_
  refine j_aload_n (pc := 70) dX1_valueOf_70 rfl ?_
  refine j_iconst (pc := 71) (v := 0) dX1_valueOf_71 (by decide) ?_
  obtain ⟨r16, h15, eh15, H⟩ := bd_x H
  refine j_callV (pc := 72) dX1_valueOf_72 mlX1_83 wyX1_expression (tgX1_expression eh15) (by decide) rfl rfl rfl rfl (by simp [Value.category]) rfl ?_
  exact j_ireturn (pc := 75) dX1_valueOf_75 rfl (ri_1 H) (ri_2 H)

noncomputable def fX1_doMorning_14 : Nat → Int32 → Int32 → HS → Option (Int32 × HS)
  | 0, _, _, _ => none
  | n + 1, v1, v2, h => if (gI h 5 5) ≤ v2 then (some (v1, h)) else (ck (inb v2 15) (nm ((gI h 37 v2.toNatClampNeg)) (fun v3_5 => ck (inb v2 15) (nm (pI h 39 v2.toNatClampNeg (-1 : Int32)) (fun h6 => bd (fX4_isA v3_5 (0 : Int32) h6) (fun r9 h8 => if r9 = 0 then (nm (v2 + (1 : Int32)) (fun v2_11 => fX1_doMorning_14 n v1 v2_11 h8)) else (ck (inb v3_5 15) (ck (inb v2 15) (nm (pI h8 39 v2.toNatClampNeg (gI h8 30 v3_5.toNatClampNeg)) (fun h13 => bd (fX1_valueOf v2 h13) (fun r16 h15 => bv (fX4_put v3_5 r16 h15) (fun h17 => ck (inb v3_5 15) (ck (inb v2 15) (nm (pI h17 5 9 ((gI h17 5 9) + (imax (0 : Int32) ((gI h17 30 v3_5.toNatClampNeg) - (gI h17 39 v2.toNatClampNeg))))) (fun h20 => ck (inb v2 15) (ck (inb v3_5 15) (nm (pI h20 5 10 ((gI h20 5 10) + (imax (0 : Int32) ((gI h20 39 v2.toNatClampNeg) - (gI h20 30 v3_5.toNatClampNeg))))) (fun h23 => nm (v1 + (1 : Int32)) (fun v1_24 => nm (v2 + (1 : Int32)) (fun v2_25 => fX1_doMorning_14 n v1_24 v2_25 h23))))))))))))))))))))
set_option maxRecDepth 100000 in
theorem jX1_doMorning_14 {r : Int32} {h0 : HS} : ∀ (n : Nat) (v1 : Int32) (v2 : Int32) (h : HS), fX1_doMorning_14 n v1 v2 h = some (r, h0) → Jx skC RX1 cX1_doMorning 4 (some .int) 32 (some (.int r)) h0 14 [some (.ref 5), some (.int v1), some (.int v2), none] [] h := by
  intro n
  induction n with
  | zero => intro v1 v2  h H; cases H
  | succ n ih =>
    intro v1 v2  h H
    rw [fX1_doMorning_14] at H
    refine j_iload_n (pc := 14) dX1_doMorning_14 rfl ?_
    refine j_aload_n (pc := 15) dX1_doMorning_15 rfl ?_
    refine j_getI (pc := 16) dX1_doMorning_16 flX1_86 rfl ?_
    refine j_icmp_ge (pc := 19) (tgt := 143) dX1_doMorning_19 (by decide) (fun c3 => ?_) (fun c3 => ?_)
    · rw [if_pos c3] at H
      refine j_iload_n (pc := 143) dX1_doMorning_143 rfl ?_
      exact j_ireturn (pc := 144) dX1_doMorning_144 rfl (ri_1 H) (ri_2 H)
    · rw [if_neg c3] at H
      refine j_aload_n (pc := 22) dX1_doMorning_22 rfl ?_
      refine j_getR (pc := 23) (b := 37) dX1_doMorning_23 flX1_22 rfl ?_
      refine j_iload_n (pc := 26) dX1_doMorning_26 rfl ?_
      obtain ⟨b4, H⟩ := ck_x H
      refine j_iaload (pc := 27) dX1_doMorning_27 rfl b4 rfl ?_
      obtain ⟨v3_5, ev3_5, H⟩ := nm_x H
      refine j_topi ev3_5 ?_
      refine j_istore_n (pc := 28) (L' := [some (.ref 5), some (.int v1), some (.int v2), some (.int v3_5)]) dX1_doMorning_28 (by decide) rfl ?_
      refine j_aload_n (pc := 29) dX1_doMorning_29 rfl ?_
      refine j_getR (pc := 30) (b := 39) dX1_doMorning_30 flX1_28 rfl ?_
      refine j_iload_n (pc := 33) dX1_doMorning_33 rfl ?_
      refine j_iconst (pc := 34) (v := -1) dX1_doMorning_34 (by decide) ?_
      obtain ⟨b7, H⟩ := ck_x H
      obtain ⟨h6, eh6, H⟩ := nm_x H
      refine j_iastore (pc := 35) dX1_doMorning_35 rfl b7 rfl h6 eh6 ?_
      refine j_aload_n (pc := 36) dX1_doMorning_36 rfl ?_
      refine j_getR (pc := 37) (b := 2) dX1_doMorning_37 flX1_41 rfl ?_
      refine j_iload_n (pc := 40) dX1_doMorning_40 rfl ?_
      refine j_iconst (pc := 41) (v := 0) dX1_doMorning_41 (by decide) ?_
      obtain ⟨r9, h8, eh8, H⟩ := bd_x H
      refine j_callV (pc := 42) dX1_doMorning_42 mlX1_159 wyX4_isA (tX4_isA eh8) (by decide) rfl rfl rfl rfl (by simp [Value.category]) rfl ?_
      refine j_if_eq (pc := 45) (tgt := 137) dX1_doMorning_45 (by decide) (fun c10 => ?_) (fun c10 => ?_)
      · rw [if_pos c10] at H
        obtain ⟨v2_11, ev2_11, H⟩ := nm_x H
        refine j_iinc (pc := 137) (L' := [some (.ref 5), some (.int v1), some (.int v2_11), some (.int v3_5)]) (w := 1) dX1_doMorning_137 rfl (by decide) (by decide) v2_11 ev2_11 rfl ?_
        refine j_goto (pc := 140) (tgt := 14) dX1_doMorning_140 (by decide) ?_
        refine Jx.sub (L' := [some (.ref 5), some (.int v1), some (.int v2_11), none]) (⟨rfl, ⟨rfl, ⟨rfl, trivial⟩⟩⟩) ?_
        exact ih v1 v2_11 h8 H
      · rw [if_neg c10] at H
        refine j_aload_n (pc := 48) dX1_doMorning_48 rfl ?_
        refine j_getR (pc := 49) (b := 39) dX1_doMorning_49 flX1_28 rfl ?_
        refine j_iload_n (pc := 52) dX1_doMorning_52 rfl ?_
        refine j_aload_n (pc := 53) dX1_doMorning_53 rfl ?_
        refine j_getR (pc := 54) (b := 2) dX1_doMorning_54 flX1_41 rfl ?_
        refine j_getR (pc := 57) (b := 30) dX1_doMorning_57 flX1_141 rfl ?_
        refine j_iload_n (pc := 60) dX1_doMorning_60 rfl ?_
        obtain ⟨b12, H⟩ := ck_x H
        refine j_iaload (pc := 61) dX1_doMorning_61 rfl b12 rfl ?_
        obtain ⟨b14, H⟩ := ck_x H
        obtain ⟨h13, eh13, H⟩ := nm_x H
        refine j_iastore (pc := 62) dX1_doMorning_62 rfl b14 rfl h13 eh13 ?_
        refine j_aload_n (pc := 63) dX1_doMorning_63 rfl ?_
        refine j_getR (pc := 64) (b := 2) dX1_doMorning_64 flX1_41 rfl ?_
        refine j_iload_n (pc := 67) dX1_doMorning_67 rfl ?_
        refine j_aload_n (pc := 68) dX1_doMorning_68 rfl ?_
        refine j_iload_n (pc := 69) dX1_doMorning_69 rfl ?_
        obtain ⟨r16, h15, eh15, H⟩ := bd_x H
        refine j_callV (pc := 70) dX1_doMorning_70 mlX1_163 wyX1_valueOf (tX1_valueOf eh15) (by decide) rfl rfl rfl rfl (by simp [Value.category]) rfl ?_
        obtain ⟨h17, eh17, H⟩ := bv_x H
        refine j_callV (pc := 73) dX1_doMorning_73 mlX1_166 wyX4_put (tX4_put eh17) (by decide) rfl rfl rfl rfl (by simp [Value.category]) rfl ?_
        refine j_aload_n (pc := 76) dX1_doMorning_76 rfl ?_
        refine j_dup (pc := 77) dX1_doMorning_77 rfl ?_
        refine j_getI (pc := 78) dX1_doMorning_78 flX1_153 rfl ?_
        refine j_iconst (pc := 81) (v := 0) dX1_doMorning_81 (by decide) ?_
        refine j_aload_n (pc := 82) dX1_doMorning_82 rfl ?_
        refine j_getR (pc := 83) (b := 2) dX1_doMorning_83 flX1_41 rfl ?_
        refine j_getR (pc := 86) (b := 30) dX1_doMorning_86 flX1_141 rfl ?_
        refine j_iload_n (pc := 89) dX1_doMorning_89 rfl ?_
        obtain ⟨b18, H⟩ := ck_x H
        refine j_iaload (pc := 90) dX1_doMorning_90 rfl b18 rfl ?_
        refine j_aload_n (pc := 91) dX1_doMorning_91 rfl ?_
        refine j_getR (pc := 92) (b := 39) dX1_doMorning_92 flX1_28 rfl ?_
        refine j_iload_n (pc := 95) dX1_doMorning_95 rfl ?_
        obtain ⟨b19, H⟩ := ck_x H
        refine j_iaload (pc := 96) dX1_doMorning_96 rfl b19 rfl ?_
        refine j_isub (pc := 97) dX1_doMorning_97 ?_
        refine j_mmax (pc := 98) dX1_doMorning_98 wmX1_170 (by simp [Value.category]) ?_
        refine j_iadd (pc := 101) dX1_doMorning_101 ?_
        obtain ⟨h20, eh20, H⟩ := nm_x H
        refine j_putI (pc := 102) dX1_doMorning_102 fpX1_153 rfl h20 eh20 ?_
        refine j_aload_n (pc := 105) dX1_doMorning_105 rfl ?_
        refine j_dup (pc := 106) dX1_doMorning_106 rfl ?_
        refine j_getI (pc := 107) dX1_doMorning_107 flX1_156 rfl ?_
        refine j_iconst (pc := 110) (v := 0) dX1_doMorning_110 (by decide) ?_
        refine j_aload_n (pc := 111) dX1_doMorning_111 rfl ?_
        refine j_getR (pc := 112) (b := 39) dX1_doMorning_112 flX1_28 rfl ?_
        refine j_iload_n (pc := 115) dX1_doMorning_115 rfl ?_
        obtain ⟨b21, H⟩ := ck_x H
        refine j_iaload (pc := 116) dX1_doMorning_116 rfl b21 rfl ?_
        refine j_aload_n (pc := 117) dX1_doMorning_117 rfl ?_
        refine j_getR (pc := 118) (b := 2) dX1_doMorning_118 flX1_41 rfl ?_
        refine j_getR (pc := 121) (b := 30) dX1_doMorning_121 flX1_141 rfl ?_
        refine j_iload_n (pc := 124) dX1_doMorning_124 rfl ?_
        obtain ⟨b22, H⟩ := ck_x H
        refine j_iaload (pc := 125) dX1_doMorning_125 rfl b22 rfl ?_
        refine j_isub (pc := 126) dX1_doMorning_126 ?_
        refine j_mmax (pc := 127) dX1_doMorning_127 wmX1_170 (by simp [Value.category]) ?_
        refine j_iadd (pc := 130) dX1_doMorning_130 ?_
        obtain ⟨h23, eh23, H⟩ := nm_x H
        refine j_putI (pc := 131) dX1_doMorning_131 fpX1_156 rfl h23 eh23 ?_
        obtain ⟨v1_24, ev1_24, H⟩ := nm_x H
        refine j_iinc (pc := 134) (L' := [some (.ref 5), some (.int v1_24), some (.int v2), some (.int v3_5)]) (w := 1) dX1_doMorning_134 rfl (by decide) (by decide) v1_24 ev1_24 rfl ?_
        obtain ⟨v2_25, ev2_25, H⟩ := nm_x H
        refine j_iinc (pc := 137) (L' := [some (.ref 5), some (.int v1_24), some (.int v2_25), some (.int v3_5)]) (w := 1) dX1_doMorning_137 rfl (by decide) (by decide) v2_25 ev2_25 rfl ?_
        refine j_goto (pc := 140) (tgt := 14) dX1_doMorning_140 (by decide) ?_
        refine Jx.sub (L' := [some (.ref 5), some (.int v1_24), some (.int v2_25), none]) (⟨rfl, ⟨rfl, ⟨rfl, trivial⟩⟩⟩) ?_
        exact ih v1_24 v2_25 h23 H
noncomputable def fX1_doMorning (h : HS) : Option (Int32 × HS) := nm (pI h 5 9 (0 : Int32)) (fun h1 => nm (pI h1 5 10 (0 : Int32)) (fun h2 => fX1_doMorning_14 FU (0 : Int32) (0 : Int32) h2))
set_option maxRecDepth 100000 in
theorem tX1_doMorning {r : Int32} {h h0 : HS} (H : fX1_doMorning h = some (r, h0)) : Cn skC yX1_doMorning cX1_doMorning 4 (some .int) 32 [.ref 5] h (some (.int r)) h0 := by
  refine Cn_of (L := [some (.ref 5), none, none, none]) (by decide +kernel) (by simp [lg_sl, Value.category]) (fun ad => by simp [lg_sl, tv, Value.category]) (⟨rfl, trivial⟩) ?_
  unfold fX1_doMorning at H
  refine j_iconst (pc := 0) (v := 0) dX1_doMorning_0 (by decide) ?_
  refine j_istore_n (pc := 1) (L' := [some (.ref 5), some (.int (0 : Int32)), none, none]) dX1_doMorning_1 (by decide) rfl ?_
  refine j_aload_n (pc := 2) dX1_doMorning_2 rfl ?_
  refine j_iconst (pc := 3) (v := 0) dX1_doMorning_3 (by decide) ?_
  obtain ⟨h1, eh1, H⟩ := nm_x H
  refine j_putI (pc := 4) dX1_doMorning_4 fpX1_153 rfl h1 eh1 ?_
  refine j_aload_n (pc := 7) dX1_doMorning_7 rfl ?_
  refine j_iconst (pc := 8) (v := 0) dX1_doMorning_8 (by decide) ?_
  obtain ⟨h2, eh2, H⟩ := nm_x H
  refine j_putI (pc := 9) dX1_doMorning_9 fpX1_156 rfl h2 eh2 ?_
  refine j_iconst (pc := 12) (v := 0) dX1_doMorning_12 (by decide) ?_
  refine j_istore_n (pc := 13) (L' := [some (.ref 5), some (.int (0 : Int32)), some (.int (0 : Int32)), none]) dX1_doMorning_13 (by decide) rfl ?_
  refine Jx.sub (L' := [some (.ref 5), some (.int (0 : Int32)), some (.int (0 : Int32)), none]) (⟨rfl, ⟨rfl, ⟨rfl, trivial⟩⟩⟩) ?_
  exact jX1_doMorning_14 FU (0 : Int32) (0 : Int32) h2 H
